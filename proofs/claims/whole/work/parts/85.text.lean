/-! WORK RUN TO ITS END; TEXTS, ABSTRACT; the clause of a sort -/
section WR
variable {n z C t : Nat} {I : Nat → Nat → Int32} {J : Nat → Nat → Int64} {u : Option Nat}
def rCode (z x8 : Nat) (I : Nat → Nat → Int32) (cd : Nat → Nat × Nat) (i e : Nat) : Prop := ∀ j, i ≤ j → j < e → I (z + 85) (x8 + 2 * j) = nI (cd j).1 ∧ I (z + 85) (x8 + 2 * j + 1) = nI (cd j).2
theorem w_run {x4 x8 e : Nat} {nm : Nat → Int} {cd : Nat → Nat × Nat} (he : e ≤ 300) (hx4 : x4 ≤ 2190) (hx8 : x8 ≤ 2185) (hend : I (z + 85) (x4 + 2) = nI e) {n' k' : Nat} :
    ∀ (d i f : Nat) (s : AS) (tb : Nat → Int32) (vj : Nat → Int64), i + d = e → d < f → shpA cd d i s.1 s.2.2.1 n' k' → s.1 + s.2.2.1 ≤ 60 → rCode z x8 I cd i e → cName (I (z + 88)) nm cd i e → bdA s → RRs tb vj s →
    ∃ tb' vj', wL n z x4 x8 f s.1 s.2.2.1 i (mk z C (upr I (z + 90) tb) (upr J (z + 89) vj) t u) = some (mk z C (upr I (z + 90) tb') (upr J (z + 89) vj') t u) ∧ RRs tb' vj' (runA nm cd d i s) := by
  intro d
  induction d with
  | zero =>
    intro i f s tb vj hi hf hs hm hc hn hb hr
    obtain ⟨f, rfl⟩ : ∃ m, f = m + 1 := ⟨f - 1, by omega⟩
    refine ⟨tb, vj, ?_, hr⟩
    have q1 : mI (mk z C (upr I (z + 90) tb) (upr J (z + 89) vj) t u) (z + 85) (x4 + 2) = nI e := by rw [mI_mk, upr_ne (by omega), hend]
    unfold wL
    rw [f_X11_work_L47]
    simp only [jn]
    rw [g83_5, n85, show nI x4 + (2 : Int32) = nI (x4 + 2) from nI_pl x4 2, ck_t (inb_nI (by omega) (by omega)), cl_nI (by omega), if_pos (show mI (mk z C (upr I (z + 90) tb) (upr J (z + 89) vj) t u) (z + 85) (x4 + 2) ≤ nI i by rw [q1, nI_le' (by omega) (by omega)]; omega)]
  | succ d ih =>
    intro i f s tb vj hi hf hs hm hc hn hb hr
    obtain ⟨f, rfl⟩ : ∃ m, f = m + 1 := ⟨f - 1, by omega⟩
    obtain ⟨hok, hs2⟩ := hs
    obtain ⟨tb1, vj1, e1, hr1⟩ := w_one (n := n) (C := C) (J := J) (t := t) (u := u) (f := f) (e := e) (i := i) (nm := nm) (by omega) he hx4 hx8 hend hok hm (hc i (Nat.le_refl _) (by omega)).1 (hc i (Nat.le_refl _) (by omega)).2 (fun h => hn i (Nat.le_refl _) (by omega) h) hb hr
    have hnk := stepA_nk nm (cd i) s
    obtain ⟨tb2, vj2, e2, r1⟩ := ih (i + 1) f (stepA nm (cd i) s) tb1 vj1 (by omega) (by omega) (by rw [hnk.1, hnk.2]; exact hs2) (okA_room hok hm) (fun j h1 h2 => hc j (by omega) h2) (fun j h1 h2 => hn j (by omega) h2) (stepA_small hok hb (fun h => (hn i (Nat.le_refl _) (by omega) h).1)) hr1
    exact ⟨tb2, vj2, e1.trans e2, r1⟩
theorem uprJ_self (J : Nat → Nat → Int64) (a : Nat) : upr J a (J a) = J := by
  funext b j
  simp only [upr]
  split
  · next h => rw [h]
  · rfl
theorem s_workR (hn : 100000 ≤ n) {nm : Nat → Int} {cd : Nat → Nat × Nat} {r cl0 a e : Nat} (hr : r < 4) (hcl : cl0 < 20) (hae : a ≤ e) (he : e ≤ 300) (h4 : I (z + 84) 4 = nI r) (h1 : I (z + 85) (700 * r + 1 + 4 * cl0 + 1) = nI a) (h2 : I (z + 85) (700 * r + 1 + 4 * cl0 + 2) = nI e) (hc : rCode z (700 * r + 85) I cd a e) (hnm : cName (I (z + 88)) nm cd a e) {n' k' : Nat} (hs : shpA cd (e - a) a 0 0 n' k') :
    ∃ tb vj, f_X11_work n (z + 83) (nI cl0) (mk z C I J t u) = some (mk z C (upr I (z + 90) tb) (upr J (z + 89) vj) t u) ∧ RRs tb vj (runA nm cd (e - a) a aS0) := by
  obtain ⟨tb, vj, e1, r1⟩ := w_run (n := n) (z := z) (C := C) (I := I) (J := J) (t := t) (u := u) (nm := nm) (cd := cd) (x4 := 700 * r + 1 + 4 * cl0) (x8 := 700 * r + 85) he (by omega) (by omega) h2 (e - a) a n aS0 (I (z + 90)) (J (z + 89)) (by omega) (by omega) hs (by decide) hc hnm (fun j hj => absurd hj (Nat.not_lt_zero j)) ⟨fun j hj => absurd hj (Nat.not_lt_zero j), fun j hj => absurd hj (Nat.not_lt_zero j)⟩
  refine ⟨tb, vj, ?_, r1⟩
  rw [upr_self, uprJ_self] at e1
  unfold f_X11_work
  simp only [bd]
  have x1 : (700 : Int32) * nI r + (1 : Int32) + (4 : Int32) * nI cl0 = nI (700 * r + 1 + 4 * cl0) := by
    rw [show (700 : Int32) * nI r = nI (700 * r) from nI_ml 700 r, show (4 : Int32) * nI cl0 = nI (4 * cl0) from nI_ml 4 cl0, show (1 : Int32) = nI 1 from rfl, nI_pl, nI_pl]
  have x2 : (700 : Int32) * nI r + (85 : Int32) = nI (700 * r + 85) := by
    rw [show (700 : Int32) * nI r = nI (700 * r) from nI_ml 700 r, show (85 : Int32) = nI 85 from rfl, nI_pl]
  have x3 : nI (700 * r + 1 + 4 * cl0) + (1 : Int32) = nI (700 * r + 1 + 4 * cl0 + 1) := nI_pl _ 1
  rw [g83_0, n84, ck_t (by decide), g83_0, n84, ck_t (by decide), mI_mk, show (4 : Int32).toNatClampNeg = 4 from rfl, h4, x1, x2, g83_5, n85, x3, ck_t (inb_nI (by omega) (by omega)), cl_nI (by omega), mI_mk, h1]
  exact e1
end WR
/-- a text: clauses, sorts, from (or number), to (or x), y, code, size -/
abbrev XT : Type := Nat × (Nat → Nat) × (Nat → Nat) × (Nat → Nat) × (Nat → Nat) × (Nat → Nat × Nat) × Nat
def xm (X : XT) : Nat := X.1
def xs (X : XT) : Nat → Nat := X.2.1
def xa (X : XT) : Nat → Nat := X.2.2.1
def xe (X : XT) : Nat → Nat := X.2.2.2.1
def xy (X : XT) : Nat → Nat := X.2.2.2.2.1
def xc (X : XT) : Nat → Nat × Nat := X.2.2.2.2.2.1
def xz (X : XT) : Nat := X.2.2.2.2.2.2
/-- a name that a sort of clause may have -/
def isOfN (s v : Nat) : Bool := if s = 2 then decide (8 < v) || decide (v = 3) || decide (v = 4) else decide (v < 6) || (decide (s = 1) && decide (v < 8)) || (decide (s = 3) && decide (v = 8))
def XW (X : XT) : Prop := xm X ≤ 20 ∧ xz X ≤ 300 ∧ (∀ i, i < xm X → xs X i ≤ 5) ∧ (∀ i j, i < xm X → j < xm X → xs X i = xs X j → xs X i ≤ 2 → i = j) ∧
  (∀ i, i < xm X → xs X i ≤ 3 → xa X i ≤ xe X i ∧ xe X i ≤ xz X ∧ shpA (xc X) (xe X i - xa X i) (xa X i) 0 0 (if xs X i = 3 then 0 else 1) (if xs X i = 3 then 1 else 0) ∧ ∀ j, xa X i ≤ j → j < xe X i → (2 ≤ (xc X j).1 → (xc X j).2 = 0) ∧ ((xc X j).1 = 1 → isOfN (xs X i) (xc X j).2 = true)) ∧
  (∀ i, i < xm X → 4 ≤ xs X i → (xs X i = 4 → 1 ≤ xa X i ∧ xa X i ≤ 99) ∧ (xs X i = 5 → xa X i ≤ 5) ∧ xe X i ≤ 7 ∧ xy X i ≤ 5)
def ClsX (z k : Nat) (I : Nat → Nat → Int32) (X : XT) : Prop := I (z + (97 + 6 * k)) 5 = nI (xm X) ∧ I (z + (97 + 6 * k)) 6 = nI (xz X) ∧
  (∀ s, s < 3 → (∀ i, i < xm X → xs X i = s → I (z + (97 + 6 * k)) (7 + s) = nI i) ∧ ((∀ i, i < xm X → xs X i ≠ s) → I (z + (97 + 6 * k)) (7 + s) = -1)) ∧
  (∀ i, i < xm X → I (z + (97 + 6 * k + 1 + 0)) i = nI (xs X i + 18) ∧ I (z + (97 + 6 * k + 1 + 1)) i = nI (xa X i) ∧ I (z + (97 + 6 * k + 1 + 2)) i = nI (xe X i) ∧ (4 ≤ xs X i → I (z + (97 + 6 * k + 1 + 3)) i = nI (xy X i))) ∧
  (∀ j, j < xz X → I (z + (97 + 6 * k + 1 + 4)) j = nI ((xc X j).2 * 64 + sg (xc X j).1))
def RefX (z k : Nat) (I : Nat → Nat → Int32) (X : XT) : Prop := I (z + 85) (700 * k) = nI (xm X) ∧
  (∀ i, i < xm X → I (z + 85) (700 * k + 1 + 4 * i) = nI (xs X i) ∧ I (z + 85) (700 * k + 1 + 4 * i + 1) = nI (xa X i) ∧ I (z + 85) (700 * k + 1 + 4 * i + 2) = nI (xe X i) ∧ (4 ≤ xs X i → I (z + 85) (700 * k + 1 + 4 * i + 3) = nI (xy X i))) ∧
  (∀ j, j < xz X → I (z + 85) (700 * k + 85 + 2 * j) = nI (xc X j).1 ∧ I (z + 85) (700 * k + 85 + 2 * j + 1) = nI (xc X j).2)
/-- what is said of the texts -/
def TXx (z : Nat) : TXty := fun I t k => k ≤ t ∧ ∀ r, r < k → ∃ X, XW X ∧ ClsX z r I X ∧ RefX z r I X
theorem ClsX.congr {z k : Nat} {I I' : Nat → Nat → Int32} {X : XT} (h : ∀ q, z + 97 ≤ q → I' q = I q) (hX : ClsX z k I X) : ClsX z k I' X := by
  unfold ClsX at hX ⊢
  rw [h _ (by omega), h (z + (97 + 6 * k + 1 + 0)) (by omega), h (z + (97 + 6 * k + 1 + 1)) (by omega), h (z + (97 + 6 * k + 1 + 2)) (by omega), h (z + (97 + 6 * k + 1 + 3)) (by omega), h (z + (97 + 6 * k + 1 + 4)) (by omega)]
  exact hX
theorem RefX.congr {z k : Nat} {I I' : Nat → Nat → Int32} {X : XT} (h : I' (z + 85) = I (z + 85)) (hX : RefX z k I X) : RefX z k I' X := by
  unfold RefX at hX ⊢
  rw [h]
  exact hX
theorem TXx_ok (z : Nat) : TXok z (TXx z) := by
  intro I I' t k h1 h2 h
  refine ⟨h.1, fun r hr => ?_⟩
  obtain ⟨X, a, b, c⟩ := h.2 r hr
  exact ⟨X, a, b.congr h2, c.congr h1⟩
theorem TXx_le (z : Nat) : TXle (TXx z) := fun _ _ _ _ hk h => ⟨Nat.le_trans hk h.1, fun r hr => h.2 r (Nat.lt_of_lt_of_le hr hk)⟩
/-- the law that rules: both systems' -/
def LawR (z t : Nat) (I : Nat → Nat → Int32) (L : Option XT) : Prop := (L = none ∧ I (z + 1) 8 = -1 ∧ I (z + 84) 4 = -1) ∨ ∃ r X tx, L = some X ∧ r < tx ∧ tx ≤ 4 ∧ r < t ∧ I (z + 1) 7 = nI tx ∧ I (z + 1) 8 = nI r ∧ I (z + 84) 4 = nI r ∧ XW X ∧ ClsX z r I X ∧ RefX z r I X
theorem RelI.law {z Q W H t : Nat} {I : Nat → Nat → Int32} {J : Nat → Nat → Int64} (h : RelI z (TXx z) Q W H I J t) : ∃ L, LawR z t I L := by
  obtain ⟨hG, hM, hT, hF, hT1, hT8, hP1, hP2, k, k', x1, x2, x3, x4, x5, x6, x7⟩ := h
  obtain ⟨w, tx, q1, q2, q3, q4, q5, q6, q7, q8, -⟩ := hT1
  rw [ta_in (by decide), Nat.zero_add, Nat.zero_add] at q7 q8
  have hk : k = tx := (nI_inj (by omega) (by omega)).mp (x5.symm.trans q5)
  subst hk
  rcases q8 with e | ⟨r, hr, e⟩
  · exact ⟨none, Or.inl ⟨rfl, by rw [q7, e], e⟩⟩
  · obtain ⟨X, a, b, c⟩ := x7.2 r hr
    exact ⟨some X, Or.inr ⟨r, X, k, rfl, hr, q2, by omega, q5, by rw [q7, e], e, a, b, c⟩⟩
theorem LawR.congr {z t : Nat} {I I' : Nat → Nat → Int32} {L : Option XT} (h : LawR z t I L) (h1 : ∀ j, j = 7 ∨ j = 8 → I' (z + 1) j = I (z + 1) j) (h84 : I' (z + 84) 4 = I (z + 84) 4) (h85 : I' (z + 85) = I (z + 85)) (h97 : ∀ q, z + 97 ≤ q → I' q = I q) : LawR z t I' L := by
  rcases h with ⟨a, b, c⟩ | ⟨r, X, tx, a, b, c, d, e, f, g, i, j, k⟩
  · exact Or.inl ⟨a, by rw [h1 8 (Or.inr rfl)]; exact b, by rw [h84]; exact c⟩
  · exact Or.inr ⟨r, X, tx, a, b, c, d, by rw [h1 7 (Or.inl rfl)]; exact e, by rw [h1 8 (Or.inr rfl)]; exact f, by rw [h84]; exact g, i, j.congr h97, k.congr h85⟩
/-- the clause of a sort -/
noncomputable def idx (X : XT) (s : Nat) : Option Nat := @dite _ (∃ i, i < xm X ∧ xs X i = s) (Classical.propDecidable _) (fun h => some (Classical.choose h)) (fun _ => none)
theorem idx_cases (X : XT) (s : Nat) : (idx X s = none ∧ ∀ i, i < xm X → xs X i ≠ s) ∨ ∃ i, idx X s = some i ∧ i < xm X ∧ xs X i = s := by
  unfold idx
  by_cases h : ∃ i, i < xm X ∧ xs X i = s
  · right
    refine ⟨Classical.choose h, ?_, Classical.choose_spec h⟩
    rw [dif_pos h]
  · left
    rw [dif_neg h]
    exact ⟨rfl, fun i hi e => h ⟨i, hi, e⟩⟩
noncomputable def idL (L : Option XT) (s : Nat) : Option Nat := match L with
  | none => none
  | some X => idx X s
/-- how many clauses -/
def nC (L : Option XT) : Int32 := match L with
  | none => 0
  | some X => nI (xm X)
section LW
variable {n z C t : Nat} {I : Nat → Nat → Int32} {J : Nat → Nat → Int64} {u : Option Nat} {L : Option XT}
theorem s_law (hL : LawR z t I L) : (L = none ∧ f_X9_law n (z + 26) (mk z C I J t u) = some (none, mk z C I J t u)) ∨ ∃ r X, L = some X ∧ r < t ∧ r < 4 ∧ XW X ∧ ClsX z r I X ∧ RefX z r I X ∧ I (z + 84) 4 = nI r ∧ f_X9_law n (z + 26) (mk z C I J t u) = some (some (z + (97 + 6 * r)), mk z C I J t u) := by
  unfold f_X9_law
  rcases hL with ⟨e, h1, h2⟩ | ⟨r, X, tx, e, hr, htx, hrt, h7, h8, h4, hX, hC, hR⟩
  · left
    refine ⟨e, ?_⟩
    rw [g26_0, g26_0, s_isTextC, cl_some, ite_bI, if_neg (fun w => w.1 (by rw [mI_mk, h1]; decide))]
  · right
    refine ⟨r, X, e, hrt, by omega, hX, hC, hR, h4, ?_⟩
    have h8' : mI (mk z C I J t u) (z + 1) 8 = nI r := h8
    rw [g26_0, g26_0, s_isTextC, cl_some, ite_bI, if_pos (show ¬ mI (mk z C I J t u) (z + 1) 8 < 0 ∧ ¬ mI (mk z C I J t u) (z + 1) 7 ≤ mI (mk z C I J t u) (z + 1) 8 by
      rw [mI_mk, mI_mk, h7, h8]
      exact ⟨nI_pos (by omega), by rw [nI_le' (by omega) (by omega)]; omega⟩), g26_0, g26_1, n22, if_neg (show ¬ Int32.ofNat 4 ≤ mI (mk z C I J t u) (z + 1) 8 by
      rw [mI_mk, h8]
      show ¬ nI 4 ≤ nI r
      rw [nI_le' (by omega) (by omega)]; omega), g26_1, g26_0, n22, h8', ck_t (inb_nI (by omega) (by omega)), cl_nI (by omega), mR_mk]
    have hrO : rO t u 22 r = some (97 + 6 * r) := by
      unfold rO
      rw [if_pos rfl, if_pos hrt]
    rw [hrO]
    show (if z + (97 + 6 * r) ∈ mL (mk z C I J t u) ∧ mK (mk z C I J t u) (z + (97 + 6 * r)) = 7 then _ else none) = _
    rw [if_pos ⟨mL_mk (by omega), by
      rw [mK_mk]
      unfold kO
      rw [if_neg (by omega), if_pos (by omega), if_pos (by omega)]⟩]
theorem s_clausesR (hL : LawR z t I L) : f_X11_clauses n (z + 83) (mk z C I J t u) = some (nC L, mk z C I J t u) := by
  unfold f_X11_clauses
  rcases hL with ⟨e, h1, h2⟩ | ⟨r, X, tx, e, hr, htx, hrt, h7, h8, h4, hX, hC, hR⟩
  · subst e
    rw [g83_0, n84, ck_t (by decide), if_neg (show ¬ 0 ≤ mI (mk z C I J t u) (z + 84) (4 : Int32).toNatClampNeg by rw [show (4 : Int32).toNatClampNeg = 4 from rfl, mI_mk, h2]; decide)]
    rfl
  · subst e
    rw [g83_0, n84, ck_t (by decide), show (4 : Int32).toNatClampNeg = 4 from rfl, if_pos (show 0 ≤ mI (mk z C I J t u) (z + 84) 4 by rw [mI_mk, h4]; exact (nI_le' (a := 0) (by omega) (by omega)).mpr (Nat.zero_le _)), g83_5, g83_0, n84, ck_t (by decide), n85, mI_mk, h4, show (700 : Int32) * nI r = nI (700 * r) from nI_ml 700 r, ck_t (inb_nI (by omega) (by omega)), cl_nI (by omega), mI_mk, hR.1]
    rfl
theorem clauseOf_L (hL : LawR z t I L) {s : Nat} (hs : s ≤ 2) {X : XT} (hX : L = some X) : ∀ (d i k : Nat), i + d = xm X → d < k → (∀ j, j < i → xs X j ≠ s) → f_X11_clauseOf_L2 n (z + 83) (nI s) k (nI i) (mk z C I J t u) = some (oI (idx X s), mk z C I J t u) := by
  have hLc := s_clausesR (n := n) (C := C) (J := J) (u := u) hL
  rcases hL with ⟨e, h1, h2⟩ | ⟨r, X', tx, e, hr, htx, hrt, h7, h8, h4, hXW, hC, hR⟩
  · rw [hX] at e; cases e
  · rw [hX] at e; cases e
    rw [hX] at hLc
    have hm20 := hXW.1
    intro d
    induction d with
    | zero =>
      intro i k hi hk hno
      obtain ⟨k, rfl⟩ : ∃ m, k = m + 1 := ⟨k - 1, by omega⟩
      rw [f_X11_clauseOf_L2]
      simp only [jn]
      rw [hLc, cl_some]
      show (if nI (xm X) ≤ nI i then _ else _) = _
      rw [if_pos ((nI_le' (by omega) (by omega)).mpr (by omega))]
      rcases idx_cases X s with ⟨e, -⟩ | ⟨j, -, hj, hjs⟩
      · rw [e]; rfl
      · exact absurd hjs (hno j (by omega))
    | succ d ih =>
      intro i k hi hk hno
      obtain ⟨k, rfl⟩ : ∃ m, k = m + 1 := ⟨k - 1, by omega⟩
      have hs5 := hXW.2.2.1 i (by omega)
      have hso := (hR.2.1 i (by omega)).1
      rw [f_X11_clauseOf_L2]
      simp only [jn, bd]
      rw [hLc, cl_some]
      show (if nI (xm X) ≤ nI i then _ else _) = _
      rw [if_neg (by rw [nI_le' (by omega) (by omega)]; omega)]
      have hsa : f_X11_sortAt n (z + 83) (nI i) (mk z C I J t u) = some (nI (xs X i), mk z C I J t u) := by
        unfold f_X11_sortAt
        have x1 : (700 : Int32) * nI r + (1 : Int32) + (4 : Int32) * nI i = nI (700 * r + 1 + 4 * i) := by
          rw [show (700 : Int32) * nI r = nI (700 * r) from nI_ml 700 r, show (4 : Int32) * nI i = nI (4 * i) from nI_ml 4 i, show (1 : Int32) = nI 1 from rfl, nI_pl, nI_pl]
        rw [g83_5, g83_0, n84, ck_t (by decide), mI_mk, show (4 : Int32).toNatClampNeg = 4 from rfl, h4, x1, n85, ck_t (inb_nI (by omega) (by omega)), cl_nI (by omega), mI_mk, hso]
      rw [hsa, cl_some]
      by_cases he : xs X i = s
      · rw [if_pos (by rw [he])]
        rcases idx_cases X s with ⟨e, h⟩ | ⟨j, e, hj, hjs⟩
        · exact absurd he (h i (by omega))
        · rw [e, hXW.2.2.2.1 i j (by omega) hj (by rw [he, hjs]) (by omega)]; rfl
      · rw [if_neg (by rw [nI_inj (by omega) (by omega)]; exact he), show nI i + (1 : Int32) = nI (i + 1) from nI_pl i 1]
        refine ih (i + 1) k (by omega) (by omega) (fun j hj => ?_)
        by_cases hji : j = i
        · subst hji; exact he
        · exact hno j (by omega)
theorem s_clauseOf (hn : 100000 ≤ n) (hL : LawR z t I L) {s : Nat} (hs : s ≤ 2) : f_X11_clauseOf n (z + 83) (nI s) (mk z C I J t u) = some (oI (idL L s), mk z C I J t u) := by
  unfold f_X11_clauseOf
  cases hX : L with
  | some X =>
    have : xm X ≤ 20 := by
      rcases hL with ⟨e, -⟩ | ⟨r, X', tx, e, hr, htx, hrt, h7, h8, h4, hXW, hC, hR⟩
      · rw [hX] at e; cases e
      · rw [hX] at e; cases e; exact hXW.1
    exact clauseOf_L hL hs hX (xm X) 0 n (by omega) (by omega) (fun j hj => by omega)
  | none =>
    have hLc := s_clausesR (n := n) (C := C) (J := J) (u := u) hL
    rw [hX] at hLc
    obtain ⟨n', rfl⟩ : ∃ m, n = m + 1 := ⟨n - 1, by omega⟩
    rw [f_X11_clauseOf_L2]
    simp only [jn]
    rw [hLc, cl_some]
    rfl
end LW
