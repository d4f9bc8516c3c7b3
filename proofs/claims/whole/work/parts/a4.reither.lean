/-! THE REFERENCE READS EITHER, and all of a law: parsed -/
section Q0
variable {n z C t r so : Nat} {u : Option Nat} {tk : Nat → Nat × Nat} {Tq : TQ} {a1 : Int32}
/-- it ends so -/
def RnE (n z C t r so : Nat) (u : Option Nat) (Tq : TQ) (a1 : Int32) (i : Nat) (c : Cd) (p : List Nat) (op : Nat) (w : Bool) (x : PrR) : Prop := match x with
  | Sum.inl e => RnF n z C t r so u Tq a1 i c p op w e.1 e.2
  | Sum.inr y => ∀ (I : Nat → Nat → Int32) (J : Nat → Nat → Int64) (F : Nat), 1000 ≤ F + i → RfS z r so Tq I J i c p op w → ∃ I' J', LLr n z a1 F 1 (mk z C I J t u) = some (0, mk z C I' J' t u) ∧ RfS z r so Tq I' J' y.1 y.2 [] 0 true ∧ FrQ z r I I' J J'
theorem RnT.te {i i1 : Nat} {c c1 : Cd} {p p1 : List Nat} {op op1 : Nat} {w w1 : Bool} {x : PrR} (h : RnT n z C t r so u Tq a1 i c p op w i1 c1 p1 op1 w1) (h2 : RnE n z C t r so u Tq a1 i1 c1 p1 op1 w1 x) : RnE n z C t r so u Tq a1 i c p op w x := by
  cases x with
  | inl e => exact h.tf h2
  | inr y =>
    intro I J F hF hs
    obtain ⟨F1, I1, J1, a, b, d, e⟩ := h I J F hF hs
    obtain ⟨I2, J2, b2, d2, e2⟩ := h2 I1 J1 F1 a d
    exact ⟨I2, J2, b.trans b2, d2, e.trq e2⟩
def anL (b : Bool) : List Nat := if b = true then [21] else []
def orL (b : Bool) : List Nat := if b = true then [22] else []
theorem anL_o {b : Bool} : (∀ o, o ∈ anL b → o = 21) ∧ cnU (anL b) = 0 ∧ (anL b).length ≤ 1 ∧ (anL b).reverse = anL b := by
  cases b with
  | false => exact ⟨(fun o ho => by cases ho), rfl, by decide, rfl⟩
  | true => exact ⟨(fun o ho => List.mem_singleton.mp ho), rfl, by decide, rfl⟩
theorem orL_o {b : Bool} : (∀ o, o ∈ orL b → o = 22) ∧ cnU (orL b) = 0 ∧ (orL b).length ≤ 1 ∧ (orL b).reverse = orL b ∧ mpC (orL b) = orC b := by
  cases b with
  | false => exact ⟨(fun o ho => by cases ho), rfl, by decide, rfl, rfl⟩
  | true => exact ⟨(fun o ho => List.mem_singleton.mp ho), rfl, by decide, rfl, rfl⟩
theorem GsA_m {G : List Nat} (h : GsA G) : (∀ o, o ∈ G → o < 40 ∧ 3 ≤ rkN o) ∧ G.length ≤ 11 ∧ ∃ Q m R, G = Q ++ (m :: R) ∧ (∀ o, o ∈ Q → o < 1000 ∧ 4 < rkN o) ∧ m < 1000 ∧ rkN m = 4 := by
  obtain ⟨Q, m, j, rfl, h1, h2, h3, h4, h5⟩ := h
  have hm : rkN m = 4 := by
    have : m = 10 ∨ m = 11 ∨ m = 12 ∨ m = 13 ∨ m = 14 ∨ m = 15 := by omega
    rcases this with e | e | e | e | e | e <;> (rw [e]; rfl)
  refine ⟨fun o ho => ?_, ?_, Q, m, List.replicate j 20, rfl, fun o ho => ⟨((q36 h2).2.1 o ho).2, by have := ((q36 h2).2.1 o ho).1; omega⟩, by omega, hm⟩
  · rcases List.mem_append.mp ho with w | w
    · exact ⟨((q36 h2).1 o w).1, by have := ((q36 h2).2.1 o w).1; omega⟩
    · rcases List.mem_cons.mp w with e | w2
      · rw [e, hm]; omega
      · rw [List.eq_of_mem_replicate w2]; exact ⟨by decide, by decide⟩
  · rw [List.length_append, List.length_cons, List.length_replicate]; omega
theorem pl_all {b w : Bool} {G : List Nat} (hG : GsA G) : (∀ o, o ∈ (G ++ anL b ++ orL w).reverse → o < 40) ∧ (∀ o, o ∈ G ++ anL b ++ orL w → o < 1000 ∧ 1 ≤ rkN o) ∧ (∀ o, o ∈ G ++ anL b → o < 1000 ∧ 2 ≤ rkN o) ∧ cnU (G ++ anL b ++ orL w) = cnU G ∧ cnU (G ++ anL b) = cnU G := by
  obtain ⟨b1, b2, b3, b4⟩ := anL_o (b := b)
  obtain ⟨w1, w2, w3, w4, w5⟩ := orL_o (b := w)
  obtain ⟨g1, g2, -⟩ := GsA_m hG
  have A : ∀ o, o ∈ G ++ anL b → o < 40 ∧ 2 ≤ rkN o := fun o ho => by
    rcases List.mem_append.mp ho with q | q
    · have := g1 o q; omega
    · rw [b1 o q]; exact ⟨by decide, by decide⟩
  have B : ∀ o, o ∈ G ++ anL b ++ orL w → o < 40 ∧ 1 ≤ rkN o := fun o ho => by
    rcases List.mem_append.mp ho with q | q
    · have := A o q; omega
    · rw [w1 o q]; exact ⟨by decide, by decide⟩
  exact ⟨fun o ho => (B o (List.mem_reverse.mp ho)).1, fun o ho => by have := B o ho; omega, fun o ho => by have := A o ho; omega, by rw [cnU_app, cnU_app, b2, w2]; omega, by rw [cnU_app, b2]; omega⟩
theorem cm_all (hn : 100000 ≤ n) {b w : Bool} {G : List Nat} (hG : GsA G) {i op : Nat} {d : Cd} {I : Nat → Nat → Int32} {J : Nat → Nat → Int64} (hs : RfS z r 3 Tq I J i d (G ++ anL b ++ orL w).reverse op true) : f_X11_isCompared n (z + 83) (mk z C I J t u) = some (bWC true, mk z C I J t u) := by
  obtain ⟨-, -, Q, m, R, rfl, h1, h2, h3⟩ := GsA_m hG
  refine q_comp hn hs (a := (m :: R ++ anL b ++ orL w).reverse) (Q := Q) (by rw [← List.reverse_append]; simp only [List.append_assoc]) h1 (b := true) (Or.inr ⟨(R ++ anL b ++ orL w).reverse, m, ?_, h2, by omega, ⟨fun _ => h3, fun _ => rfl⟩⟩)
  rw [← List.reverse_cons]; rfl
theorem an_all (hn : 100000 ≤ n) (hT : TokOK n z C t u tk Tq) (ha : a1 ≠ 0) {b w : Bool} {G : List Nat} (hG : GsA G) {i op : Nat} {d : Cd} (hno : ¬ (28 ≤ (tk i).1 ∧ (tk i).1 ≤ 31)) {I : Nat → Nat → Int32} {J : Nat → Nat → Int64} (hs : RfS z r 3 Tq I J i d (G ++ anL b ++ orL w).reverse op true) : f_X11_betweenOf n (z + 83) a1 (mk z C I J t u) = some ((if (tk i).1 = 15 then nI 21 else if (tk i).1 = 16 then nI 22 else -1), mk z C I J t u) := bt_an hn hT hs ha hno (pl_all hG).1 (cm_all hn hG hs)
theorem rf_ELs (hn : 100000 ≤ n) (hT : TokOK n z C t u tk Tq) (ha : a1 ≠ 0) {b w : Bool} {i : Nat} {d : Cd} {G : List Nat} (hG : GsA G) (h15 : (tk i).1 ≠ 15) (h16 : (tk i).1 ≠ 16) (hno : ¬ (28 ≤ (tk i).1 ∧ (tk i).1 ≤ 31)) (hl : d.length + G.length + (anL b).length + (orL w).length + 1 ≤ i) : RnE n z C t r 3 u Tq a1 i d (G ++ anL b ++ orL w).reverse (cnU G) true (Sum.inr (i, d ++ mpC (G ++ anL b) ++ orC w)) := by
  intro I J F hF hs
  obtain ⟨p1, p2, p3, p4, p5⟩ := pl_all (b := b) (w := w) hG
  have hst := rn_stop (n := n) (z := z) (C := C) (t := t) (r := r) (so := 3) (u := u) (a1 := a1) (i := i) (c := d) (op := cnU G) hn hT (p := (G ++ anL b ++ orL w).reverse) (fun o ho => by have := p1 o ho; omega) (fun I J hs => by rw [an_all hn hT ha hG hno hs, if_neg h15, if_neg h16]) (fun b' m s e m1 _ => by
    have := p1 m (by rw [e]; exact List.mem_append.mpr (Or.inl (List.mem_append.mpr (Or.inr (List.mem_singleton.mpr rfl)))))
    omega)
  have hi := (hT.2.2.1 I J i hs.1).1
  obtain ⟨I1, e1, s1, f1⟩ := q_set (n := n) (C := C) (t := t) (u := u) (L := 1) (p := []) (Q := G ++ anL b ++ orL w) hn hT (by omega) hs p2 (Or.inl rfl) (by rw [List.length_append, List.length_append]; omega) (by rw [p4]; exact Nat.le_refl _)
  rw [p4, Nat.sub_self, mpC_app, (orL_o (b := w)).2.2.2.2, ← List.append_assoc] at s1
  refine ⟨I1, J, ?_, s1, f1⟩
  rw [hst I J F hF hs]
  unfold KpR
  have em := q_mark (n := n) (C := C) (t := t) (u := u) (a := []) (Q := G ++ anL b ++ orL w) hn hs (by rw [List.nil_append]) (fun o ho => p1 o (List.mem_reverse.mpr ho)) (Or.inl rfl)
  rw [em, cl_some, if_neg (by decide), if_neg ha, cm_all hn hG hs, cl_some, if_neg (show ¬ bWC true = 0 by decide), show (1 : Int32) = nI 1 from rfl, e1, cv_some]
theorem rf_EL (hn : 100000 ≤ n) (hT : TokOK n z C t u tk Tq) (hE : ∀ i, 300 ≤ i → (tk i).1 = 39) (ha : a1 ≠ 0) : ∀ (f : Nat) (b w : Bool) (i : Nat) (d : Cd) (G : List Nat), GsA G → 300 ≤ f + i → ¬ (28 ≤ (tk i).1 ∧ (tk i).1 ≤ 31) → d.length + G.length + (anL b).length + (orL w).length + 1 ≤ i → RnE n z C t r 3 u Tq a1 i d (G ++ anL b ++ orL w).reverse (cnU G) true (pELoop tk f w i (d ++ mpC (G ++ anL b))) := by
  intro f
  induction f with
  | zero =>
    intro b w i d G hG hf hno hl
    have h39 := hE i (by omega)
    exact rf_ELs hn hT ha hG (by omega) (by omega) hno hl
  | succ f ih =>
    intro b w i d G hG hf hno hl
    obtain ⟨b1, b2, b3, b4⟩ := anL_o (b := b)
    obtain ⟨w1, w2, w3, w4, w5⟩ := orL_o (b := w)
    obtain ⟨g1, g2, -⟩ := GsA_m hG
    obtain ⟨p1, p2, p3, p4, p5⟩ := pl_all (b := b) (w := w) hG
    have hrv : (G ++ anL b ++ orL w).reverse = orL w ++ (G ++ anL b).reverse := by rw [List.reverse_append, w4]
    rw [pELoop]
    by_cases q15 : (tk i).1 = 15
    · rw [if_pos q15]
      have hb := rn_bin (n := n) (z := z) (C := C) (t := t) (r := r) (so := 3) (u := u) (a1 := a1) (i := i) (c := d) (op := cnU G) (p := orL w) (Q := G ++ anL b) (o := 21) hn hT (fun o ho => by have := p1 o (by rw [hrv]; exact ho); omega) (by omega) (by omega) (fun I J hs => by rw [an_all hn hT ha hG hno (b := b) (w := w) (by rw [hrv]; exact hs), if_pos q15]) p3 (by
        cases w with
        | false => exact Or.inl rfl
        | true => exact Or.inr ⟨[], 22, rfl, by decide, by decide⟩) (by rw [List.length_append]; omega) (by rw [p5]; exact Nat.le_refl _) (by omega)
      rw [← hrv, p5, Nat.sub_self] at hb
      refine hb.te ?_
      have hk := rf_Ask (n := n) (z := z) (C := C) (t := t) (r := r) (u := u) hn hT hE ha (i := i + 1) (c := d ++ mpC (G ++ anL b)) (p := orL w ++ [21]) (by
        cases w with
        | false => exact Or.inr (Or.inl rfl)
        | true => exact Or.inr (Or.inr (Or.inr rfl))) (by rw [List.length_append, mpC_len, List.length_append]; omega)
      cases hx : pAsk tk (i + 1) (d ++ mpC (G ++ anL b)) with
      | inl e => rw [hx] at hk; exact hk
      | inr y =>
        have hln := pAsk_len hx
        rw [hx] at hk
        obtain ⟨G2, d2, k1, k2, k3, k4⟩ := hk
        obtain ⟨i2, c2⟩ := y
        have k1 : c2 = d2 ++ mpC G2 := k1
        rw [pB_r]
        refine RnT.te k3 ?_
        have := ih true w i2 d2 G2 k2 (by omega) k4 (by
          rw [k1, List.length_append, mpC_len, List.length_append, mpC_len, List.length_append] at hln
          show d2.length + G2.length + 1 + _ + 1 ≤ i2
          omega)
        rw [mpC_app, ← List.append_assoc, ← k1] at this
        rw [show (orL w ++ [21]) ++ G2.reverse = (G2 ++ anL true ++ orL w).reverse by rw [List.reverse_append, List.reverse_append, w4]; simp only [List.append_assoc]; rfl]
        exact this
    · rw [if_neg q15]
      by_cases q16 : (tk i).1 = 16
      · rw [if_pos q16]
        have hb := rn_bin (n := n) (z := z) (C := C) (t := t) (r := r) (so := 3) (u := u) (a1 := a1) (i := i) (c := d) (op := cnU G) (p := []) (Q := G ++ anL b ++ orL w) (o := 22) hn hT (fun o ho => by have := p1 o ho; omega) (by omega) (by omega) (fun I J hs => by rw [an_all hn hT ha hG hno (b := b) (w := w) hs, if_neg q15, if_pos q16]) p2 (Or.inl rfl) (by rw [List.length_append, List.length_append]; omega) (by rw [p4]; exact Nat.le_refl _) (by decide)
        rw [p4, Nat.sub_self, List.nil_append, List.nil_append, mpC_app, w5, ← List.append_assoc] at hb
        refine hb.te ?_
        have w6 : (orC w).length = (orL w).length := by rw [← w5, mpC_len]
        have hk := rf_Ask (n := n) (z := z) (C := C) (t := t) (r := r) (u := u) hn hT hE ha (i := i + 1) (c := d ++ mpC (G ++ anL b) ++ orC w) (p := [22]) (Or.inr (Or.inr (Or.inl rfl))) (by rw [List.length_append, List.length_append, mpC_len, List.length_append]; omega)
        cases hx : pAsk tk (i + 1) (d ++ mpC (G ++ anL b) ++ orC w) with
        | inl e => rw [hx] at hk; exact hk
        | inr y =>
          have hln := pAsk_len hx
          rw [hx] at hk
          obtain ⟨G2, d2, k1, k2, k3, k4⟩ := hk
          obtain ⟨i2, c2⟩ := y
          have k1 : c2 = d2 ++ mpC G2 := k1
          rw [pB_r]
          refine RnT.te k3 ?_
          have := ih false true i2 d2 G2 k2 (by omega) k4 (by
            rw [k1, List.length_append, mpC_len, List.length_append, List.length_append, mpC_len, List.length_append] at hln
            show d2.length + G2.length + 0 + 1 + 1 ≤ i2
            omega)
          rw [show G2 ++ anL false = G2 from List.append_nil G2, ← k1] at this
          rw [show [22] ++ G2.reverse = (G2 ++ orL true).reverse by rw [List.reverse_append]; rfl]
          exact this
      · rw [if_neg q16]
        exact rf_ELs hn hT ha hG q15 q16 hno hl
theorem rf_Either (hn : 100000 ≤ n) (hT : TokOK n z C t u tk Tq) (hE : ∀ i, 300 ≤ i → (tk i).1 = 39) (ha : a1 ≠ 0) {i : Nat} {c : Cd} (hl : c.length + 1 ≤ i) : RnE n z C t r 3 u Tq a1 i c [] 0 false (pEither tk i c) := by
  unfold pEither
  have hk := rf_Ask (n := n) (z := z) (C := C) (t := t) (r := r) (u := u) hn hT hE ha (i := i) (c := c) (p := []) (Or.inl rfl) hl
  cases hx : pAsk tk i c with
  | inl e => rw [hx] at hk; exact hk
  | inr y =>
    have hln := pAsk_len hx
    rw [hx] at hk
    obtain ⟨G2, d2, k1, k2, k3, k4⟩ := hk
    obtain ⟨i2, c2⟩ := y
    have k1 : c2 = d2 ++ mpC G2 := k1
    rw [pB_r]
    refine RnT.te k3 ?_
    have := rf_EL (r := r) hn hT hE ha 300 false false i2 d2 G2 k2 (by omega) k4 (by
      rw [k1, List.length_append, mpC_len] at hln
      show d2.length + G2.length + 0 + 0 + 1 ≤ i2
      omega)
    rw [show G2 ++ anL false = G2 from List.append_nil G2, ← k1, show G2 ++ orL false = G2 from List.append_nil G2] at this
    exact this
theorem rf_Sm (hn : 100000 ≤ n) (hT : TokOK n z C t u tk Tq) (hE : ∀ i, 300 ≤ i → (tk i).1 = 39) (hso : so < 4) (ha : a1 = 0) {i : Nat} {c : Cd} (hl : c.length + 1 ≤ i) : RnE n z C t r so u Tq a1 i c [] 0 false (pSum tk so 12 0 i c) := by
  have hsum := rf_Sum (n := n) (z := z) (C := C) (t := t) (r := r) (so := so) (u := u) (a1 := a1) hn hT hE hso 12 0 i c [] (by omega) (by omega) (fun o ho => by cases ho) (by show 0 ≤ _; omega) (Or.inl rfl) (fun _ => Or.inl ha) hl
  have hsum : OutS n z C t r so u tk Tq a1 i c [] 0 (pSum tk so 12 0 i c) := hsum
  cases hx : pSum tk so 12 0 i c with
  | inl e => rw [hx] at hsum; exact hsum
  | inr y =>
    obtain ⟨i1, c1⟩ := y
    have hlen1 := pSum_len (Nat.zero_le _) hx
    rw [hx] at hsum
    obtain ⟨Q, d1, g1, g2, g3, g4, g5⟩ : ∃ Q d1, c1 = d1 ++ mpC Q ∧ Q.length ≤ 2 ∧ (∀ o, o ∈ Q → 3 ≤ o ∧ o ≤ 6) ∧ RnT n z C t r so u Tq a1 i c [] 0 false i1 d1 ([] ++ Q.reverse) 0 true ∧ ¬ (28 ≤ (tk i1).1 ∧ (tk i1).1 ≤ 31) := hsum
    refine RnT.te g4 ?_
    have h40 : ∀ o, o ∈ Q.reverse → o < 40 := fun o ho => by have := g3 o (List.mem_reverse.mp ho); omega
    intro I J F hF hs
    have hi := (hT.2.2.1 I J i1 hs.1).1
    have hst := rn_stop (n := n) (z := z) (C := C) (t := t) (r := r) (so := so) (u := u) (a1 := a1) (i := i1) (c := d1) (op := 0) hn hT (p := [] ++ Q.reverse) (fun o ho => by have := h40 o ho; omega) (fun I J hs => bt_mk hn hT hs (fun o ho => by have := h40 o ho; omega) g5 (Or.inl ha)) (fun b' m s e m1 _ => by
      have := h40 m (by rw [show Q.reverse = [] ++ Q.reverse from rfl, e]; exact List.mem_append.mpr (Or.inl (List.mem_append.mpr (Or.inr (List.mem_singleton.mpr rfl)))))
      omega)
    have hcl : c1.length = d1.length + Q.length := by rw [g1, List.length_append, mpC_len]
    obtain ⟨I1, e1, s1, f1⟩ := q_set (n := n) (C := C) (t := t) (u := u) (L := 1) (p := []) (Q := Q) hn hT (by omega) hs (fun o ho => ⟨((q36 g3).2.1 o ho).2, by have := ((q36 g3).2.1 o ho).1; omega⟩) (Or.inl rfl) (by omega) (by rw [(q36 g3).2.2]; exact Nat.le_refl _)
    rw [(q36 g3).2.2, ← g1] at s1
    refine ⟨I1, J, ?_, s1, f1⟩
    rw [hst I J F hF hs]
    unfold KpR
    have em := q_mark (n := n) (C := C) (t := t) (u := u) (a := []) (Q := Q) hn hs rfl (fun o ho => by have := g3 o ho; omega) (Or.inl rfl)
    rw [em, cl_some, if_neg (by decide), if_pos ha, show (1 : Int32) = nI 1 from rfl, e1, cv_some]
/-- what a law's reading is, by its sort -/
noncomputable def pLaw (tk : Nat → Nat × Nat) (so : Nat) (i : Nat) (c : Cd) : PrR := if so = 3 then pEither tk i c else pSum tk so 12 0 i c
def OutP (n z C t r so : Nat) (u : Option Nat) (Tq : TQ) (I : Nat → Nat → Int32) (J : Nat → Nat → Int64) (R : Option (Int32 × MS)) (x : PrR) : Prop := match x with
  | Sum.inl e => ∃ I' J', R = some (nI e.1, mk z C I' J' t u) ∧ Tq I' J' e.2 ∧ FrQ z r I I' J J'
  | Sum.inr y => ∃ I' J', R = some (0, mk z C I' J' t u) ∧ RfS z r so Tq I' J' y.1 y.2 [] 0 true ∧ FrQ z r I I' J J'
/-- before a clause: pile, whole may hold anything -/
def RfW (z r so : Nat) (Tq : TQ) (I : Nat → Nat → Int32) (J : Nat → Nat → Int64) (i : Nat) (c : Cd) (_p : List Nat) (op : Nat) (_w : Bool) : Prop := Tq I J i ∧ I (z + 83) 15 = nI (700 * r) ∧ I (z + 83) 17 = nI c.length ∧ cdF (I (z + 85)) r c ∧ True ∧ True ∧ I (z + 83) 21 = nI op ∧ True ∧ I (z + 83) 23 = nI so ∧ c.length ≤ 300 ∧ True ∧ op ≤ 1000 ∧ r < 4
theorem RfS.rwk {i op : Nat} {c : Cd} {p p' : List Nat} {w w' : Bool} {I : Nat → Nat → Int32} {J : Nat → Nat → Int64} (h : RfS z r so Tq I J i c p op w) : RfW z r so Tq I J i c p' op w' := by
  obtain ⟨h1, h2, h3, h4, h5, h6, h7, h8, h9, h10, h11, h12, h13⟩ := h
  exact ⟨h1, h2, h3, h4, trivial, trivial, h7, trivial, h9, h10, trivial, h12, h13⟩
theorem w_next (hT : TokOK n z C t u tk Tq) {i op : Nat} {c : Cd} {p : List Nat} {w : Bool} {I : Nat → Nat → Int32} {J : Nat → Nat → Int64} (h : RfW z r so Tq I J i c p op w) (hi : (tk i).1 ≠ 39) : ∃ I' J', f_X11_nextToken n (z + 83) (mk z C I J t u) = some (mk z C I' J' t u) ∧ RfW z r so Tq I' J' (i + 1) c p op w ∧ FrQ z r I I' J J' := by
  obtain ⟨h1, h2, h3, h4, h5, h6, h7, h8, h9, h10, h11, h12, h13⟩ := id h
  obtain ⟨I', J', e, t1, f1, f2, f3⟩ := hT.2.1 I J i h1 hi
  refine ⟨I', J', e, ⟨t1, ?_, ?_, ?_, trivial, trivial, ?_, trivial, ?_, h10, trivial, h12, h13⟩, ⟨fun q a _ _ => f1 q a, fun j hj => f2 j (by omega), fun j _ => by rw [f1 _ (by omega)], f3⟩⟩
  · rw [f2 _ (by omega)]; exact h2
  · rw [f2 _ (by omega)]; exact h3
  · rw [f1 _ (by omega)]; exact h4
  · rw [f2 _ (by omega)]; exact h7
  · rw [f2 _ (by omega)]; exact h9
theorem q_parsed (hn : 100000 ≤ n) (hT : TokOK n z C t u tk Tq) (hE : ∀ i, 300 ≤ i → (tk i).1 = 39) (hso : so < 4) {i : Nat} {c : Cd} {p : List Nat} {w : Bool} {I : Nat → Nat → Int32} {J : Nat → Nat → Int64} (hl : c.length + 1 ≤ i) (h : RfW z r so Tq I J i c p 0 w) : OutP n z C t r so u Tq I J (f_X11_parsed n (z + 83) (bWC (decide (so = 3))) (mk z C I J t u)) (pLaw tk so i c) := by
  obtain ⟨h1, h2, h3, h4, h5, h6, h7, h8, h9, h10, h11, h12, h13⟩ := id h
  have k2 : RfS z r so Tq (up2 (up2 I (z + 83) 20 0) (z + 83) 22 (bWC false)) J i c [] 0 false ∧ FrQ z r I (up2 (up2 I (z + 83) 20 0) (z + 83) 22 (bWC false)) J J := by
    have R83 : ∀ j, j ≠ 20 → j ≠ 22 → up2 (up2 I (z + 83) 20 0) (z + 83) 22 (bWC false) (z + 83) j = I (z + 83) j := fun j a b => by rw [up2_r, ur_ne _ _ b, up2_r, ur_ne _ _ a]
    have Rq : ∀ q, q ≠ z + 83 → up2 (up2 I (z + 83) 20 0) (z + 83) 22 (bWC false) q = I q := fun q a => by rw [up2_ne a, up2_ne a]
    refine ⟨⟨hT.1 _ _ _ _ _ h1 (fun j hj => R83 j (by omega) (by omega)) (Rq _ (by omega)) rfl, ?_, ?_, ?_, ?_, (fun j hj => by cases hj), ?_, ?_, ?_, h10, by decide, by decide, h13⟩, ⟨fun q a _ _ => Rq q a, fun j hj => R83 j (by omega) (by omega), fun j _ => by rw [Rq _ (by omega)], fun _ _ => rfl⟩⟩
    · rw [R83 _ (by omega) (by omega)]; exact h2
    · rw [R83 _ (by omega) (by omega)]; exact h3
    · rw [Rq _ (by omega)]; exact h4
    · rw [up2_r, ur_ne _ _ (by omega), up2_r, ur_at]; rfl
    · rw [R83 _ (by omega) (by omega)]; exact h7
    · rw [up2_r, ur_at]
    · rw [R83 _ (by omega) (by omega)]; exact h9
  have e : f_X11_parsed n (z + 83) (bWC (decide (so = 3))) (mk z C I J t u) = LLr n z (bWC (decide (so = 3))) n 1 (mk z C (up2 (up2 I (z + 83) 20 0) (z + 83) 22 (bWC false)) J t u) := by
    unfold f_X11_parsed LLr KpR
    simp only [zb_0, jn, bd]
    rw [sI_mk, sI_mk]; rfl
  rw [e]
  have main : RnE n z C t r so u Tq (bWC (decide (so = 3))) i c [] 0 false (pLaw tk so i c) := by
    unfold pLaw
    by_cases q : so = 3
    · subst q; rw [if_pos rfl]; exact rf_Either hn hT hE (by decide) hl
    · rw [if_neg q]; exact rf_Sm hn hT hE hso (by rw [decide_eq_false q]; rfl) hl
  cases hx : pLaw tk so i c with
  | inl e =>
    rw [hx] at main
    obtain ⟨I', J', a, b, d⟩ := main _ J n (by omega) k2.1
    exact ⟨I', J', a, b, k2.2.trq d⟩
  | inr y =>
    rw [hx] at main
    obtain ⟨I', J', a, b, d⟩ := main _ J n (by omega) k2.1
    exact ⟨I', J', a, b, k2.2.trq d⟩
end Q0
