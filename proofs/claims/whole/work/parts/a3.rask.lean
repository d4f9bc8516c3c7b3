/-! THE REFERENCE READS ASK, EITHER; parsed -/
section RZ
variable {n z C t r : Nat} {u : Option Nat} {tk : Nat → Nat × Nat} {Tq : TQ} {a1 : Int32}
/-- the nots before an ask -/
theorem rn_not (hn : 100000 ≤ n) (hT : TokOK n z C t u tk Tq) {c : Cd} : ∀ (d i : Nat) (p : List Nat) (op : Nat), op + d = 8 → p.length + d < 100 → AskA a1 p → RnT n z C t r 3 u Tq a1 i c p op false (i + cntS tk 14 d i) c (p ++ List.replicate (cntS tk 14 d i) 20) (op + cntS tk 14 d i) false := by
  intro d
  induction d with
  | zero => intro i p op _ _ _; rw [show cntS tk 14 0 i = 0 from rfl, show List.replicate 0 20 = ([] : List Nat) from rfl, List.append_nil]; exact RnT.rfr
  | succ d ih =>
    intro i p op hop hl hA
    by_cases e : (tk i).1 = 14
    · have hA2 : AskA a1 (p ++ [20]) := ⟨hA.1, fun o ho => by
        rcases List.mem_append.mp ho with q | q
        · exact hA.2.1 o q
        · have := List.mem_singleton.mp q; omega, Or.inr ⟨p, 20, rfl, by decide, by decide⟩⟩
      have h1 : RnT n z C t r 3 u Tq a1 i c p op false (i + 1) c (p ++ [20]) (op + 1) false := rn_b hT (by omega) (fun I J hs => by
        obtain ⟨x, ex, -, hx⟩ := q_ask (n := n) (C := C) (t := t) (u := u) hn hs (fun o ho => by have := hA.2.1 o ho; omega) a1
        rcases q_opens (a := 20) hT hs (by omega) (by omega) (by omega) (by omega) (by omega) (by omega) with ⟨q, -⟩ | ⟨-, I', J', e1, s1, f1⟩
        · omega
        · refine ⟨I', J', ?_, s1, f1⟩
          rw [bg_eval hT (by omega) hs, if_neg (by omega), if_neg (by omega), if_neg (by omega), if_neg (by omega), if_neg (by omega), if_neg (by omega), if_pos e, ex, cl_some, hx hA, if_neg (by decide), show (20 : Int32) = nI 20 from rfl, e1, cl_some])
      have h2 := ih (i + 1) (p ++ [20]) (op + 1) (by omega) (by rw [List.length_append]; show p.length + 1 + d < 100; omega) hA2
      have h3 := h1.tt h2
      rw [cntS, if_pos e]
      rw [show i + (cntS tk 14 d (i + 1) + 1) = i + 1 + cntS tk 14 d (i + 1) by omega, show op + (cntS tk 14 d (i + 1) + 1) = op + 1 + cntS tk 14 d (i + 1) by omega, show p ++ List.replicate (cntS tk 14 d (i + 1) + 1) 20 = p ++ [20] ++ List.replicate (cntS tk 14 d (i + 1)) 20 by rw [List.append_assoc, List.replicate_succ]; rfl]
      exact h3
    · rw [cntS, if_neg e, show List.replicate 0 20 = ([] : List Nat) from rfl, List.append_nil]; exact RnT.rfr
theorem rep_20 (j : Nat) : cnU (List.replicate j 20) = j ∧ mpC (List.replicate j 20) = ntC j ∧ (List.replicate j 20).reverse = List.replicate j 20 := by
  refine ⟨?_, ?_, List.reverse_replicate⟩
  · induction j with
    | zero => rfl
    | succ j ih => rw [List.replicate_succ]; show 1 + cnU (List.replicate j 20) = j + 1; rw [ih]; omega
  · unfold mpC ntC; rw [List.map_replicate]
theorem cnU_app : ∀ a b : List Nat, cnU (a ++ b) = cnU a + cnU b
  | [], b => by rw [List.nil_append]; show cnU b = 0 + cnU b; omega
  | o :: a, b => by
    have := cnU_app a b
    show (if o = 2 ∨ o = 20 then 1 else 0) + cnU (a ++ b) = (if o = 2 ∨ o = 20 then 1 else 0) + cnU a + cnU b
    omega
/-- what an ask leaves on the pile: G, its top first -/
def GsA (G : List Nat) : Prop := ∃ Q m j, G = Q ++ (m :: List.replicate j 20) ∧ Q.length ≤ 2 ∧ (∀ o, o ∈ Q → 3 ≤ o ∧ o ≤ 6) ∧ 10 ≤ m ∧ m ≤ 15 ∧ j ≤ 8
def OutA (n z C t r : Nat) (u : Option Nat) (tk : Nat → Nat × Nat) (Tq : TQ) (a1 : Int32) (i : Nat) (c : Cd) (p : List Nat) (x : PrR) : Prop := match x with
  | Sum.inl e => RnF n z C t r 3 u Tq a1 i c p 0 false e.1 e.2
  | Sum.inr y => ∃ G d, y.2 = d ++ mpC G ∧ GsA G ∧ RnT n z C t r 3 u Tq a1 i c p 0 false y.1 d (p ++ G.reverse) (cnU G) true ∧ ¬ (28 ≤ (tk y.1).1 ∧ (tk y.1).1 ≤ 31)
/-- before an ask the pile holds what waits: or, and -/
def pAO (p : List Nat) : Prop := p = [] ∨ p = [21] ∨ p = [22] ∨ p = [22, 21]
theorem pAO_ok {p : List Nat} (h : pAO p) : (∀ o, o ∈ p → o < 40) ∧ p.length ≤ 2 ∧ (p = [] ∨ ∃ p' o, p = p' ++ [o] ∧ 1 ≤ rkN o ∧ rkN o ≤ 2) := by
  rcases h with rfl | rfl | rfl | rfl
  · exact ⟨(fun o ho => by cases ho), by decide, Or.inl rfl⟩
  · exact ⟨(fun o ho => by have := List.mem_singleton.mp ho; omega), by decide, Or.inr ⟨[], 21, rfl, by decide, by decide⟩⟩
  · exact ⟨(fun o ho => by have := List.mem_singleton.mp ho; omega), by decide, Or.inr ⟨[], 22, rfl, by decide, by decide⟩⟩
  · refine ⟨fun o ho => ?_, by decide, Or.inr ⟨[22], 21, rfl, by decide, by decide⟩⟩
    rcases List.mem_cons.mp ho with q | q
    · omega
    · have := List.mem_singleton.mp q; omega
theorem cmO_rk {k : Nat} : rkN (cmO k) = 4 := by
  obtain ⟨b1, b2⟩ := cmO_ok (k := k)
  generalize cmO k = q at *
  have : q = 10 ∨ q = 11 ∨ q = 12 ∨ q = 13 ∨ q = 14 ∨ q = 15 := by omega
  rcases this with e | e | e | e | e | e <;> (rw [e]; rfl)
theorem rf_Ask (hn : 100000 ≤ n) (hT : TokOK n z C t u tk Tq) (hE : ∀ i, 300 ≤ i → (tk i).1 = 39) (ha : a1 ≠ 0) {i : Nat} {c : Cd} {p : List Nat} (hp : pAO p) (hci : c.length + 1 ≤ i) : OutA n z C t r u tk Tq a1 i c p (pAsk tk i c) := by
  obtain ⟨p1, p2, p3⟩ := pAO_ok hp
  have hAsk : AskA a1 p := ⟨ha, p1, p3.imp id (fun ⟨p', o, e, h1, h2⟩ => ⟨p', o, e, h1, by omega⟩)⟩
  have hnot := rn_not (n := n) (z := z) (C := C) (t := t) (r := r) (u := u) (a1 := a1) (c := c) hn hT 8 i p 0 (by omega) (by omega) hAsk
  have hj := cntS_le (tk := tk) (s := 14) 8 i
  have hmax := cntS_max (tk := tk) (s := 14) 8 i
  unfold pAsk
  generalize cntS tk 14 8 i = j at *
  rw [Nat.zero_add] at hnot
  obtain ⟨P, hP⟩ : ∃ P : List Nat, P = p ++ List.replicate j 20 := ⟨_, rfl⟩
  rw [← hP] at hnot
  have hPl : P.length = p.length + j := by rw [hP, List.length_append, List.length_replicate]
  have hP40 : ∀ o, o ∈ P → o < 40 := fun o ho => by
    rw [hP] at ho
    rcases List.mem_append.mp ho with w | w
    · exact p1 o w
    · rw [List.eq_of_mem_replicate w]; omega
  have hPlast : P = [] ∨ ∃ p' o, P = p' ++ [o] ∧ 1 ≤ rkN o ∧ rkN o ≤ 3 := by
    by_cases j0 : j = 0
    · subst j0
      rw [show List.replicate 0 20 = ([] : List Nat) from rfl, List.append_nil] at hP
      rw [hP]
      exact p3.imp id (fun ⟨p', o, e, h1, h2⟩ => ⟨p', o, e, h1, by omega⟩)
    · refine Or.inr ⟨p ++ List.replicate (j - 1) 20, 20, ?_, by decide, by decide⟩
      rw [hP, List.append_assoc, ← List.replicate_succ', show j - 1 + 1 = j by omega]
  have hPA : AskA a1 P := ⟨ha, hP40, hPlast⟩
  unfold pAskJ
  by_cases q14 : (tk (i + j)).1 = 14
  · rw [if_pos q14]
    have hj8 := hmax q14
    refine hnot.tf (rn_f hT (by omega) (by omega) (fun I J hs => ?_))
    obtain ⟨x, ex, -, hx⟩ := q_ask (n := n) (C := C) (t := t) (u := u) hn hs (fun o ho => by have := hP40 o ho; omega) a1
    rcases q_opens (a := 20) hT hs (by omega) (by omega) (by omega) (by omega) (by omega) (by omega) with ⟨-, e⟩ | ⟨w, -⟩
    · refine ⟨I, J, ?_, hs.1, FrQ.rfq z r I J⟩
      rw [bg_eval hT (by omega) hs, if_neg (by omega), if_neg (by omega), if_neg (by omega), if_neg (by omega), if_neg (by omega), if_neg (by omega), if_pos q14, ex, cl_some, hx hPA, if_neg (by decide), show (20 : Int32) = nI 20 from rfl, e, cl_some]
    · omega
  rw [if_neg q14]
  have hsum := rf_Sum (n := n) (z := z) (C := C) (t := t) (r := r) (so := 3) (u := u) (a1 := a1) hn hT hE (by omega) 12 j (i + j) c P (by omega) hj (fun o ho => by have := hP40 o ho; omega) (by omega) (hPlast.imp id (fun ⟨p', o, e, h1, h2⟩ => ⟨p', o, e, by omega⟩)) (fun w => absurd w q14) (by omega)
  cases hx : pSum tk 3 12 j (i + j) c with
  | inl e =>
    have hsum : RnF n z C t r 3 u Tq a1 (i + j) c P j false e.1 e.2 := by
      have : OutS n z C t r 3 u tk Tq a1 (i + j) c P j (pSum tk 3 12 j (i + j) c) := hsum
      rw [hx] at this; exact this
    exact hnot.tf hsum
  | inr y =>
    obtain ⟨i1, c1⟩ := y
    have hlen1 := pSum_len hj hx
    obtain ⟨Q, d1, g1, g2, g3, g4, g5⟩ : ∃ Q d1, c1 = d1 ++ mpC Q ∧ Q.length ≤ 2 ∧ (∀ o, o ∈ Q → 3 ≤ o ∧ o ≤ 6) ∧ RnT n z C t r 3 u Tq a1 (i + j) c P j false i1 d1 (P ++ Q.reverse) j true ∧ ¬ (28 ≤ (tk i1).1 ∧ (tk i1).1 ≤ 31) := by
      have : OutS n z C t r 3 u tk Tq a1 (i + j) c P j (pSum tk 3 12 j (i + j) c) := hsum
      rw [hx] at this; exact this
    have hcl : c1.length = d1.length + Q.length := by rw [g1, List.length_append, mpC_len]
    have hto := hnot.tt g4
    have h40 : ∀ o, o ∈ P ++ Q.reverse → o < 40 := fun o ho => by
      rcases List.mem_append.mp ho with w | w
      · exact hP40 o w
      · have := g3 o (List.mem_reverse.mp w); omega
    have hQr : ∀ o, o ∈ Q → o < 1000 ∧ 4 < rkN o := fun o ho => ⟨((q36 g3).2.1 o ho).2, by have := ((q36 g3).2.1 o ho).1; omega⟩
    have hcomp : ∀ (I : Nat → Nat → Int32) (J : Nat → Nat → Int64), RfS z r 3 Tq I J i1 d1 (P ++ Q.reverse) j true → f_X11_isCompared n (z + 83) (mk z C I J t u) = some (bWC false, mk z C I J t u) := fun I J hs => q_comp hn hs rfl hQr (hPlast.imp (fun e => ⟨e, rfl⟩) (fun ⟨p', o, e, h1, h2⟩ => ⟨p', o, e, by have := hP40 o (by rw [e]; exact List.mem_append.mpr (Or.inr (List.mem_singleton.mpr rfl))); omega, by omega, ⟨(fun w => by cases w), (fun w => by omega)⟩⟩))
    rw [pB_r]
    by_cases hcm : isCm (tk i1).1
    · rw [if_pos (dec_t.mpr hcm)]
      obtain ⟨b1, b2⟩ := cmO_ok (k := (tk i1).1)
      have hrk := cmO_rk (k := (tk i1).1)
      have hb := rn_bin (n := n) (z := z) (C := C) (t := t) (r := r) (so := 3) (u := u) (a1 := a1) (i := i1) (c := d1) (op := j) (p := P) (Q := Q) (o := cmO (tk i1).1) hn hT (fun o ho => by have := h40 o ho; omega) (by omega) (by unfold isCm at hcm; omega) (fun I J hs => by rw [bt_cm hn hT hs ha g5 h40 (hcomp I J hs), if_pos (dec_t.mpr hcm)]) (fun x hx => ⟨(hQr x hx).1, by rw [hrk]; have := (hQr x hx).2; omega⟩) (hPlast.imp id (fun ⟨p', o, e, h1, h2⟩ => ⟨p', o, e, by have := hP40 o (by rw [e]; exact List.mem_append.mpr (Or.inr (List.mem_singleton.mpr rfl))); omega, by rw [hrk]; omega⟩)) (by omega) (by rw [(q36 g3).2.2]; omega) (by omega)
      rw [(q36 g3).2.2, Nat.sub_zero, ← g1] at hb
      have hto2 := hto.tt hb
      have hsum2 := rf_Sum (n := n) (z := z) (C := C) (t := t) (r := r) (so := 3) (u := u) (a1 := a1) hn hT hE (by omega) 12 j (i1 + 1) c1 (P ++ [cmO (tk i1).1]) (by omega) hj (fun o ho => by
        rcases List.mem_append.mp ho with w | w
        · have := hP40 o w; omega
        · have := List.mem_singleton.mp w; omega) (by rw [List.length_append]; show P.length + 1 ≤ _; omega) (Or.inr ⟨P, _, rfl, by omega⟩) (fun _ => Or.inr (Or.inr ⟨P, _, rfl, by omega⟩)) (by omega)
      cases hx2 : pSum tk 3 12 j (i1 + 1) c1 with
      | inl e =>
        have hs2 : RnF n z C t r 3 u Tq a1 (i1 + 1) c1 (P ++ [cmO (tk i1).1]) j false e.1 e.2 := by
          have : OutS n z C t r 3 u tk Tq a1 (i1 + 1) c1 (P ++ [cmO (tk i1).1]) j (pSum tk 3 12 j (i1 + 1) c1) := hsum2
          rw [hx2] at this; exact this
        exact hto2.tf hs2
      | inr y =>
        obtain ⟨i2, c2⟩ := y
        obtain ⟨Q2, d2, l1, l2, l3, l4, l5⟩ : ∃ Q d1, c2 = d1 ++ mpC Q ∧ Q.length ≤ 2 ∧ (∀ o, o ∈ Q → 3 ≤ o ∧ o ≤ 6) ∧ RnT n z C t r 3 u Tq a1 (i1 + 1) c1 (P ++ [cmO (tk i1).1]) j false i2 d1 ((P ++ [cmO (tk i1).1]) ++ Q.reverse) j true ∧ ¬ (28 ≤ (tk i2).1 ∧ (tk i2).1 ≤ 31) := by
          have : OutS n z C t r 3 u tk Tq a1 (i1 + 1) c1 (P ++ [cmO (tk i1).1]) j (pSum tk 3 12 j (i1 + 1) c1) := hsum2
          rw [hx2] at this; exact this
        rw [pB_r]
        obtain ⟨r1, r2, r3⟩ := rep_20 j
        have hG : (P ++ [cmO (tk i1).1]) ++ Q2.reverse = p ++ (Q2 ++ (cmO (tk i1).1 :: List.replicate j 20)).reverse := by
          rw [List.reverse_append, List.reverse_cons, r3, hP]; simp only [List.append_assoc]
        have hcn : cnU (Q2 ++ (cmO (tk i1).1 :: List.replicate j 20)) = j := by
          rw [cnU_app, (q36 l3).2.2]
          show 0 + ((if cmO (tk i1).1 = 2 ∨ cmO (tk i1).1 = 20 then 1 else 0) + cnU (List.replicate j 20)) = j
          rw [if_neg (by omega), r1]; omega
        have hto3 := hto2.tt l4
        rw [hG] at hto3
        refine ⟨Q2 ++ (cmO (tk i1).1 :: List.replicate j 20), d2, ?_, ⟨Q2, _, j, rfl, l2, l3, b1, b2, hj⟩, ?_, l5⟩
        · show c2 ++ (cmO (tk i1).1, 0) :: ntC j = _
          rw [l1, mpC_app, List.append_assoc, ← r2]; rfl
        · rw [hcn]; exact hto3
    · rw [if_neg (fun w => hcm (dec_t.mp w))]
      refine hto.tf (fun I J F hF hs => ?_)
      have hst := rn_stop (n := n) (z := z) (C := C) (t := t) (r := r) (so := 3) (u := u) (a1 := a1) (i := i1) (c := d1) (op := j) hn hT (p := P ++ Q.reverse) (fun o ho => by have := h40 o ho; omega) (fun I J hs => by rw [bt_cm hn hT hs ha g5 h40 (hcomp I J hs), if_neg (fun w => hcm (dec_t.mp w))]) (fun b m s e m1 _ => by
        have := h40 m (by rw [e]; exact List.mem_append.mpr (Or.inl (List.mem_append.mpr (Or.inr (List.mem_singleton.mpr rfl)))))
        omega)
      refine ⟨I, J, ?_, hs.1, FrQ.rfq z r I J⟩
      rw [hst I J F hF hs]
      unfold KpR
      have em := q_mark (n := n) (C := C) (t := t) (u := u) (a := []) (Q := (P ++ Q.reverse).reverse) hn hs (by rw [List.nil_append, List.reverse_reverse]) (fun o ho => h40 o (List.mem_reverse.mp ho)) (Or.inl rfl)
      rw [em, cl_some, if_neg (by decide), if_neg ha, hcomp I J hs, cl_some, if_pos (show bWC false = 0 from rfl)]
      rfl
end RZ
