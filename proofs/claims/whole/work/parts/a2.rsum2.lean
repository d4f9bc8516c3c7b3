/-! THE REFERENCE READS SUM -/
section RY
variable {n z C t r so : Nat} {u : Option Nat} {tk : Nat → Nat × Nat} {Tq : TQ} {a1 : Int32}
def wLL (w : Option Nat) : List Nat := match w with
  | none => []
  | some q => [q - 25]
theorem mpC_app (a b : List Nat) : mpC (a ++ b) = mpC a ++ mpC b := by unfold mpC; rw [List.map_append]
theorem wLL_mp (w : Option Nat) : mpC (wLL w) = wlC w := by
  cases w with
  | none => rfl
  | some q => rfl
def OutL (n z C t r so : Nat) (u : Option Nat) (tk : Nat → Nat × Nat) (Tq : TQ) (a1 : Int32) (i : Nat) (c : Cd) (p P : List Nat) (op : Nat) (x : PrR) : Prop := match x with
  | Sum.inl e => RnF n z C t r so u Tq a1 i c P op true e.1 e.2
  | Sum.inr y => ∃ Q c1, y.2 = c1 ++ mpC Q ∧ Q.length ≤ 2 ∧ (∀ o, o ∈ Q → 3 ≤ o ∧ o ≤ 6) ∧ RnT n z C t r so u Tq a1 i c P op true y.1 c1 (p ++ Q.reverse) op true ∧ ¬ (28 ≤ (tk y.1).1 ∧ (tk y.1).1 ≤ 31)
theorem rf_Loop (hn : 100000 ≤ n) (hT : TokOK n z C t u tk Tq) (hE : ∀ i, 300 ≤ i → (tk i).1 = 39) {bot : Nat} {R : Nat → Nat → Cd → PrR} (hR : RfOn n z C t r so u tk Tq a1 R bot) (hgd : GdL R 8) {op : Nat} (hbot : bot ≤ op) (hop : op ≤ 8) {p : List Nat} (hp : ∀ o, o ∈ p → o < 1000) (hpl : p.length ≤ 3 * op + 6) (hlast : p = [] ∨ ∃ p' o, p = p' ++ [o] ∧ rkN o ≤ 4) : ∀ (f : Nat) (w : Option Nat) (T : List Nat) (i : Nat) (d : Cd), 300 ≤ f + i → (w = none ∨ ∃ q, w = some q ∧ 28 ≤ q ∧ q ≤ 29) → (T = [] ∨ T = [5] ∨ T = [6]) → d.length + T.length + (wLL w).length + 1 ≤ i → OutL n z C t r so u tk Tq a1 i d p (p ++ (T ++ wLL w).reverse) op (pLoop tk (R op) f w i (d ++ mpC T)) := by
  have hwm : ∀ w : Option Nat, (w = none ∨ ∃ q, w = some q ∧ 28 ≤ q ∧ q ≤ 29) → (∀ o, o ∈ wLL w → 3 ≤ o ∧ o ≤ 4) ∧ (wLL w).length ≤ 1 := by
    rintro w (rfl | ⟨q, rfl, q1, q2⟩)
    · exact ⟨(fun o ho => by cases ho), Nat.zero_le _⟩
    · exact ⟨fun o ho => by have : o = q - 25 := List.mem_singleton.mp ho; omega, Nat.le_refl _⟩
  have hTm : ∀ T : List Nat, (T = [] ∨ T = [5] ∨ T = [6]) → (∀ o, o ∈ T → 5 ≤ o ∧ o ≤ 6) ∧ T.length ≤ 1 := by
    rintro T (rfl | rfl | rfl)
    · exact ⟨(fun o ho => by cases ho), Nat.zero_le _⟩
    · exact ⟨fun o ho => by have := List.mem_singleton.mp ho; omega, Nat.le_refl _⟩
    · exact ⟨fun o ho => by have := List.mem_singleton.mp ho; omega, Nat.le_refl _⟩
  have hlp : ∀ L, 5 ≤ L → (p = [] ∨ ∃ p' o, p = p' ++ [o] ∧ o < 1000 ∧ rkN o < L) := fun L hL => hlast.imp id (fun ⟨p', o, e, h⟩ => ⟨p', o, e, hp o (by rw [e]; exact List.mem_append.mpr (Or.inr (List.mem_singleton.mpr rfl))), by omega⟩)
  intro f
  induction f with
  | zero =>
    intro w T i d hf hw hTT hl
    obtain ⟨w1, w2⟩ := hwm w hw
    obtain ⟨t1, t2⟩ := hTm T hTT
    have h39 := hE i (by omega)
    refine ⟨T ++ wLL w, d, ?_, by rw [List.length_append]; omega, fun o ho => ?_, RnT.rfr, by show ¬ (28 ≤ (tk i).1 ∧ (tk i).1 ≤ 31); omega⟩
    · show d ++ mpC T ++ wlC w = d ++ mpC (T ++ wLL w)
      rw [mpC_app, wLL_mp, List.append_assoc]
    · rcases List.mem_append.mp ho with q | q
      · have := t1 o q; omega
      · have := w1 o q; omega
  | succ f ih =>
    intro w T i d hf hw hTT hl
    obtain ⟨w1, w2⟩ := hwm w hw
    obtain ⟨t1, t2⟩ := hTm T hTT
    have hmem : ∀ x, x ∈ p ++ (T ++ wLL w).reverse → x < 1000 := fun x hx => by
      rcases List.mem_append.mp hx with q | q
      · exact hp x q
      · rcases List.mem_append.mp (List.mem_reverse.mp q) with q | q
        · have := t1 x q; omega
        · have := w1 x q; omega
    rw [pLoop]
    by_cases h28 : 28 ≤ (tk i).1 ∧ (tk i).1 ≤ 31
    · rw [if_pos h28]
      by_cases h30 : 30 ≤ (tk i).1
      · rw [if_pos h30]
        obtain ⟨o, ho, ho56⟩ : ∃ o, o = (tk i).1 - 25 ∧ (o = 5 ∨ o = 6) := ⟨_, rfl, by omega⟩
        have hrk : rkN o = 6 := by rcases ho56 with q | q <;> (rw [q]; rfl)
        have e1 : p ++ (T ++ wLL w).reverse = (p ++ (wLL w).reverse) ++ T.reverse := by rw [List.reverse_append, List.append_assoc]
        have hwr : (wLL w).reverse.length ≤ 1 := by rw [List.length_reverse]; exact w2
        have hb := rn_bin (n := n) (z := z) (C := C) (t := t) (r := r) (so := so) (u := u) (a1 := a1) (i := i) (c := d) (op := op) (p := p ++ (wLL w).reverse) (Q := T) (o := o) hn hT (by rw [← e1]; exact hmem) (by omega) (by omega) (fun I J hs => by rw [bt_ar hT hs.1 h28.1 h28.2, ho]) (fun x hx => ⟨by have := t1 x hx; omega, by
          have h56 : x = 5 ∨ x = 6 := by have := t1 x hx; omega
          rw [hrk]
          rcases h56 with q | q <;> (rw [q]; decide)⟩) (by
          rcases hw with rfl | ⟨q, rfl, q1, q2⟩
          · rw [show (wLL none).reverse = ([] : List Nat) from rfl, List.append_nil, hrk]; exact hlp 6 (by omega)
          · refine Or.inr ⟨p, q - 25, rfl, by omega, ?_⟩
            rw [hrk]
            have : q = 28 ∨ q = 29 := by omega
            rcases this with q | q <;> (rw [q]; decide)) (by omega) (by
          have : cnU T = 0 := by rcases hTT with q | q | q <;> (rw [q]; rfl)
          omega) (by rw [List.length_append]; omega)
        have hcT : cnU T = 0 := by rcases hTT with q | q | q <;> (rw [q]; rfl)
        rw [← e1, hcT, Nat.sub_zero] at hb
        have hlen2 : (p ++ (wLL w).reverse ++ [o]).length = p.length + (wLL w).length + 1 := by rw [List.length_append, List.length_append, List.length_reverse]; rfl
        have hone := hR op (i + 1) (d ++ mpC T) (p ++ (wLL w).reverse ++ [o]) hbot hop (fun x hx => by
          rcases List.mem_append.mp hx with q | q
          · rcases List.mem_append.mp q with q | q
            · exact hp x q
            · have := w1 x (List.mem_reverse.mp q); omega
          · have := List.mem_singleton.mp q; omega) (by rw [hlen2]; omega) (Or.inr ⟨_, o, rfl, by omega⟩) (fun _ => Or.inr (Or.inr ⟨_, o, rfl, by omega⟩)) (by rw [List.length_append, mpC_len]; omega)
        cases hx : R op (i + 1) (d ++ mpC T) with
        | inl e => rw [hx] at hone; exact hb.tf hone
        | inr y =>
          obtain ⟨i2, c2⟩ := y
          rw [hx] at hone
          have hg := hgd _ _ _ _ _ hop hx
          rw [List.length_append, mpC_len] at hg
          rw [pB_r]
          have h2 := ih w [o] i2 c2 (by omega) hw (by rcases ho56 with q | q <;> (rw [q]; simp)) (by show c2.length + 1 + (wLL w).length + 1 ≤ i2; omega)
          have e2 : p ++ ([o] ++ wLL w).reverse = p ++ (wLL w).reverse ++ [o] := by rw [List.reverse_append, ← List.append_assoc]; rfl
          rw [e2, show mpC [o] = [((tk i).1 - 25, 0)] by rw [ho]; rfl] at h2
          have hto := hb.tt (show RnT n z C t r so u Tq a1 (i + 1) (d ++ mpC T) (p ++ (wLL w).reverse ++ [o]) op false i2 c2 (p ++ (wLL w).reverse ++ [o]) op true from hone)
          cases hL : pLoop tk (R op) f w i2 (c2 ++ [((tk i).1 - 25, 0)]) with
          | inl e => rw [hL] at h2; exact hto.tf h2
          | inr y =>
            rw [hL] at h2
            obtain ⟨Q, c1, a1', a2', a3', a4', a5'⟩ := h2
            exact ⟨Q, c1, a1', a2', a3', hto.tt a4', a5'⟩
      · rw [if_neg h30]
        obtain ⟨o, ho, ho34⟩ : ∃ o, o = (tk i).1 - 25 ∧ (o = 3 ∨ o = 4) := ⟨_, rfl, by omega⟩
        have hrk : rkN o = 5 := by rcases ho34 with q | q <;> (rw [q]; rfl)
        have hc0 : cnU (T ++ wLL w) = 0 := (q36 (fun x hx => by
          rcases List.mem_append.mp hx with q | q
          · have := t1 x q; omega
          · have := w1 x q; omega)).2.2
        have hb := rn_bin (n := n) (z := z) (C := C) (t := t) (r := r) (so := so) (u := u) (a1 := a1) (i := i) (c := d) (op := op) (p := p) (Q := T ++ wLL w) (o := o) hn hT hmem (by omega) (by omega) (fun I J hs => by rw [bt_ar hT hs.1 h28.1 h28.2, ho]) (fun x hx => by
          have h36 : 3 ≤ x ∧ x ≤ 6 := by
            rcases List.mem_append.mp hx with q | q
            · have := t1 x q; omega
            · have := w1 x q; omega
          refine ⟨by omega, ?_⟩
          rw [hrk]
          have : x = 3 ∨ x = 4 ∨ x = 5 ∨ x = 6 := by omega
          rcases this with q | q | q | q <;> (rw [q]; decide)) (by rw [hrk]; exact hlp 5 (by omega)) (by rw [List.length_append]; omega) (by omega) (by omega)
        rw [hc0, Nat.sub_zero, mpC_app, wLL_mp, ← List.append_assoc] at hb
        have hone := hR op (i + 1) (d ++ mpC T ++ wlC w) (p ++ [o]) hbot hop (fun x hx => by
          rcases List.mem_append.mp hx with q | q
          · exact hp x q
          · have := List.mem_singleton.mp q; omega) (by rw [List.length_append]; show p.length + 1 ≤ _; omega) (Or.inr ⟨_, o, rfl, by omega⟩) (fun _ => Or.inr (Or.inr ⟨_, o, rfl, by omega⟩)) (by rw [List.length_append, List.length_append, mpC_len, ← wLL_mp, mpC_len]; omega)
        cases hx : R op (i + 1) (d ++ mpC T ++ wlC w) with
        | inl e => rw [hx] at hone; exact hb.tf hone
        | inr y =>
          obtain ⟨i2, c2⟩ := y
          rw [hx] at hone
          have hg := hgd _ _ _ _ _ hop hx
          rw [List.length_append, List.length_append, mpC_len, ← wLL_mp, mpC_len] at hg
          rw [pB_r]
          have h2 := ih (some (tk i).1) [] i2 c2 (by omega) (Or.inr ⟨_, rfl, h28.1, by omega⟩) (Or.inl rfl) (by show c2.length + 0 + 1 + 1 ≤ i2; omega)
          rw [show p ++ (([] : List Nat) ++ wLL (some (tk i).1)).reverse = p ++ [o] by rw [ho]; rfl, show mpC [] = ([] : Cd) from rfl, List.append_nil] at h2
          have hto := hb.tt (show RnT n z C t r so u Tq a1 (i + 1) (d ++ mpC T ++ wlC w) (p ++ [o]) op false i2 c2 (p ++ [o]) op true from hone)
          cases hL : pLoop tk (R op) f (some (tk i).1) i2 c2 with
          | inl e => rw [hL] at h2; exact hto.tf h2
          | inr y =>
            rw [hL] at h2
            obtain ⟨Q, c1, a1', a2', a3', a4', a5'⟩ := h2
            exact ⟨Q, c1, a1', a2', a3', hto.tt a4', a5'⟩
    · rw [if_neg h28]
      refine ⟨T ++ wLL w, d, ?_, by rw [List.length_append]; omega, fun o ho => ?_, RnT.rfr, h28⟩
      · show d ++ mpC T ++ wlC w = d ++ mpC (T ++ wLL w)
        rw [mpC_app, wLL_mp, List.append_assoc]
      · rcases List.mem_append.mp ho with q | q
        · have := t1 o q; omega
        · have := w1 o q; omega
theorem rf_SumB (hn : 100000 ≤ n) (hT : TokOK n z C t u tk Tq) (hE : ∀ i, 300 ≤ i → (tk i).1 = 39) {bot : Nat} {R : Nat → Nat → Cd → PrR} (hR : RfOn n z C t r so u tk Tq a1 R bot) (hgd : GdL R 8) : RfSm n z C t r so u tk Tq a1 (fun op i c => pB (R op i c) (fun i1 c1 => pLoop tk (R op) 300 none i1 c1)) bot := by
  intro op i c p hbot hop hp hpl hlast hA hci
  show OutS n z C t r so u tk Tq a1 i c p op (pB (R op i c) (fun i1 c1 => pLoop tk (R op) 300 none i1 c1))
  have hone := hR op i c p hbot hop hp (by omega) (hlast.imp id (fun ⟨p', o, e, h⟩ => ⟨p', o, e, by omega⟩)) hA hci
  cases hx : R op i c with
  | inl e => rw [hx] at hone; exact hone
  | inr y =>
    obtain ⟨i1, c1⟩ := y
    rw [hx] at hone
    have hone : RnT n z C t r so u Tq a1 i c p op false i1 c1 p op true := hone
    have hg := hgd _ _ _ _ _ hop hx
    rw [pB_r]
    have h2 := rf_Loop (n := n) (z := z) (C := C) (t := t) (r := r) (so := so) (u := u) (a1 := a1) hn hT hE hR hgd hbot hop hp hpl hlast 300 none [] i1 c1 (by omega) (Or.inl rfl) (Or.inl rfl) (by show c1.length + 0 + 0 + 1 ≤ i1; omega)
    rw [show p ++ (([] : List Nat) ++ wLL none).reverse = p ++ [] from rfl, List.append_nil, show mpC [] = ([] : Cd) from rfl, List.append_nil] at h2
    cases hL : pLoop tk (R op) 300 none i1 c1 with
    | inl e => rw [hL] at h2; exact hone.tf h2
    | inr y =>
      rw [hL] at h2
      obtain ⟨Q, c1, a1', a2', a3', a4', a5'⟩ := h2
      exact ⟨Q, c1, a1', a2', a3', hone.tt a4', a5'⟩
theorem RfSm.lower {R : Nat → Nat → Cd → PrR} {b b' : Nat} (hb : b ≤ b') (h : RfSm n z C t r so u tk Tq a1 R b) : RfSm n z C t r so u tk Tq a1 R b' := fun op i c p h1 => h op i c p (by omega)
theorem rf_Sum (hn : 100000 ≤ n) (hT : TokOK n z C t u tk Tq) (hE : ∀ i, 300 ≤ i → (tk i).1 = 39) (hso : so < 4) : ∀ d, RfSm n z C t r so u tk Tq a1 (fun op i c => pSum tk so d op i c) (9 - d) := by
  intro d
  induction d with
  | zero => exact fun op i c p h1 h2 => by omega
  | succ d ih =>
    have h1 := rf_One (bot := 9 - (d + 1)) hn hT hso (ih.lower (by omega)) (gd_pSum d)
    exact rf_SumB hn hT hE h1 (gd_pOne d)
end RY
