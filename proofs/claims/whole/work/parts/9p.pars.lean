/-! READING A TEXT, abstract: tokens (sign, value), the laws' grammar; what is read has a good shape -/
abbrev Cd : Type := List (Nat × Nat)
abbrev PrR : Type := (Nat × Nat) ⊕ (Nat × Cd)
def pB (r : PrR) (k : Nat → Cd → PrR) : PrR := match r with
  | Sum.inl e => Sum.inl e
  | Sum.inr x => k x.1 x.2
theorem pB_l (e : Nat × Nat) (k : Nat → Cd → PrR) : pB (Sum.inl e) k = Sum.inl e := rfl
theorem pB_r (i : Nat) (c : Cd) (k : Nat → Cd → PrR) : pB (Sum.inr (i, c)) k = k i c := rfl
theorem pB_as (r : PrR) (k k2 : Nat → Cd → PrR) : pB (pB r k) k2 = pB r (fun i c => pB (k i c) k2) := by
  cases r with
  | inl e => rfl
  | inr x => rfl
def ngC (j : Nat) : Cd := List.replicate j (2, 0)
def ntC (j : Nat) : Cd := List.replicate j (20, 0)
/-- how many tokens of that sign stand from i on, f at most -/
def cntS (tk : Nat → Nat × Nat) (s : Nat) : Nat → Nat → Nat
  | 0, _ => 0
  | f + 1, i => if (tk i).1 = s then cntS tk s f (i + 1) + 1 else 0
def pOneJ (tk : Nat → Nat × Nat) (so : Nat) (rc : Nat → Nat → Cd → PrR) (j op i : Nat) (c : Cd) : PrR :=
  if (tk i).1 = 38 then (if 9999 < (tk i).2 then Sum.inl (2, i) else Sum.inr (i + 1, c ++ (0, (tk i).2) :: ngC j))
  else if (tk i).1 < 12 then (if isOfN so (tk i).1 = true then Sum.inr (i + 1, c ++ (1, (tk i).1) :: ngC j) else Sum.inl (5, i))
  else if (tk i).1 = 32 then (if 8 ≤ op then Sum.inl (3, i) else pB (rc (op + 1) (i + 1) c) (fun i2 c2 => if (tk i2).1 = 33 then Sum.inr (i2 + 1, c2 ++ ngC j) else Sum.inl (1, i2)))
  else if (tk i).1 = 12 ∨ (tk i).1 = 13 then (if (tk (i + 1)).1 = 32 then (if 8 ≤ op then Sum.inl (3, i + 1) else pB (rc (op + 1) (i + 2) c) (fun i2 c2 => if (tk i2).1 = 34 then pB (rc (op + 1) (i2 + 1) c2) (fun i3 c3 => if (tk i3).1 = 33 then Sum.inr (i3 + 1, c3 ++ ((tk i).1 - 5, 0) :: ngC j) else Sum.inl (1, i3)) else Sum.inl (1, i2))) else Sum.inl (1, i + 1))
  else Sum.inl (if (tk i).1 = 29 then 3 else 1, i)
def pOne (tk : Nat → Nat × Nat) (so : Nat) (rc : Nat → Nat → Cd → PrR) (op i : Nat) (c : Cd) : PrR := pOneJ tk so rc (cntS tk 29 (8 - op) i) (op + cntS tk 29 (8 - op) i) (i + cntS tk 29 (8 - op) i) c
def wlC (w : Option Nat) : Cd := match w with
  | none => []
  | some k => [(k - 25, 0)]
def pLoop (tk : Nat → Nat × Nat) (on : Nat → Cd → PrR) : Nat → Option Nat → Nat → Cd → PrR
  | 0, w, i, c => Sum.inr (i, c ++ wlC w)
  | f + 1, w, i, c => if 28 ≤ (tk i).1 ∧ (tk i).1 ≤ 31 then (if 30 ≤ (tk i).1 then pB (on (i + 1) c) (fun i2 c2 => pLoop tk on f w i2 (c2 ++ [((tk i).1 - 25, 0)])) else pB (on (i + 1) (c ++ wlC w)) (fun i2 c2 => pLoop tk on f (some (tk i).1) i2 c2)) else Sum.inr (i, c ++ wlC w)
def pSum (tk : Nat → Nat × Nat) (so : Nat) : Nat → Nat → Nat → Cd → PrR
  | 0, _, i, _ => Sum.inl (0, i)
  | d + 1, op, i, c => pB (pOne tk so (pSum tk so d) op i c) (fun i1 c1 => pLoop tk (pOne tk so (pSum tk so d) op) 300 none i1 c1)
def isCm (k : Nat) : Prop := (24 ≤ k ∧ k ≤ 27) ∨ k = 36 ∨ k = 37
def cmO (k : Nat) : Nat := if k = 24 then 10 else if k = 36 then 11 else if k = 25 then 12 else if k = 37 then 13 else if k = 26 then 14 else 15
noncomputable def pAskJ (tk : Nat → Nat × Nat) (j i : Nat) (c : Cd) : PrR := if (tk i).1 = 14 then Sum.inl (3, i) else pB (pSum tk 3 12 j i c) (fun i1 c1 => if dec (isCm (tk i1).1) = true then pB (pSum tk 3 12 j (i1 + 1) c1) (fun i2 c2 => Sum.inr (i2, c2 ++ (cmO (tk i1).1, 0) :: ntC j)) else Sum.inl (1, i1))
noncomputable def pAsk (tk : Nat → Nat × Nat) (i : Nat) (c : Cd) : PrR := pAskJ tk (cntS tk 14 8 i) (i + cntS tk 14 8 i) c
def orC (w : Bool) : Cd := if w = true then [(22, 0)] else []
noncomputable def pELoop (tk : Nat → Nat × Nat) : Nat → Bool → Nat → Cd → PrR
  | 0, w, i, c => Sum.inr (i, c ++ orC w)
  | f + 1, w, i, c => if (tk i).1 = 15 then pB (pAsk tk (i + 1) c) (fun i2 c2 => pELoop tk f w i2 (c2 ++ [(21, 0)])) else if (tk i).1 = 16 then pB (pAsk tk (i + 1) (c ++ orC w)) (fun i2 c2 => pELoop tk f true i2 c2) else Sum.inr (i, c ++ orC w)
noncomputable def pEither (tk : Nat → Nat × Nat) (i : Nat) (c : Cd) : PrR := pB (pAsk tk i c) (fun i1 c1 => pELoop tk 300 false i1 c1)
/-! the shape of what is read -/
def shLs : Cd → Nat → Nat → Nat → Nat → Prop
  | [], n, k, n', k' => n = n' ∧ k = k'
  | x :: r, n, k, n', k' => okA x n k ∧ shLs r (nxN x n) (nxK x k) n' k'
theorem shL_app : ∀ (a b : Cd) (n k n1 k1 n2 k2 : Nat), shLs a n k n1 k1 → shLs b n1 k1 n2 k2 → shLs (a ++ b) n k n2 k2
  | [], b, n, k, n1, k1, n2, k2, h, h2 => by
    obtain ⟨rfl, rfl⟩ := h
    exact h2
  | x :: a, b, n, k, n1, k1, n2, k2, h, h2 => ⟨h.1, shL_app a b _ _ _ _ _ _ h.2 h2⟩
/-- each place of it may stand in a law of that sort -/
def plC (so : Nat) (e : Cd) : Prop := ∀ x, x ∈ e → (2 ≤ x.1 → x.2 = 0) ∧ (x.1 = 1 → isOfN so x.2 = true)
theorem plC_app {so : Nat} {a b : Cd} (h : plC so a) (h2 : plC so b) : plC so (a ++ b) := fun x hx => by
  rcases List.mem_append.mp hx with w | w
  · exact h x w
  · exact h2 x w
/-- what is read from i to i': it adds e, of that shape -/
def gdR (so n k n' k' : Nat) (i : Nat) (c : Cd) (r : PrR) : Prop := match r with
  | Sum.inl _ => True
  | Sum.inr x => ∃ e, x.2 = c ++ e ∧ i < x.1 ∧ e.length + i ≤ x.1 ∧ shLs e n k n' k' ∧ plC so e
theorem gdR_l {so n k n' k' i : Nat} {c : Cd} {e : Nat × Nat} : gdR so n k n' k' i c (Sum.inl e) := trivial
theorem shL_1 {x : Nat × Nat} {n k n' k' : Nat} (h : okA x n k) (h1 : nxN x n = n') (h2 : nxK x k = k') : shLs [x] n k n' k' := ⟨h, h1, h2⟩
theorem plC_1 {so : Nat} {x : Nat × Nat} (h : (2 ≤ x.1 → x.2 = 0) ∧ (x.1 = 1 → isOfN so x.2 = true)) : plC so [x] := fun y hy => by
  rw [List.mem_singleton] at hy
  rw [hy]; exact h
theorem plC_0 {so o : Nat} (h : 2 ≤ o) : plC so [(o, 0)] := plC_1 ⟨fun _ => rfl, fun w => by have w : o = 1 := w; omega⟩
theorem ng_ok {so n k : Nat} (hn : 1 ≤ n) : ∀ j, shLs (ngC j) n k n k ∧ plC so (ngC j) ∧ (ngC j).length = j
  | 0 => ⟨⟨rfl, rfl⟩, (fun x hx => by cases hx), rfl⟩
  | j + 1 => by
    obtain ⟨h1, h2, h3⟩ := ng_ok (so := so) (k := k) hn j
    refine ⟨⟨Or.inr (Or.inr (Or.inl ⟨rfl, hn⟩)), ?_⟩, ?_, ?_⟩
    · exact h1
    · exact plC_app (plC_0 (by omega)) h2
    · show (ngC j).length + 1 = _; rw [h3]
theorem nt_ok {so k : Nat} (hk : 1 ≤ k) : ∀ j, shLs (ntC j) 0 k 0 k ∧ plC so (ntC j) ∧ (ntC j).length = j
  | 0 => ⟨⟨rfl, rfl⟩, (fun x hx => by cases hx), rfl⟩
  | j + 1 => by
    obtain ⟨h1, h2, h3⟩ := nt_ok (so := so) hk j
    refine ⟨⟨Or.inr (Or.inr (Or.inr (Or.inr (Or.inr (Or.inl ⟨rfl, rfl, hk⟩))))), ?_⟩, ?_, ?_⟩
    · exact h1
    · exact plC_app (plC_0 (by omega)) h2
    · show (ntC j).length + 1 = _; rw [h3]
theorem cntS_le {tk : Nat → Nat × Nat} {s : Nat} : ∀ f i, cntS tk s f i ≤ f
  | 0, _ => Nat.le_refl _
  | f + 1, i => by
    rw [cntS]
    split
    · have := cntS_le (tk := tk) (s := s) f (i + 1); omega
    · omega
theorem gdR_b {so n k n1 k1 n2 k2 i : Nat} {c : Cd} {r : PrR} {K : Nat → Cd → PrR} (h : gdR so n k n1 k1 i c r) (h2 : ∀ i1 c1, i < i1 → gdR so n1 k1 n2 k2 i1 c1 (K i1 c1)) : gdR so n k n2 k2 i c (pB r K) := by
  cases r with
  | inl e => exact trivial
  | inr x =>
    obtain ⟨i1, c1⟩ := x
    obtain ⟨e, e1, e2, e3, e4, e5⟩ := h
    have hk := h2 i1 c1 e2
    show gdR so n k n2 k2 i c (K i1 c1)
    cases hK : K i1 c1 with
    | inl e => exact trivial
    | inr y =>
      rw [hK] at hk
      obtain ⟨f, f1, f2, f3, f4, f5⟩ := hk
      have e1 : c1 = c ++ e := e1
      have e2 : i < i1 := e2
      have e3 : e.length + i ≤ i1 := e3
      refine ⟨e ++ f, by rw [f1, e1, List.append_assoc], by omega, by rw [List.length_append]; omega, shL_app _ _ _ _ _ _ _ _ e4 f4, plC_app e5 f5⟩
/-- the last token of it adds e -/
theorem gdR_e {so n k n' k' i i' : Nat} {c e : Cd} (hi : i < i') (hl : e.length + i ≤ i') (h : shLs e n k n' k') (h2 : plC so e) : gdR so n k n' k' i c (Sum.inr (i', c ++ e)) := ⟨e, rfl, hi, hl, h, h2⟩
theorem gdR_n {so n k i i' : Nat} {c : Cd} (hi : i < i') : gdR so n k n k i c (Sum.inr (i', c)) := ⟨[], by rw [List.append_nil], hi, by show 0 + i ≤ i'; omega, ⟨rfl, rfl⟩, fun x hx => by cases hx⟩
theorem gdR_st {so n k n' k' i j : Nat} {c : Cd} {r : PrR} (h : gdR so n k n' k' i c r) (hj : j ≤ i) : gdR so n k n' k' j c r := by
  cases r with
  | inl e => exact trivial
  | inr x =>
    obtain ⟨e, e1, e2, e3, e4, e5⟩ := h
    exact ⟨e, e1, by omega, by omega, e4, e5⟩
/-- with a minus sign or more before it -/
theorem gdR_ng {so n k i i0 j i' : Nat} {c e : Cd} (hi : i0 + j ≤ i) (hii : i < i') (hl : e.length + i ≤ i') (h : shLs e n k (n + 1) k) (h2 : plC so e) : gdR so n k (n + 1) k i0 c (Sum.inr (i', c ++ (e ++ ngC j))) := by
  obtain ⟨a1, a2, a3⟩ := ng_ok (so := so) (n := n + 1) (k := k) (by omega) j
  exact ⟨e ++ ngC j, rfl, by show i0 < i'; omega, by rw [List.length_append, a3]; show _ ≤ i'; omega, shL_app _ _ _ _ _ _ _ _ h a1, plC_app h2 a2⟩
theorem pOne_gd {tk : Nat → Nat × Nat} {so op n k : Nat} {rc : Nat → Nat → Cd → PrR} (hop : op ≤ 8) (hnk : n + k + 3 * (9 - op) + 1 ≤ 50) (hr : ∀ q m i c, q ≤ 8 → m + k + 3 * (10 - q) ≤ 50 → gdR so m k (m + 1) k i c (rc q i c)) (i : Nat) (c : Cd) : gdR so n k (n + 1) k i c (pOne tk so rc op i c) := by
  have hj := cntS_le (tk := tk) (s := 29) (8 - op) i
  unfold pOne
  generalize cntS tk 29 (8 - op) i = j at *
  unfold pOneJ
  split
  · split
    · exact gdR_l
    · rename_i hv
      exact gdR_ng (e := [(0, (tk (i + j)).2)]) (i := i + j) (Nat.le_refl _) (by omega) (by show 1 + (i + j) ≤ i + j + 1; omega) (shL_1 (Or.inl ⟨rfl, by show (tk (i + j)).2 ≤ 9999; omega, by omega⟩) rfl rfl) (plC_1 ⟨fun w => by have w : 2 ≤ 0 := w; omega, fun w => by have w : 0 = 1 := w; omega⟩)
  · split
    · rename_i h12
      split
      · rename_i hof
        exact gdR_ng (e := [(1, (tk (i + j)).1)]) (i := i + j) (Nat.le_refl _) (by omega) (by show 1 + (i + j) ≤ i + j + 1; omega) (shL_1 (Or.inr (Or.inl ⟨rfl, h12, by omega⟩)) rfl rfl) (plC_1 ⟨fun w => by have w : 2 ≤ 1 := w; omega, fun _ => hof⟩)
      · exact gdR_l
    · split
      · split
        · exact gdR_l
        · rename_i hop8
          have h1 := hr (op + j + 1) n (i + j + 1) c (by omega) (by omega)
          cases hK : rc (op + j + 1) (i + j + 1) c with
          | inl e => exact gdR_l
          | inr x =>
            obtain ⟨i2, c2⟩ := x
            rw [hK] at h1
            obtain ⟨e, e1, e2, e3, e4, e5⟩ := h1
            have e1 : c2 = c ++ e := e1
            have e2 : i + j + 1 < i2 := e2
            have e3 : e.length + (i + j + 1) ≤ i2 := e3
            rw [pB_r]
            split
            · rw [e1, List.append_assoc]
              exact gdR_ng (i := i + j) (Nat.le_refl _) (by omega) (by omega) e4 e5
            · exact gdR_l
      · split
        · rename_i hmm
          split
          · split
            · exact gdR_l
            · rename_i hop8
              have h1 := hr (op + j + 1) n (i + j + 2) c (by omega) (by omega)
              cases hK : rc (op + j + 1) (i + j + 2) c with
              | inl e => exact gdR_l
              | inr x =>
                obtain ⟨i2, c2⟩ := x
                rw [hK] at h1
                obtain ⟨e, e1, e2, e3, e4, e5⟩ := h1
                have e1 : c2 = c ++ e := e1
                have e2 : i + j + 2 < i2 := e2
                have e3 : e.length + (i + j + 2) ≤ i2 := e3
                rw [pB_r]
                split
                · have h2 := hr (op + j + 1) (n + 1) (i2 + 1) c2 (by omega) (by omega)
                  cases hK2 : rc (op + j + 1) (i2 + 1) c2 with
                  | inl e => exact gdR_l
                  | inr x =>
                    obtain ⟨i3, c3⟩ := x
                    rw [hK2] at h2
                    obtain ⟨f, f1, f2, f3, f4, f5⟩ := h2
                    have f1 : c3 = c2 ++ f := f1
                    have f2 : i2 + 1 < i3 := f2
                    have f3 : f.length + (i2 + 1) ≤ i3 := f3
                    rw [pB_r]
                    split
                    · rw [f1, e1]
                      have hs : shLs ((e ++ f) ++ [((tk (i + j)).1 - 5, 0)]) n k (n + 1) k := by
                        refine shL_app _ _ _ _ _ _ _ _ (shL_app _ _ _ _ _ _ _ _ e4 f4) (shL_1 (Or.inr (Or.inr (Or.inr (Or.inl ⟨⟨?_, ?_⟩, ?_⟩)))) ?_ ?_)
                        · show 3 ≤ (tk (i + j)).1 - 5; omega
                        · show (tk (i + j)).1 - 5 ≤ 8; omega
                        · omega
                        · unfold nxN
                          rw [if_neg (by show ¬ (tk (i + j)).1 - 5 ≤ 1; omega), if_neg (by show ¬ (tk (i + j)).1 - 5 = 2; omega), if_pos (by show (tk (i + j)).1 - 5 < 10; omega)]; omega
                        · unfold nxK
                          rw [if_pos (by show (tk (i + j)).1 - 5 < 10; omega)]
                      have := gdR_ng (so := so) (n := n) (k := k) (c := c) (e := (e ++ f) ++ [((tk (i + j)).1 - 5, 0)]) (i := i + j) (i' := i3 + 1) (Nat.le_refl _) (by omega) (by rw [List.length_append, List.length_append]; show e.length + f.length + 1 + (i + j) ≤ i3 + 1; omega) hs (plC_app (plC_app e5 f5) (plC_0 (by omega)))
                      rw [show (c ++ e ++ f ++ ((tk (i + j)).1 - 5, 0) :: ngC j) = c ++ (((e ++ f) ++ [((tk (i + j)).1 - 5, 0)]) ++ ngC j) by simp only [List.append_assoc, List.cons_append, List.nil_append]]
                      exact this
                    · exact gdR_l
                · exact gdR_l
          · exact gdR_l
        · exact gdR_l
