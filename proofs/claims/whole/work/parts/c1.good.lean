/-! WHAT IS READ IS GOOD -/
def ClW (c : Cd) (k : Cl4) : Prop := k.1 ≤ 5 ∧ (k.1 ≤ 3 → ∃ e1 md e2, c = e1 ++ (md ++ e2) ∧ k.2.1 = e1.length ∧ k.2.2.1 = e1.length + md.length ∧ shLs md 0 0 (if k.1 = 3 then 0 else 1) (if k.1 = 3 then 1 else 0) ∧ plC k.1 md) ∧ (4 ≤ k.1 → (k.1 = 4 → 1 ≤ k.2.1 ∧ k.2.1 ≤ 99) ∧ (k.1 = 5 → k.2.1 ≤ 5) ∧ k.2.2.1 ≤ 7 ∧ k.2.2.2 ≤ 5)
def KW (K : List Cl4) (c : Cd) : Prop := (∀ k, k ∈ K → ClW c k) ∧ (∀ i j, i < K.length → j < K.length → (K.getD i (0, 0, 0, 0)).1 = (K.getD j (0, 0, 0, 0)).1 → (K.getD i (0, 0, 0, 0)).1 ≤ 2 → i = j) ∧ K.length ≤ 20
theorem ClW.ext {c e : Cd} {k : Cl4} (h : ClW c k) : ClW (c ++ e) k := by
  obtain ⟨h1, h2, h3⟩ := h
  refine ⟨h1, fun y => ?_, h3⟩
  obtain ⟨e1, md, e2, a, b⟩ := h2 y
  exact ⟨e1, md, e2 ++ e, by rw [a]; simp only [List.append_assoc], b⟩
theorem pLaw_gd {tk : Nat → Nat × Nat} {s i i' : Nat} {c c' : Cd} (h : pLaw tk s i c = Sum.inr (i', c')) : ∃ md, c' = c ++ md ∧ shLs md 0 0 (if s = 3 then 0 else 1) (if s = 3 then 1 else 0) ∧ plC s md := by
  unfold pLaw at h
  by_cases e : s = 3
  · subst e
    rw [if_pos rfl] at h
    have := pEither_gd (tk := tk) i c
    rw [h] at this
    obtain ⟨d, d1, -, -, d4, d5⟩ := this
    exact ⟨d, d1, d4, d5⟩
  · rw [if_neg e] at h
    have := pSum_gd (tk := tk) (so := s) (k := 0) 12 0 0 i c (by omega) (by omega)
    rw [h] at this
    obtain ⟨d, d1, -, -, d4, d5⟩ := this
    rw [if_neg e, if_neg e]
    exact ⟨d, d1, d4, d5⟩
theorem mem_gD {K : List Cl4} {j : Nat} (h : j < K.length) : K.getD j (0, 0, 0, 0) ∈ K := by
  rw [List.getD_eq_getElem?_getD, List.getElem?_eq_getElem h]; exact List.getElem_mem h
theorem pCl_KW {tk : Nat → Nat × Nat} {K : List Cl4} {i : Nat} {c : Cd} {y : Nat × Cl4 × Cd} (h : pCl tk K i c = Sum.inr y) (hK : KW K c) : KW (K ++ [y.2.1]) y.2.2 := by
  obtain ⟨k1, k2, k3⟩ := hK
  unfold pCl at h
  by_cases wd : ¬ (18 ≤ (tk i).1 ∧ (tk i).1 ≤ 23)
  · rw [if_pos wd] at h; cases h
  rw [if_neg wd] at h
  by_cases d : (tk i).1 - 18 < 3 ∧ (tk i).1 - 18 ∈ K.map (fun k => k.1)
  · rw [if_pos d] at h; cases h
  rw [if_neg d] at h
  by_cases g : 20 ≤ K.length
  · rw [if_pos g] at h; cases h
  rw [if_neg g] at h
  obtain ⟨s, hs⟩ : ∃ s, (tk i).1 - 18 = s := ⟨_, rfl⟩
  have hs5 : s ≤ 5 := by
    have : (tk i).1 ≤ 23 := Nat.le_of_not_lt (fun v => wd (fun x => by omega))
    omega
  rw [hs] at h d
  cases hx : pBody tk s (i + 1) c with
  | inl e => rw [hx] at h; cases h
  | inr q =>
    rw [hx] at h
    obtain ⟨i', c'⟩ := q
    have hy := Sum.inr.inj h
    rw [← hy]
    show KW (K ++ [clOf tk s (i + 1) c c']) c'
    obtain ⟨i1, q1, q2, -⟩ := pExp_r hx
    have main : (∃ e, c' = c ++ e) ∧ ClW c' (clOf tk s (i + 1) c c') := by
      by_cases h4 : s < 4
      · rw [if_pos h4] at q1
        obtain ⟨md, m1, m2, m3⟩ := pLaw_gd q1
        refine ⟨⟨md, m1⟩, ?_⟩
        unfold clOf
        rw [if_pos h4]
        refine ⟨hs5, fun _ => ⟨c, md, [], by rw [m1, List.append_nil], rfl, by show c'.length = _; rw [m1, List.length_append], m2, m3⟩, fun v => by have v : 4 ≤ s := v; omega⟩
      · rw [if_neg h4] at q1
        obtain ⟨w1, w2, w3, w4, w5, w6⟩ := pPl_r q1
        refine ⟨⟨[], by rw [w1, List.append_nil]⟩, ?_⟩
        unfold clOf
        rw [if_neg h4]
        refine ⟨hs5, fun v => by have v : s ≤ 3 := v; omega, fun _ => ⟨fun v => ?_, fun v => ?_, w5, w6⟩⟩
        · have v : s = 4 := v
          unfold loS at w3; unfold hiS at w4
          rw [if_pos v] at w3 w4
          exact ⟨w3, w4⟩
        · have v : s = 5 := v
          unfold hiS at w4
          rw [if_neg (by omega)] at w4
          exact w4
    obtain ⟨⟨e, he⟩, hc⟩ := main
    refine ⟨fun k hk => ?_, fun a b ha hb hab h2 => ?_, by rw [List.length_append]; show K.length + 1 ≤ 20; omega⟩
    · rcases List.mem_append.mp hk with w | w
      · rw [he]; exact (k1 k w).ext
      · rw [List.mem_singleton.mp w]; exact hc
    · rw [List.length_append] at ha hb
      have ha : a < K.length + 1 := ha
      have hb : b < K.length + 1 := hb
      have no : ∀ j, j < K.length → s ≤ 2 → (K.getD j (0, 0, 0, 0)).1 ≠ s := fun j hj s2 v => d ⟨by omega, by rw [← v]; exact List.mem_map.mpr ⟨_, mem_gD hj, rfl⟩⟩
      by_cases ea : a = K.length
      · by_cases eb : b = K.length
        · omega
        · rw [ea, getD_e, clOf_1, getD_l (by omega)] at hab
          rw [ea, getD_e, clOf_1] at h2
          exact absurd hab.symm (no b (by omega) h2)
      · by_cases eb : b = K.length
        · rw [eb, getD_e, clOf_1, getD_l (by omega)] at hab
          rw [getD_l (by omega), hab] at h2
          exact absurd hab (no a (by omega) h2)
        · rw [getD_l (by omega), getD_l (by omega)] at hab
          rw [getD_l (by omega)] at h2
          exact k2 a b (by omega) (by omega) hab h2
theorem pTx_KW {tk : Nat → Nat × Nat} : ∀ (f i : Nat) (K : List Cl4) (c : Cd) (y : Nat × List Cl4 × Cd), pTx tk f i K c = Sum.inr y → KW K c → KW y.2.1 y.2.2 := by
  intro f
  induction f with
  | zero => intro i K c y h hK; rw [← Sum.inr.inj h]; exact hK
  | succ f ih =>
    intro i K c y h hK
    rw [pTx] at h
    by_cases e : (tk i).1 = 39
    · rw [if_pos e] at h; rw [← Sum.inr.inj h]; exact hK
    · rw [if_neg e] at h
      cases hx : pCl tk K i c with
      | inl q => rw [hx] at h; cases h
      | inr q => rw [hx] at h; exact ih _ _ _ _ h (pCl_KW hx hK)
theorem shL_A {cd : Nat → Nat × Nat} : ∀ (md : Cd) (a n k n' k' : Nat), shLs md n k n' k' → (∀ j, j < md.length → cd (a + j) = md.getD j (0, 0)) → shpA cd md.length a n k n' k'
  | [], a, n, k, n', k', h, _ => h
  | x :: md, a, n, k, n', k', h, hc => by
    have h0 : cd a = x := hc 0 (Nat.zero_lt_succ _)
    show okA (cd a) n k ∧ shpA cd md.length (a + 1) (nxN (cd a) n) (nxK (cd a) k) n' k'
    rw [h0]
    exact ⟨h.1, shL_A md (a + 1) _ _ _ _ h.2 (fun j hj => by
      have := hc (j + 1) (Nat.succ_lt_succ hj)
      rw [show a + 1 + j = a + (j + 1) by omega, this]; rfl)⟩
def xOf (K : List Cl4) (c : Cd) : XT := (K.length, (fun i => (K.getD i (0, 0, 0, 0)).1), (fun i => (K.getD i (0, 0, 0, 0)).2.1), (fun i => (K.getD i (0, 0, 0, 0)).2.2.1), (fun i => (K.getD i (0, 0, 0, 0)).2.2.2), (fun j => c.getD j (0, 0)), c.length)
theorem gD_mid {e1 md e2 : Cd} {j : Nat} (h : j < md.length) : (e1 ++ (md ++ e2)).getD (e1.length + j) (0, 0) = md.getD j (0, 0) := by
  rw [List.getD_eq_getElem?_getD, List.getElem?_append_right (by omega), Nat.add_sub_cancel_left, List.getElem?_append_left h, List.getD_eq_getElem?_getD]
theorem KW.xw {K : List Cl4} {c : Cd} (h : KW K c) (hc : c.length ≤ 300) : XW (xOf K c) := by
  obtain ⟨k1, k2, k3⟩ := h
  refine ⟨k3, hc, fun i hi => (k1 _ (mem_gD hi)).1, fun i j hi hj e e2 => k2 i j hi hj e e2, fun i hi hs => ?_, fun i hi hs => (k1 _ (mem_gD hi)).2.2 hs⟩
  obtain ⟨e1, md, e2, a, b, d, s1, s2⟩ := (k1 _ (mem_gD hi)).2.1 hs
  have ha : xa (xOf K c) i = e1.length := b
  have he : xe (xOf K c) i = e1.length + md.length := d
  have hz : xz (xOf K c) = e1.length + (md.length + e2.length) := by show c.length = _; rw [a, List.length_append, List.length_append]
  have hcd : ∀ j, j < md.length → xc (xOf K c) (e1.length + j) = md.getD j (0, 0) := fun j hj => by
    show c.getD (e1.length + j) (0, 0) = _
    rw [a]; exact gD_mid hj
  rw [ha, he, hz]
  refine ⟨by omega, by omega, ?_, fun j j1 j2 => ?_⟩
  · rw [show e1.length + md.length - e1.length = md.length by omega]
    exact shL_A md e1.length _ _ _ _ s1 hcd
  · obtain ⟨q, rfl⟩ : ∃ q, j = e1.length + q := ⟨j - e1.length, by omega⟩
    rw [hcd q (by omega)]
    refine s2 _ ?_
    rw [List.getD_eq_getElem?_getD, List.getElem?_eq_getElem (show q < md.length by omega)]
    exact List.getElem_mem _
theorem KW_nil : KW [] [] := ⟨(fun k hk => by cases hk), (fun i j hi => absurd hi (Nat.not_lt_zero _)), by decide⟩
