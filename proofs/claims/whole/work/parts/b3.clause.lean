/-! THE CLASS READS A CLAUSE -/
section CK
variable {n z C t r N so : Nat} {J : Nat → Nat → Int64} {tk : Nat → Nat × Nat} {pl : Nat → Nat}
def rcK (n z : Nat) (x1 : Int32) : Int32 → MS → Option MS := fun (x7 : Int32) (S8 : MS) => (if x7 = (-1 : Int32) then some S8 else cv (f_X4_advance n (z + 17) S8) fun S9 => cl (f_X4_namesOf n x1 S9) fun x15 S12 => bd (sI S12 (z + 17) 6 x15) fun S16 => gR S16 (mR S16 (z + 17) 3) 7 fun q18 => gR S16 (mR S16 q18 1) 12 fun q20 => gR S16 (mR S16 (z + 17) 3) 7 fun q22 => ck (inb x7 (mN S16 q20)) (bd (sI S16 q20 x7.toNatClampNeg (mI S16 q22 6)) fun S25 => jn (fun (S29 : MS) => (if x1 = (22 : Int32) then cv (f_X4_expect n (z + 17) (35 : Int32) S29) fun S30 => some S30 else (if x1 = (23 : Int32) then cv (f_X4_expect n (z + 17) (35 : Int32) S29) fun S33 => some S33 else gR S29 (mR S29 (z + 17) 3) 7 fun q36 => gR S29 (mR S29 q36 2) 12 fun q38 => gR S29 (mR S29 (z + 17) 3) 7 fun q40 => ck (inb x7 (mN S29 q38)) (bd (sI S29 q38 x7.toNatClampNeg (mI S29 q40 6)) fun S43 => cv (f_X4_expect n (z + 17) (35 : Int32) S43) fun S45 => some S45)))) fun j155_28 => jn (fun (S50 : MS) => cv (f_X4_readPlace n (z + 17) x7 x1 S50) fun S51 => j155_28 S51) fun j128_49 => (if x1 = (22 : Int32) then j128_49 S25 else (if x1 = (23 : Int32) then j128_49 S25 else (if x1 = (21 : Int32) then cv (f_X4_readEither n (z + 17) S25) fun S57 => j155_28 S57 else cv (f_X4_readSum n (z + 17) (0 : Int32) S25) fun S54 => j155_28 S54)))))
def rcJ (n z : Nat) (x1 : Int32) (S4 : MS) : Option MS := (if (mI S4 (z + 17) 0) = 0 then gR S4 (mR S4 (z + 17) 3) 7 fun q62 => cl (f_X7_addClause n q62 x1 S4) fun x67 S64 => rcK n z x1 x67 S64 else rcK n z x1 (-1 : Int32) S4)
theorem rc_eq (S : MS) : f_X4_readClause n (z + 17) S = bd (mI S (z + 17) 5) fun x1 => jn (fun (S72 : MS) => cv (f_X4_complain n (z + 17) (1 : Int32) S72) fun S73 => rcJ n z x1 S73) fun j17_71 => (if x1 < (18 : Int32) then j17_71 S else (if x1 ≤ (23 : Int32) then gR S (mR S (z + 17) 3) 7 fun q76 => cl (f_X7_has n q76 x1 S) fun x81 S78 => (if x81 = 0 then gR S78 (mR S78 (z + 17) 3) 7 fun q82 => (if (mI S78 q82 5) < (20 : Int32) then rcJ n z x1 S78 else cv (f_X4_complain n (z + 17) (6 : Int32) S78) fun S84 => rcJ n z x1 S84) else cv (f_X4_complain n (z + 17) (4 : Int32) S78) fun S87 => rcJ n z x1 S87) else j17_71 S)) := rfl
def SrtF (z r : Nat) (I : Nat → Nat → Int32) (l : List Nat) : Prop := I (z + (97 + 6 * r)) 5 = nI l.length ∧ (∀ i, i < l.length → I (z + (97 + 6 * r + 1 + 0)) i = nI (l.getD i 0 + 18)) ∧ ∀ s, s < 3 → (s ∉ l ∧ I (z + (97 + 6 * r)) (7 + s) = -1) ∨ (∃ i, i < l.length ∧ I (z + (97 + 6 * r)) (7 + s) = nI i ∧ ∀ j, j < l.length → (l.getD j 0 = s ↔ j = i))
def RowF (z r : Nat) (I : Nat → Nat → Int32) (K : List Cl4) : Prop := ∀ i, i < K.length → I (z + (97 + 6 * r + 1 + 1)) i = nI (K.getD i (0, 0, 0, 0)).2.1 ∧ I (z + (97 + 6 * r + 1 + 2)) i = nI (K.getD i (0, 0, 0, 0)).2.2.1 ∧ (4 ≤ (K.getD i (0, 0, 0, 0)).1 → I (z + (97 + 6 * r + 1 + 3)) i = nI (K.getD i (0, 0, 0, 0)).2.2.2)
def CkS (z r : Nat) (I : Nat → Nat → Int32) (K : List Cl4) : Prop := SrtF z r I (K.map (fun k => k.1)) ∧ RowF z r I K ∧ K.length ≤ 20 ∧ ∀ k, k ∈ K → k.1 ≤ 5
theorem getD_l {α : Type} {a : List α} {x d : α} {j : Nat} (h : j < a.length) : (a ++ [x]).getD j d = a.getD j d := by
  rw [List.getD_eq_getElem?_getD, List.getD_eq_getElem?_getD, List.getElem?_append_left h]
theorem getD_e {α : Type} {a : List α} {x d : α} : (a ++ [x]).getD a.length d = x := by
  rw [List.getD_eq_getElem?_getD, List.getElem?_append_right (Nat.le_refl _), Nat.sub_self]; rfl
theorem getD_in {l : List Nat} {j : Nat} (h : j < l.length) : l.getD j 0 ∈ l := by
  rw [List.getD_eq_getElem?_getD, List.getElem?_eq_getElem h]; exact List.getElem_mem h
theorem in_getD : ∀ {l : List Nat} {s : Nat}, s ∈ l → ∃ j, j < l.length ∧ l.getD j 0 = s
  | [], s, h => by cases h
  | a :: l, s, h => by
    rcases List.mem_cons.mp h with e | w
    · exact ⟨0, Nat.zero_lt_succ _, e.symm⟩
    · obtain ⟨j, j1, j2⟩ := in_getD w
      exact ⟨j + 1, Nat.succ_lt_succ j1, j2⟩
theorem srt_in {I : Nat → Nat → Int32} {l : List Nat} (h : SrtF z r I l) (hl : l.length ≤ 20) {s : Nat} (hs : s < 3) : I (z + (97 + 6 * r)) (7 + s) = -1 ↔ s ∉ l := by
  rcases h.2.2 s hs with ⟨a, b⟩ | ⟨i, a, b, c⟩
  · exact ⟨fun _ => a, fun _ => b⟩
  · rw [b]
    exact ⟨(fun w => absurd w (nI_n1 (by omega))), fun w => absurd (by have := getD_in a; rw [(c i a).mpr rfl] at this; exact this) w⟩
theorem has_ok {I : Nat → Nat → Int32} {l : List Nat} {S : MS} (hS : ∀ a k, mI S a k = I a k) (h : SrtF z r I l) (hl : l.length ≤ 20) {s : Nat} (hs : s ≤ 5) : f_X7_has n (z + (97 + 6 * r)) (nI (s + 18)) S = some (bWC (decide (s < 3 ∧ s ∈ l)), S) := by
  have k : ∀ a, a < 100 → (nI (s + 18) = nI a ↔ s + 18 = a) := fun a ha => nI_inj (by omega) (by omega)
  unfold f_X7_has
  simp only [jn, zb_0, zb_1, hS]
  have hc : s = 0 ∨ s = 1 ∨ s = 2 ∨ 3 ≤ s := by omega
  rcases hc with rfl | rfl | rfl | h3
  · rw [if_pos (show nI (0 + 18) = (18 : Int32) from rfl)]
    by_cases e : 0 ∈ l
    · rw [if_neg (show ¬ I (z + (97 + 6 * r)) 7 = -1 from fun w => (srt_in h hl (s := 0) (by omega)).mp w e), decide_eq_true ⟨by omega, e⟩]; rfl
    · rw [if_pos (show I (z + (97 + 6 * r)) 7 = -1 from (srt_in h hl (s := 0) (by omega)).mpr e), decide_eq_false (fun w => e w.2)]; rfl
  · rw [if_neg (show ¬ nI (1 + 18) = (18 : Int32) by decide), if_pos (show nI (1 + 18) = (19 : Int32) from rfl)]
    by_cases e : 1 ∈ l
    · rw [if_neg (show ¬ I (z + (97 + 6 * r)) 8 = -1 from fun w => (srt_in h hl (s := 1) (by omega)).mp w e), decide_eq_true ⟨by omega, e⟩]; rfl
    · rw [if_pos (show I (z + (97 + 6 * r)) 8 = -1 from (srt_in h hl (s := 1) (by omega)).mpr e), decide_eq_false (fun w => e w.2)]; rfl
  · rw [if_neg (show ¬ nI (2 + 18) = (18 : Int32) by decide), if_neg (show ¬ nI (2 + 18) = (19 : Int32) by decide), if_pos (show nI (2 + 18) = (20 : Int32) from rfl)]
    by_cases e : 2 ∈ l
    · rw [if_neg (show ¬ I (z + (97 + 6 * r)) 9 = -1 from fun w => (srt_in h hl (s := 2) (by omega)).mp w e), decide_eq_true ⟨by omega, e⟩]; rfl
    · rw [if_pos (show I (z + (97 + 6 * r)) 9 = -1 from (srt_in h hl (s := 2) (by omega)).mpr e), decide_eq_false (fun w => e w.2)]; rfl
  · rw [if_neg (show ¬ nI (s + 18) = (18 : Int32) from fun w => by have := (k 18 (by omega)).mp w; omega), if_neg (show ¬ nI (s + 18) = (19 : Int32) from fun w => by have := (k 19 (by omega)).mp w; omega), if_neg (show ¬ nI (s + 18) = (20 : Int32) from fun w => by have := (k 20 (by omega)).mp w; omega), decide_eq_false (fun w => by omega)]; rfl
def FrA (z r : Nat) (I I' : Nat → Nat → Int32) : Prop := (∀ q, q ≠ z + (97 + 6 * r) → q ≠ z + (97 + 6 * r + 1 + 0) → I' q = I q) ∧ I' (z + (97 + 6 * r)) 6 = I (z + (97 + 6 * r)) 6
theorem srt_add {I I' : Nat → Nat → Int32} {l : List Nat} (h : SrtF z r I l) {s : Nat} (hno : ¬ (s < 3 ∧ s ∈ l)) (h5 : I' (z + (97 + 6 * r)) 5 = nI (l.length + 1)) (h0 : I' (z + (97 + 6 * r + 1 + 0)) = ur (I (z + (97 + 6 * r + 1 + 0))) l.length (nI (s + 18))) (hs : s < 3 → I' (z + (97 + 6 * r)) (7 + s) = nI l.length) (ho : ∀ s', s' < 3 → s' ≠ s → I' (z + (97 + 6 * r)) (7 + s') = I (z + (97 + 6 * r)) (7 + s')) : SrtF z r I' (l ++ [s]) := by
  obtain ⟨a1, a2, a3⟩ := h
  refine ⟨by rw [h5, List.length_append]; rfl, fun i hi => ?_, fun s' hs' => ?_⟩
  · rw [List.length_append] at hi
    have hi : i < l.length + 1 := hi
    rw [h0]
    by_cases e : i = l.length
    · rw [e, ur_at, getD_e]
    · rw [ur_ne _ _ e, getD_l (by omega)]; exact a2 i (by omega)
  · rw [List.length_append]
    by_cases e : s' = s
    · subst e
      refine Or.inr ⟨l.length, by show l.length < l.length + 1; omega, hs hs', fun j hj => ?_⟩
      have hj : j < l.length + 1 := hj
      by_cases ej : j = l.length
      · rw [ej, getD_e]; exact ⟨fun _ => rfl, fun _ => rfl⟩
      · rw [getD_l (by omega)]
        exact ⟨(fun w => absurd ⟨hs', by rw [← w]; exact getD_in (by omega)⟩ hno), fun w => absurd w ej⟩
    · rw [ho s' hs' e]
      rcases a3 s' hs' with ⟨b1, b2⟩ | ⟨i, b1, b2, b3⟩
      · refine Or.inl ⟨fun w => ?_, b2⟩
        rcases List.mem_append.mp w with q | q
        · exact b1 q
        · exact e (List.mem_singleton.mp q)
      · refine Or.inr ⟨i, by show i < l.length + 1; omega, b2, fun j hj => ?_⟩
        have hj : j < l.length + 1 := hj
        by_cases ej : j = l.length
        · rw [ej, getD_e]; exact ⟨(fun w => absurd w.symm e), fun w => by omega⟩
        · rw [getD_l (by omega)]; exact b3 j (by omega)
theorem addC {I : Nat → Nat → Int32} {l : List Nat} (hr : r < t) (h : SrtF z r I l) (hl : l.length < 20) {s : Nat} (hs : s ≤ 5) (hno : ¬ (s < 3 ∧ s ∈ l)) : ∃ I', f_X7_addClause n (z + (97 + 6 * r)) (nI (s + 18)) (mk z C I J t (some (97 + 6 * r))) = some (nI l.length, mk z C I' J t (some (97 + 6 * r))) ∧ SrtF z r I' (l ++ [s]) ∧ FrA z r I I' := by
  have k : ∀ a, a < 100 → (nI (s + 18) = nI a ↔ s + 18 = a) := fun a ha => nI_inj (by omega) (by omega)
  have m5 : mI (mk z C I J t (some (97 + 6 * r))) (z + (97 + 6 * r)) 5 = nI l.length := h.1
  have e1 : nI l.length + (1 : Int32) = nI (l.length + 1) := nI_pl _ 1
  have B : ∀ I', (∃ s' v, I' = up2 (up2 (up2 I (z + (97 + 6 * r)) 5 (nI (l.length + 1))) (z + (97 + 6 * r + 1 + 0)) l.length (nI (s + 18))) (z + (97 + 6 * r)) (7 + s') v ∧ s' < 3) ∨ I' = up2 (up2 I (z + (97 + 6 * r)) 5 (nI (l.length + 1))) (z + (97 + 6 * r + 1 + 0)) l.length (nI (s + 18)) → FrA z r I I' ∧ I' (z + (97 + 6 * r)) 5 = nI (l.length + 1) ∧ I' (z + (97 + 6 * r + 1 + 0)) = ur (I (z + (97 + 6 * r + 1 + 0))) l.length (nI (s + 18)) := fun I' hI => by
    rcases hI with ⟨s', v, rfl, hs'⟩ | rfl
    · refine ⟨⟨fun q a b => by rw [up2_ne a, up2_ne b, up2_ne a], by rw [up2_x (by omega), up2_x (by omega), up2_x (by omega)]⟩, by rw [up2_x (by omega), up2_x (by omega), up2_v], by rw [up2_ne (by omega), up2_r, up2_ne (by omega)]⟩
    · refine ⟨⟨fun q a b => by rw [up2_ne b, up2_ne a], by rw [up2_x (by omega), up2_x (by omega)]⟩, by rw [up2_x (by omega), up2_v], by rw [up2_r, up2_ne (by omega)]⟩
  have pre : f_X7_addClause n (z + (97 + 6 * r)) (nI (s + 18)) (mk z C I J t (some (97 + 6 * r))) = (if nI (s + 18) = (18 : Int32) then some (nI l.length, sI (mk z C (up2 (up2 I (z + (97 + 6 * r)) 5 (nI (l.length + 1))) (z + (97 + 6 * r + 1 + 0)) l.length (nI (s + 18))) J t (some (97 + 6 * r))) (z + (97 + 6 * r)) 7 (nI l.length)) else (if nI (s + 18) = (19 : Int32) then some (nI l.length, sI (mk z C (up2 (up2 I (z + (97 + 6 * r)) 5 (nI (l.length + 1))) (z + (97 + 6 * r + 1 + 0)) l.length (nI (s + 18))) J t (some (97 + 6 * r))) (z + (97 + 6 * r)) 8 (nI l.length)) else (if nI (s + 18) = (20 : Int32) then some (nI l.length, sI (mk z C (up2 (up2 I (z + (97 + 6 * r)) 5 (nI (l.length + 1))) (z + (97 + 6 * r + 1 + 0)) l.length (nI (s + 18))) J t (some (97 + 6 * r))) (z + (97 + 6 * r)) 9 (nI l.length)) else some (nI l.length, mk z C (up2 (up2 I (z + (97 + 6 * r)) 5 (nI (l.length + 1))) (z + (97 + 6 * r + 1 + 0)) l.length (nI (s + 18))) J t (some (97 + 6 * r)))))) := by
    unfold f_X7_addClause
    simp only [bd]
    rw [m5, if_pos (show nI l.length < (20 : Int32) from (nI_lt' (b := 20) (by omega) (by omega)).mpr hl), e1, sI_mk, gT hr (by omega), nT hr (by omega), ck_t (inb_nI (by omega) (by omega)), cl_nI (by omega), sI_mk]
  rw [pre]
  have hc : s = 0 ∨ s = 1 ∨ s = 2 ∨ 3 ≤ s := by omega
  rcases hc with rfl | rfl | rfl | h3
  · rw [if_pos (show nI (0 + 18) = (18 : Int32) from rfl), sI_mk]
    obtain ⟨b1, b2, b3⟩ := B _ (Or.inl ⟨0, nI l.length, rfl, by omega⟩)
    exact ⟨_, rfl, srt_add h hno b2 b3 (fun _ => up2_v) (fun s' a b => by rw [up2_x (by omega), up2_x (by omega), up2_x (by omega)]), b1⟩
  · rw [if_neg (show ¬ nI (1 + 18) = (18 : Int32) by decide), if_pos (show nI (1 + 18) = (19 : Int32) from rfl), sI_mk]
    obtain ⟨b1, b2, b3⟩ := B _ (Or.inl ⟨1, nI l.length, rfl, by omega⟩)
    exact ⟨_, rfl, srt_add h hno b2 b3 (fun _ => up2_v) (fun s' a b => by rw [up2_x (by omega), up2_x (by omega), up2_x (by omega)]), b1⟩
  · rw [if_neg (show ¬ nI (2 + 18) = (18 : Int32) by decide), if_neg (show ¬ nI (2 + 18) = (19 : Int32) by decide), if_pos (show nI (2 + 18) = (20 : Int32) from rfl), sI_mk]
    obtain ⟨b1, b2, b3⟩ := B _ (Or.inl ⟨2, nI l.length, rfl, by omega⟩)
    exact ⟨_, rfl, srt_add h hno b2 b3 (fun _ => up2_v) (fun s' a b => by rw [up2_x (by omega), up2_x (by omega), up2_x (by omega)]), b1⟩
  · rw [if_neg (show ¬ nI (s + 18) = (18 : Int32) from fun w => by have := (k 18 (by omega)).mp w; omega), if_neg (show ¬ nI (s + 18) = (19 : Int32) from fun w => by have := (k 19 (by omega)).mp w; omega), if_neg (show ¬ nI (s + 18) = (20 : Int32) from fun w => by have := (k 20 (by omega)).mp w; omega)]
    obtain ⟨b1, b2, b3⟩ := B _ (Or.inr rfl)
    exact ⟨_, rfl, srt_add h hno b2 b3 (fun w => by omega) (fun s' a b => by rw [up2_x (by omega), up2_x (by omega)]), b1⟩
end CK
