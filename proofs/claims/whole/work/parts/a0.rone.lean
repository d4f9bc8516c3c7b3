/-! THE REFERENCE READS ONE -/
section RW
variable {n z C t r so : Nat} {u : Option Nat} {I : Nat → Nat → Int32} {J : Nat → Nat → Int64} {tk : Nat → Nat × Nat} {Tq : TQ} {a1 : Int32} {i op : Nat} {c : Cd} {p : List Nat} {w : Bool}
/-- a comma in min, max -/
theorem rn_comma (hn : 100000 ≤ n) (hT : TokOK n z C t u tk Tq) {m : Nat} {Q : List Nat} (hp : ∀ o, o ∈ (p ++ [m]) ++ Q.reverse → o < 1000) (hm : m = 41 ∨ m = 42) (h34 : (tk i).1 = 34) (hQ : ∀ o, o ∈ Q → o < 40 ∧ 1 ≤ rkN o) (hQ0 : cnU Q = 0) (hl : c.length + Q.length ≤ i) : RnT n z C t r so u Tq a1 i c ((p ++ [m]) ++ Q.reverse) op true (i + 1) (c ++ mpC Q) (p ++ [m + 2]) op false := by
  refine rn_t hT (by omega) (fun I J hs => ?_)
  have hi3 := (hT.2.2.1 I J i hs.1).1
  have k33 := q_tok hT hs.1 (s := 33) (by omega) (by omega)
  have k34 := q_tok hT hs.1 (s := 34) (by omega) (by omega)
  have em := q_mark (n := n) (C := C) (t := t) (u := u) (a := p ++ [m]) (Q := Q) hn hs rfl (fun o ho => (hQ o ho).1) (Or.inr ⟨_, m, rfl, by omega, by omega⟩)
  have hbl : (p ++ [m]).length = p.length + 1 := by rw [List.length_append]; rfl
  have hlen := hs.2.2.2.2.2.2.2.2.2.2.1
  rw [lenr, hbl] at hlen
  have m87 : mI (mk z C I J t u) (z + 87) p.length = nI m := plF_top (plF_pre hs.2.2.2.2.2.1)
  have hix : ixP (p.length + 1) = nI p.length := by unfold ixP; rw [if_neg (by omega)]; rfl
  rw [hbl, hix] at em
  have hb : f_X11_betweenOf n (z + 83) a1 (mk z C I J t u) = some (-1, mk z C I J t u) := bt_mk hn hT hs hp (by omega) (Or.inr ⟨m, List.mem_append.mpr (Or.inl (List.mem_append.mpr (Or.inr (List.mem_singleton.mpr rfl)))), by omega⟩)
  obtain ⟨I1, e1, s1, f1⟩ := q_set (L := 1) hn hT (by omega) hs (fun o ho => ⟨by have := (hQ o ho).1; omega, (hQ o ho).2⟩) (Or.inr ⟨_, m, rfl, by omega, by unfold rkN; rw [if_pos (by omega)]; omega⟩) (by omega) (by omega)
  rw [hQ0, Nat.sub_zero] at s1
  obtain ⟨b1, b2, b3, b4, b5, b6, b7, b8, b9, b10, b11, b12, b13⟩ := id s1
  have hbl2 : (p ++ [m + 2]).length = p.length + 1 := by rw [List.length_append]; rfl
  have s2 := RfS.setf (p' := p ++ [m + 2]) (op' := op) (w' := false) (I' := up2 (up2 I1 (z + 87) p.length (nI (m + 2))) (z + 83) 22 (bWC false)) hT s1 (fun q a b => by rw [up2_ne a, up2_ne b]) (fun j _ _ a => by rw [up2_r, ur_ne _ _ a, up2_ne (by omega)]) (by rw [up2_r, ur_ne _ _ (by omega), up2_ne (by omega), b5, hbl, hbl2]) (by rw [up2_r, ur_ne _ _ (by omega), up2_ne (by omega)]; exact b7) (by rw [up2_r, ur_at]) (by rw [up2_ne (by omega), up2_r]; exact plF_app (plF_pre b6)) (by rw [hbl2]; omega) b12
  obtain ⟨I3, J3, e3, s3, f3⟩ := q_next hT s2.1 (by omega)
  have e1' : f_X11_settle n (z + 83) (1 : Int32) (mk z C I J t u) = some (mk z C I1 J t u) := e1
  have em2 : nI m + (2 : Int32) = nI (m + 2) := nI_pl m 2
  refine ⟨I3, J3, ?_, s3, (f1.trq s2.2).trq f3⟩
  unfold f_X11_behindOne
  simp only [jn, bd]
  rw [hb, cl_some, em, cl_some, if_pos (show (0 : Int32) ≤ nI p.length by rw [show (0 : Int32) = nI 0 from rfl, nI_le' (by omega) (by omega)]; omega), g83_19, n87, ck_t (inb_nI (by omega) (by omega)), cl_nI (by omega), m87, if_pos (by decide), if_neg (show ¬ mI (mk z C I J t u) (z + 83) 12 = (41 : Int32) from fun w => by have := k33.mp w; omega), if_pos (show mI (mk z C I J t u) (z + 83) 12 = (44 : Int32) from k34.mpr h34)]
  have fin : (cv (f_X11_settle n (z + 83) (1 : Int32) (mk z C I J t u)) fun S19 => gR S19 (mR S19 (z + 83) 19) 12 fun q22 => ck (inb (nI p.length) (mN S19 q22)) (zb (0 : Int32) (cv (f_X11_nextToken n (z + 83) (sI (sI S19 q22 p.length (nI m + (2 : Int32))) (z + 83) 22 (0 : Int32))) fun S47 => zb (1 : Int32) (some ((1 : Int32), S47))))) = some (1, mk z C I3 J3 t u) := by
    rw [e1', cv_some, g83_19, n87, ck_t (inb_nI (by omega) (by omega)), em2, sI_mk, sI_mk, zb_0, show (0 : Int32) = bWC false from rfl, e3, cv_some, zb_1]
  rcases hm with rfl | rfl
  · rw [if_pos (show nI 41 = (41 : Int32) from rfl)]; exact fin
  · rw [if_neg (show ¬ nI 42 = (41 : Int32) by decide), if_pos (show nI 42 = (42 : Int32) from rfl)]; exact fin
def OutO (n z C t r so : Nat) (u : Option Nat) (Tq : TQ) (a1 : Int32) (i : Nat) (c : Cd) (p : List Nat) (op : Nat) (x : PrR) : Prop := match x with
  | Sum.inl e => RnF n z C t r so u Tq a1 i c p op false e.1 e.2
  | Sum.inr y => RnT n z C t r so u Tq a1 i c p op false y.1 y.2 p op true
def OutS (n z C t r so : Nat) (u : Option Nat) (tk : Nat → Nat × Nat) (Tq : TQ) (a1 : Int32) (i : Nat) (c : Cd) (p : List Nat) (op : Nat) (x : PrR) : Prop := match x with
  | Sum.inl e => RnF n z C t r so u Tq a1 i c p op false e.1 e.2
  | Sum.inr y => ∃ Q c1, y.2 = c1 ++ mpC Q ∧ Q.length ≤ 2 ∧ (∀ o, o ∈ Q → 3 ≤ o ∧ o ≤ 6) ∧ RnT n z C t r so u Tq a1 i c p op false y.1 c1 (p ++ Q.reverse) op true ∧ ¬ (28 ≤ (tk y.1).1 ∧ (tk y.1).1 ≤ 31)
def RfSm (n z C t r so : Nat) (u : Option Nat) (tk : Nat → Nat × Nat) (Tq : TQ) (a1 : Int32) (R : Nat → Nat → Cd → PrR) (bot : Nat) : Prop := ∀ op i c p, bot ≤ op → op ≤ 8 → (∀ o, o ∈ p → o < 1000) → List.length p ≤ 3 * op + 6 → (p = [] ∨ ∃ p' o, p = p' ++ [o] ∧ rkN o ≤ 4) → ((tk i).1 = 14 → NoA a1 p) → List.length c + 1 ≤ i → OutS n z C t r so u tk Tq a1 i c p op (R op i c)
def RfOn (n z C t r so : Nat) (u : Option Nat) (tk : Nat → Nat × Nat) (Tq : TQ) (a1 : Int32) (R : Nat → Nat → Cd → PrR) (bot : Nat) : Prop := ∀ op i c p, bot ≤ op → op ≤ 8 → (∀ o, o ∈ p → o < 1000) → List.length p ≤ 3 * op + 8 → (p = [] ∨ ∃ p' o, p = p' ++ [o] ∧ rkN o < 7) → ((tk i).1 = 14 → NoA a1 p) → List.length c + 1 ≤ i → OutO n z C t r so u Tq a1 i c p op (R op i c)
theorem cntS_max {s : Nat} : ∀ f i, (tk (i + cntS tk s f i)).1 = s → cntS tk s f i = f
  | 0, _, _ => rfl
  | f + 1, i, h => by
    by_cases e : (tk i).1 = s
    · rw [cntS, if_pos e] at h ⊢
      rw [cntS_max f (i + 1) (by rw [show i + 1 + cntS tk s f (i + 1) = i + (cntS tk s f (i + 1) + 1) by omega]; exact h)]
    · rw [cntS, if_neg e] at h
      exact absurd h e
theorem last_m : ∀ (s s' : List Nat) (b b' : List Nat) (m m' : Nat), (b ++ [m]) ++ s.reverse = (b' ++ [m']) ++ s'.reverse → 40 ≤ m → 40 ≤ m' → (∀ o, o ∈ s → o < 40) → (∀ o, o ∈ s' → o < 40) → m = m'
  | [], [], b, b', m, m', h, _, _, _, _ => by
    rw [List.reverse_nil, List.append_nil, List.append_nil] at h
    have := (List.append_inj' h rfl).2
    cases this; rfl
  | [], o :: s', b, b', m, m', h, h1, h2, h3, h4 => by
    rw [List.reverse_nil, List.append_nil, List.reverse_cons, ← List.append_assoc] at h
    have := (List.append_inj' h rfl).2
    cases this
    have := h4 _ (List.mem_cons_self ..)
    omega
  | o :: s, [], b, b', m, m', h, h1, h2, h3, h4 => by
    rw [List.reverse_nil, List.append_nil, List.reverse_cons, ← List.append_assoc] at h
    have := (List.append_inj' h rfl).2
    cases this
    have := h3 _ (List.mem_cons_self ..)
    omega
  | o :: s, o' :: s', b, b', m, m', h, h1, h2, h3, h4 => by
    rw [List.reverse_cons, List.reverse_cons, ← List.append_assoc, ← List.append_assoc] at h
    exact last_m s s' b b' m m' (List.append_inj' h rfl).1 h1 h2 (fun x hx => h3 x (List.mem_cons_of_mem _ hx)) (fun x hx => h4 x (List.mem_cons_of_mem _ hx))
theorem q36 {Q : List Nat} (h : ∀ o, o ∈ Q → 3 ≤ o ∧ o ≤ 6) : (∀ o, o ∈ Q → o < 40 ∧ 1 ≤ rkN o ∧ o ≠ 2 ∧ o ≠ 20) ∧ (∀ o, o ∈ Q → 5 ≤ rkN o ∧ o < 1000) ∧ cnU Q = 0 := by
  have hr : ∀ o, 3 ≤ o ∧ o ≤ 6 → 5 ≤ rkN o := fun o ho => by
    have : o = 3 ∨ o = 4 ∨ o = 5 ∨ o = 6 := by omega
    rcases this with rfl | rfl | rfl | rfl <;> decide
  refine ⟨fun o ho => ⟨by have := h o ho; omega, by have := hr o (h o ho); omega, by have := h o ho; omega, by have := h o ho; omega⟩, fun o ho => ⟨hr o (h o ho), by have := h o ho; omega⟩, ?_⟩
  induction Q with
  | nil => rfl
  | cons o Q ih =>
    have h1 := h o (List.mem_cons_self ..)
    show (if o = 2 ∨ o = 20 then 1 else 0) + cnU Q = 0
    rw [if_neg (by omega), ih (fun o ho => h o (List.mem_cons_of_mem _ ho))]
theorem mpC_len (Q : List Nat) : (mpC Q).length = Q.length := by unfold mpC; rw [List.length_map]
/-- inside something open, with a token that doesn't fit -/
theorem rn_in (hn : 100000 ≤ n) (hT : TokOK n z C t u tk Tq) {m : Nat} {Q : List Nat} (hm : 40 ≤ m) (hp : ∀ o, o ∈ (p ++ [m]) ++ Q.reverse → o < 1000) (hQ : ∀ o, o ∈ Q → 3 ≤ o ∧ o ≤ 6) (h1 : ¬ (28 ≤ (tk i).1 ∧ (tk i).1 ≤ 31)) (h2 : ¬ ((tk i).1 = 33 ∧ (m = 40 ∨ 43 ≤ m)) ∧ ¬ ((tk i).1 = 34 ∧ (m = 41 ∨ m = 42))) : RnF n z C t r so u Tq a1 i c ((p ++ [m]) ++ Q.reverse) op true 1 i := by
  have hex : ∃ o, o ∈ (p ++ [m]) ++ Q.reverse ∧ 40 ≤ o := ⟨m, List.mem_append.mpr (Or.inl (List.mem_append.mpr (Or.inr (List.mem_singleton.mpr rfl)))), hm⟩
  refine rn_stopF hn hp hex (rn_stop hn hT hp (fun I J hs => bt_mk hn hT hs hp h1 (Or.inr hex)) (fun b m' s e m1 m2 => ?_))
  have : m' = m := last_m s Q b p m' m e.symm m1 hm m2 (fun o ho => ((q36 hQ).1 o ho).1)
  rw [this]; exact h2
end RW
