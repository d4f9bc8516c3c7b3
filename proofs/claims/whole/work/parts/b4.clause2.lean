/-! THE CLASS READS A CLAUSE, whole -/
section CM
variable {n z C t r N so : Nat} {J : Nat → Nat → Int64} {tk : Nat → Nat × Nat} {pl : Nat → Nat}
theorem nm_ok {s : Nat} (hs : s ≤ 5) (S : MS) : f_X4_namesOf n (nI (s + 18)) S = some (nI (nmK s), S) := by
  have : s = 0 ∨ s = 1 ∨ s = 2 ∨ s = 3 ∨ s = 4 ∨ s = 5 := by omega
  rcases this with e | e | e | e | e | e <;> (rw [e]; rfl)
theorem ok_so {I : Nat → Nat → Int32} {i s : Nat} {c : Cd} (h : OkSt z r N so tk pl I i c) : OkSt z r N s tk pl (up2 I (z + 17) 6 (nI (nmK s))) i c := by
  obtain ⟨h1, h2, h3, h4, h5, h6, h7, h8, h9, h10⟩ := h
  exact ⟨h1.frp (r := r) (fun q p1 p2 => up2_ne (by omega)), up2_v, h3, h4, by rw [up2_x (by omega)]; exact h5, by rw [up2_x (by omega)]; exact h6, by rw [up2_x (by omega)]; exact h7, by rw [up2_x (by omega)]; exact h8, by rw [up2_ne (by omega)]; exact h9, by rw [up2_ne (by omega)]; exact h10⟩
theorem rd_law (hn : 100000 ≤ n) (hr : r < t) {s : Nat} (hs : s < 4) {I : Nat → Nat → Int32} {i : Nat} {c : Cd} (h : StC z r N s tk pl I (Sum.inr (i, c))) (hl : c.length + 1 ≤ i) : LvC z C t r N s J tk pl I (if s = 3 then f_X4_readEither n (z + 17) (mk z C I J t (some (97 + 6 * r))) else f_X4_readSum n (z + 17) (0 : Int32) (mk z C I J t (some (97 + 6 * r)))) (pLaw tk s i c) := by
  have hh : ∀ i' c', (Sum.inr (i, c) : PrR) = Sum.inr (i', c') → c'.length + 1 ≤ i' := fun i' c' e => by
    have e1 : i = i' := congrArg Prod.fst (Sum.inr.inj e)
    have e2 : c = c' := congrArg Prod.snd (Sum.inr.inj e)
    rw [← e1, ← e2]; exact hl
  unfold pLaw
  by_cases e : s = 3
  · subst e
    rw [if_pos rfl, if_pos rfl]
    exact rd_Either hn hr h hh
  · rw [if_neg e, if_neg e]
    exact rd_sum hn hr hs (op := 0) (by omega) h hh
theorem rcK_ok (hn : 100000 ≤ n) (hr : r < t) {m s : Nat} (hm : m < 20) (hs : s ≤ 5) {I : Nat → Nat → Int32} {i : Nat} {c : Cd} (h : OkSt z r N so tk pl I i c) (hi : (tk i).1 ≠ 39) (hl : c.length ≤ i) : ∃ I', rcK n z (nI (s + 18)) (nI m) (mk z C I J t (some (97 + 6 * r))) = some (mk z C I' J t (some (97 + 6 * r))) ∧ StC z r N s tk pl I' (pBody tk s (i + 1) c) ∧ FrW z r m I I' ∧ (∀ y, pBody tk s (i + 1) c = Sum.inr y → I' (z + (97 + 6 * r + 1 + 1)) m = nI (clOf tk s (i + 1) c y.2).2.1 ∧ I' (z + (97 + 6 * r + 1 + 2)) m = nI (clOf tk s (i + 1) c y.2).2.2.1 ∧ (4 ≤ s → I' (z + (97 + 6 * r + 1 + 3)) m = nI (clOf tk s (i + 1) c y.2).2.2.2)) := by
  have k : ∀ a, a < 100 → (nI (s + 18) = nI a ↔ s + 18 = a) := fun a ha => nI_inj (by omega) (by omega)
  obtain ⟨-, I1, e1, s1, f1⟩ := st_adv (n := n) (C := C) (t := t) (J := J) h hi
  have s2 := ok_so (s := s) s1
  have m6 : mI (mk z C (up2 I1 (z + 17) 6 (nI (nmK s))) J t (some (97 + 6 * r))) (z + (97 + 6 * r)) 6 = nI c.length := s2.2.2.2.2.2.2.2.2.1
  have s3 : StC z r N s tk pl (up2 (up2 I1 (z + 17) 6 (nI (nmK s))) (z + (97 + 6 * r + 1 + 1)) m (nI c.length)) (Sum.inr (i + 1, c)) := st_row (j := 1) (by omega) (show StC z r N s tk pl (up2 I1 (z + 17) 6 (nI (nmK s))) (Sum.inr (i + 1, c)) from s2)
  have f2 : FrW z r m I1 (up2 I1 (z + 17) 6 (nI (nmK s))) := ⟨fun q a _ => up2_ne a, fun j _ => by rw [up2_ne (by omega)], up2_ne (by omega), fun j k a b c => by rw [up2_ne (by omega)]⟩
  have F3 : FrW z r m I (up2 (up2 I1 (z + 17) 6 (nI (nmK s))) (z + (97 + 6 * r + 1 + 1)) m (nI c.length)) := (f1.frw.trw f2).trw (FrW.row (by omega) (by omega) _)
  unfold rcK
  simp only [jn, bd]
  rw [if_neg (nI_n1 (show m < 1000000 by omega)), e1, cv_some, nm_ok hs, cl_some, sI_mk, gU hr, gT hr (by omega), gU hr, nT hr (by omega), ck_t (inb_nI (by omega) (by omega)), cl_nI (by omega), m6, sI_mk]
  have r1 : (up2 (up2 I1 (z + 17) 6 (nI (nmK s))) (z + (97 + 6 * r + 1 + 1)) m (nI c.length)) (z + (97 + 6 * r + 1 + 1)) m = nI c.length := up2_v
  generalize up2 (up2 I1 (z + 17) 6 (nI (nmK s))) (z + (97 + 6 * r + 1 + 1)) m (nI c.length) = I3 at *
  unfold pBody
  by_cases h4 : s < 4
  · rw [if_pos h4]
    obtain ⟨I4, e4, s4, f4⟩ := rd_law (n := n) (C := C) (J := J) hn hr h4 s3 (by omega)
    have s5 := st_row (j := 2) (m := m) (v := I4 (z + (97 + 6 * r)) 6) (by omega) s4
    obtain ⟨I6, e6, s6, f6⟩ := lv_exp (n := n) (C := C) (t := t) (J := J) (w := 35) (by omega) s5
    have F6 : FrW z r m I I6 := ((F3.trw f4.frw).trw (FrW.row (by omega) (by omega) _)).trw f6.frw
    refine ⟨I6, ?_, s6, F6, fun y hy => ?_⟩
    · rw [if_neg (show ¬ nI (s + 18) = (22 : Int32) from fun w => by have := (k 22 (by omega)).mp w; omega), if_neg (show ¬ nI (s + 18) = (23 : Int32) from fun w => by have := (k 23 (by omega)).mp w; omega)]
      by_cases e3 : s = 3
      · rw [if_pos e3] at e4
        rw [if_pos (show nI (s + 18) = (21 : Int32) from (k 21 (by omega)).mpr (by omega)), e4, cv_some, if_neg (show ¬ nI (s + 18) = (22 : Int32) from fun w => by have := (k 22 (by omega)).mp w; omega), if_neg (show ¬ nI (s + 18) = (23 : Int32) from fun w => by have := (k 23 (by omega)).mp w; omega), gU hr, gT hr (by omega), gU hr, nT hr (by omega), ck_t (inb_nI (by omega) (by omega)), mI_mk, sI_mk, show (35 : Int32) = nI 35 from rfl, e6, cv_some]
      · rw [if_neg e3] at e4
        rw [if_neg (show ¬ nI (s + 18) = (21 : Int32) from fun w => by have := (k 21 (by omega)).mp w; omega), e4, cv_some, if_neg (show ¬ nI (s + 18) = (22 : Int32) from fun w => by have := (k 22 (by omega)).mp w; omega), if_neg (show ¬ nI (s + 18) = (23 : Int32) from fun w => by have := (k 23 (by omega)).mp w; omega), gU hr, gT hr (by omega), gU hr, nT hr (by omega), ck_t (inb_nI (by omega) (by omega)), mI_mk, sI_mk, show (35 : Int32) = nI 35 from rfl, e6, cv_some]
    · obtain ⟨i', c'⟩ := y
      obtain ⟨i1, q1, q2, q3⟩ := pExp_r hy
      unfold clOf
      rw [if_pos h4]
      have R : ∀ q, q ≠ z + 17 → q ≠ z + (97 + 6 * r) → q ≠ z + (97 + 6 * r + 1 + 4) → I6 q = up2 I4 (z + (97 + 6 * r + 1 + 2)) m (I4 (z + (97 + 6 * r)) 6) q ∧ I4 q = I3 q := fun q a b d => ⟨f6.1 q a b d, f4.1 q a b d⟩
      refine ⟨?_, ?_, fun w => by omega⟩
      · obtain ⟨a, b⟩ := R (z + (97 + 6 * r + 1 + 1)) (by omega) (by omega) (by omega)
        rw [a, up2_ne (by omega), b]; exact r1
      · obtain ⟨a, b⟩ := R (z + (97 + 6 * r + 1 + 2)) (by omega) (by omega) (by omega)
        rw [q1] at s4
        rw [a, up2_v]
        exact s4.2.2.2.2.2.2.2.2.1
  · rw [if_neg h4]
    obtain ⟨I4, e4, s4, f4, w4⟩ := lv_place (n := n) (C := C) (J := J) hr hm (s := s) (by omega) s3
    obtain ⟨I6, e6, s6, f6⟩ := lv_exp (n := n) (C := C) (t := t) (J := J) (w := 35) (by omega) s4
    refine ⟨I6, ?_, s6, (F3.trw f4).trw f6.frw, fun y hy => ?_⟩
    · by_cases e22 : s = 4
      · rw [if_pos (show nI (s + 18) = (22 : Int32) from (k 22 (by omega)).mpr (by omega)), e4, cv_some, if_pos (show nI (s + 18) = (22 : Int32) from (k 22 (by omega)).mpr (by omega)), show (35 : Int32) = nI 35 from rfl, e6, cv_some]
      · rw [if_neg (show ¬ nI (s + 18) = (22 : Int32) from fun w => by have := (k 22 (by omega)).mp w; omega), if_pos (show nI (s + 18) = (23 : Int32) from (k 23 (by omega)).mpr (by omega)), e4, cv_some, if_neg (show ¬ nI (s + 18) = (22 : Int32) from fun w => by have := (k 22 (by omega)).mp w; omega), if_pos (show nI (s + 18) = (23 : Int32) from (k 23 (by omega)).mpr (by omega)), show (35 : Int32) = nI 35 from rfl, e6, cv_some]
    · obtain ⟨i', c'⟩ := y
      obtain ⟨i1, q1, q2, q3⟩ := pExp_r hy
      obtain ⟨a1, a2, a3⟩ := w4 _ q1
      unfold clOf
      rw [if_neg h4]
      exact ⟨by rw [f6.1 _ (by omega) (by omega) (by omega)]; exact a1, by rw [f6.1 _ (by omega) (by omega) (by omega)]; exact a2, fun _ => by rw [f6.1 _ (by omega) (by omega) (by omega)]; exact a3⟩
def OutC (z r N : Nat) (tk : Nat → Nat × Nat) (pl : Nat → Nat) (K : List Cl4) (I' : Nat → Nat → Int32) (x : PrC) : Prop := match x with
  | Sum.inl e => FaS z r N tk pl I' e.1 e.2
  | Sum.inr y => (∃ so', OkSt z r N so' tk pl I' y.1 y.2.2) ∧ CkS z r I' (K ++ [y.2.1])
theorem rcJ_f {I : Nat → Nat → Int32} {f i : Nat} (h : FaS z r N tk pl I f i) (x1 : Int32) : rcJ n z x1 (mk z C I J t (some (97 + 6 * r))) = some (mk z C I J t (some (97 + 6 * r))) := by
  obtain ⟨h1, h2, h3, h4, h5, -⟩ := h
  have m0 : mI (mk z C I J t (some (97 + 6 * r))) (z + 17) 0 = nI f := h5
  unfold rcJ
  rw [m0, if_neg (show ¬ nI f = 0 from fun w => by have := (nI_inj (b := 0) (by omega) (by omega)).mp w; omega)]
  rfl
theorem clOf_1 {s i : Nat} {c c' : Cd} : (clOf tk s i c c').1 = s := by unfold clOf; split <;> rfl
theorem rc_ok (hn : 100000 ≤ n) (hr : r < t) {I : Nat → Nat → Int32} {K : List Cl4} {i : Nat} {c : Cd} (hK : CkS z r I K) (h : OkSt z r N so tk pl I i c) (hi : (tk i).1 ≠ 39) (hl : c.length ≤ i) : ∃ I', f_X4_readClause n (z + 17) (mk z C I J t (some (97 + 6 * r))) = some (mk z C I' J t (some (97 + 6 * r))) ∧ (∀ q, q ≠ z + 17 → (q < z + (97 + 6 * r) ∨ z + (97 + 6 * r + 5) < q) → I' q = I q) ∧ OutC z r N tk pl K I' (pCl tk K i c) := by
  obtain ⟨k1, k2, k3, k4⟩ := hK
  obtain ⟨h1, h2, h3, h4, h5, h6, h7, h8, h9, h10⟩ := id h
  have h40 := (h1.2.2.2 i h3).1
  have m5 : mI (mk z C I J t (some (97 + 6 * r))) (z + 17) 5 = nI (tk i).1 := h8
  have hml : (K.map (fun k => k.1)).length = K.length := List.length_map _
  have flt : ∀ f, 1 ≤ f → f ≤ 6 → ∃ I', (cv (f_X4_complain n (z + 17) (nI f) (mk z C I J t (some (97 + 6 * r)))) fun S => rcJ n z (nI (tk i).1) S) = some (mk z C I' J t (some (97 + 6 * r))) ∧ (∀ q, q ≠ z + 17 → (q < z + (97 + 6 * r) ∨ z + (97 + 6 * r + 5) < q) → I' q = I q) ∧ FaS z r N tk pl I' f i := fun f f1 f6 => by
    obtain ⟨I', e, a, b⟩ := st_com (n := n) (C := C) (t := t) (J := J) h f1 f6
    exact ⟨I', by rw [e, cv_some, rcJ_f a], fun q x y => b.1 q x (by omega) (by omega), a⟩
  rw [rc_eq]
  simp only [jn, bd]
  rw [m5]
  unfold pCl
  by_cases w : 18 ≤ (tk i).1 ∧ (tk i).1 ≤ 23
  · rw [if_neg (show ¬ nI (tk i).1 < (18 : Int32) from fun y => by have := (nI_lt' (b := 18) (by omega) (by omega)).mp y; omega), if_pos (show nI (tk i).1 ≤ (23 : Int32) from (nI_le' (b := 23) (by omega) (by omega)).mpr w.2), if_neg (fun y => y w), gU hr]
    obtain ⟨s, hs⟩ : ∃ s, (tk i).1 = s + 18 := ⟨(tk i).1 - 18, by omega⟩
    rw [hs, show s + 18 - 18 = s by omega]
    rw [hs] at flt
    rw [has_ok (n := n) (fun a k => mI_mk a k) k1 (by omega) (by omega), cl_some]
    by_cases d : s < 3 ∧ s ∈ K.map (fun k => k.1)
    · rw [if_pos d, decide_eq_true d, if_neg (by decide)]
      exact flt 4 (by omega) (by omega)
    · rw [if_neg d, decide_eq_false d, if_pos (show bWC false = 0 from rfl), gU hr]
      have mc : mI (mk z C I J t (some (97 + 6 * r))) (z + (97 + 6 * r)) 5 = nI K.length := by rw [← hml]; exact k1.1
      rw [mc]
      by_cases g : 20 ≤ K.length
      · rw [if_pos g, if_neg (show ¬ nI K.length < (20 : Int32) from fun y => by have := (nI_lt' (b := 20) (by omega) (by omega)).mp y; omega)]
        exact flt 6 (by omega) (by omega)
      · rw [if_neg g, if_pos (show nI K.length < (20 : Int32) from (nI_lt' (b := 20) (by omega) (by omega)).mpr (by omega))]
        have m0 : mI (mk z C I J t (some (97 + 6 * r))) (z + 17) 0 = 0 := h5
        obtain ⟨I1, e1, s1, f1⟩ := addC (n := n) (C := C) (J := J) hr k1 (by omega) (s := s) (by omega) d
        have ok1 : OkSt z r N so tk pl I1 i c := ⟨h1.frp (r := r) (fun q p1 p2 => f1.1 q (by omega) (by omega)), by rw [f1.1 _ (by omega) (by omega)]; exact h2, h3, h4, by rw [f1.1 _ (by omega) (by omega)]; exact h5, by rw [f1.1 _ (by omega) (by omega)]; exact h6, by rw [f1.1 _ (by omega) (by omega)]; exact h7, by rw [f1.1 _ (by omega) (by omega)]; exact h8, by rw [f1.2]; exact h9, by rw [f1.1 _ (by omega) (by omega)]; exact h10⟩
        obtain ⟨I2, e2, s2, f2, w2⟩ := rcK_ok (n := n) (C := C) (J := J) hn hr (m := K.length) (s := s) (by omega) (by omega) ok1 hi hl
        refine ⟨I2, ?_, fun q a b => (f2.1 q a b).trans (f1.1 q (by omega) (by omega)), ?_⟩
        · unfold rcJ
          rw [m0, if_pos rfl, gU hr, e1, cl_some, hml]; exact e2
        · cases hx : pBody tk s (i + 1) c with
          | inl e => rw [hx] at s2; exact s2
          | inr y =>
            rw [hx] at s2
            obtain ⟨a1, a2, a3⟩ := w2 y hx
            refine ⟨⟨s, s2⟩, ?_, fun j hj => ?_, ?_, fun q hq => ?_⟩
            · rw [List.map_append]
              show SrtF z r I2 (K.map (fun k => k.1) ++ [(clOf tk s (i + 1) c y.2).1])
              rw [clOf_1]
              obtain ⟨b1, b2, b3⟩ := s1
              refine ⟨by rw [f2.2.1 _ (by omega)]; exact b1, fun j hj => by rw [f2.2.2.1]; exact b2 j hj, fun s' hs' => ?_⟩
              rw [f2.2.1 _ (by omega)]; exact b3 s' hs'
            · rw [List.length_append] at hj
              have hj : j < K.length + 1 := hj
              by_cases e : j = K.length
              · rw [e, getD_e]; exact ⟨a1, a2, fun w => a3 (by rw [clOf_1] at w; exact w)⟩
              · rw [getD_l (by omega), f2.2.2.2 1 j (by omega) (by omega) e, f2.2.2.2 2 j (by omega) (by omega) e, f2.2.2.2 3 j (by omega) (by omega) e, f1.1 _ (by omega) (by omega), f1.1 _ (by omega) (by omega), f1.1 _ (by omega) (by omega)]
                exact k2 j (by omega)
            · rw [List.length_append]; show K.length + 1 ≤ 20; omega
            · rcases List.mem_append.mp hq with w | w
              · exact k4 q w
              · rw [List.mem_singleton.mp w]
                show (clOf tk s (i + 1) c y.2).1 ≤ 5
                rw [clOf_1]; omega
  · rw [if_pos w]
    have hf := flt 1 (by omega) (by omega)
    by_cases y : (tk i).1 < 18
    · rw [if_pos (show nI (tk i).1 < (18 : Int32) from (nI_lt' (b := 18) (by omega) (by omega)).mpr y)]; exact hf
    · rw [if_neg (show ¬ nI (tk i).1 < (18 : Int32) from fun v => y ((nI_lt' (b := 18) (by omega) (by omega)).mp v)), if_neg (show ¬ nI (tk i).1 ≤ (23 : Int32) from fun v => by have := (nI_le' (b := 23) (by omega) (by omega)).mp v; omega)]; exact hf
end CM
