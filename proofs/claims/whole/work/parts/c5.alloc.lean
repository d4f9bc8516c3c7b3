/-! A NEW TEXT IS MADE -/
section NT
variable {n z C t : Nat} {I : Nat → Nat → Int32} {J : Nat → Nat → Int64} {u : Option Nat}
theorem nw_len (S : MS) (a c m : Nat) : (mL (nw S a c m)).length = (mL S).length + 1 := by
  show (S.1 ++ [a]).length = _
  rw [List.length_append]; rfl
theorem mk_len : (mL (mk z C I J t u)).length = 97 + 6 * t := by
  show ((List.range (97 + 6 * t)).map (fun o => z + o)).length = _
  rw [List.length_map, List.length_range]
def a1T (S : MS) (th q i m : Nat) : MS := sR (nw S q 12 m) th i (some q)
theorem a1T_len (S : MS) (th q i m : Nat) : (mL (a1T S th q i m)).length = (mL S).length + 1 := nw_len S q 12 m
def s7T (z th l : Nat) (S : MS) : MS := a1T (a1T (a1T (a1T (a1T S th (z + l) 0 20) th (z + (l + 1)) 1 20) th (z + (l + 1 + 1)) 2 20) th (z + (l + 1 + 1 + 1)) 3 20) th (z + (l + 1 + 1 + 1 + 1)) 4 300
theorem init7_ok {S : MS} {th l : Nat} (hl : (mL S).length = l) : f_X7_init n z th S = some (s7T z th l S) := by
  unfold f_X7_init
  simp only [bd, jn]
  rw [ck_t (by decide), hl]
  rw [ck_t (by decide), show (mL (sR (nw S (z + l) 12 (20 : Int32).toNatClampNeg) th 0 (some (z + l)))).length = l + 1 from (a1T_len S th (z + l) 0 20).trans (by rw [hl])]
  rw [ck_t (by decide)]
  have h2 : (mL (a1T (a1T S th (z + l) 0 20) th (z + (l + 1)) 1 20)).length = l + 1 + 1 := by rw [a1T_len, a1T_len, hl]
  have h3 : (mL (a1T (a1T (a1T S th (z + l) 0 20) th (z + (l + 1)) 1 20) th (z + (l + 1 + 1)) 2 20)).length = l + 1 + 1 + 1 := by rw [a1T_len, a1T_len, a1T_len, hl]
  have h4 : (mL (a1T (a1T (a1T (a1T S th (z + l) 0 20) th (z + (l + 1)) 1 20) th (z + (l + 1 + 1)) 2 20) th (z + (l + 1 + 1 + 1)) 3 20)).length = l + 1 + 1 + 1 + 1 := by rw [a1T_len, a1T_len, a1T_len, a1T_len, hl]
  rw [show (mL (sR (nw (sR (nw S (z + l) 12 (20 : Int32).toNatClampNeg) th 0 (some (z + l))) (z + (l + 1)) 12 (20 : Int32).toNatClampNeg) th 1 (some (z + (l + 1))))).length = l + 1 + 1 from h2]
  rw [ck_t (by decide)]
  rw [show (mL (sR (nw (sR (nw (sR (nw S (z + l) 12 (20 : Int32).toNatClampNeg) th 0 (some (z + l))) (z + (l + 1)) 12 (20 : Int32).toNatClampNeg) th 1 (some (z + (l + 1)))) (z + (l + 1 + 1)) 12 (20 : Int32).toNatClampNeg) th 2 (some (z + (l + 1 + 1))))).length = l + 1 + 1 + 1 from h3]
  rw [ck_t (by decide)]
  rw [show (mL (sR (nw (sR (nw (sR (nw (sR (nw S (z + l) 12 (20 : Int32).toNatClampNeg) th 0 (some (z + l))) (z + (l + 1)) 12 (20 : Int32).toNatClampNeg) th 1 (some (z + (l + 1)))) (z + (l + 1 + 1)) 12 (20 : Int32).toNatClampNeg) th 2 (some (z + (l + 1 + 1)))) (z + (l + 1 + 1 + 1)) 12 (20 : Int32).toNatClampNeg) th 3 (some (z + (l + 1 + 1 + 1))))).length = l + 1 + 1 + 1 + 1 from h4]
  rfl
def z6 {α : Type} (f : Nat → Nat → α) (v : α) (a : Nat) : Nat → Nat → α := upr (upr (upr (upr (upr (upr f a (fun _ => v)) (a + 1) (fun _ => v)) (a + 1 + 1) (fun _ => v)) (a + 1 + 1 + 1) (fun _ => v)) (a + 1 + 1 + 1 + 1) (fun _ => v)) (a + 1 + 1 + 1 + 1 + 1) (fun _ => v)
theorem z6_lt {α : Type} {f : Nat → Nat → α} {v : α} {a q : Nat} (h : q < a) : z6 f v a q = f q := by
  unfold z6
  rw [upr_ne (by omega), upr_ne (by omega), upr_ne (by omega), upr_ne (by omega), upr_ne (by omega), upr_ne (by omega)]
def vu6 (f : Nat → Nat) (a : Nat) (v0 v1 v2 v3 v4 v5 : Nat) : Nat → Nat := va_up (va_up (va_up (va_up (va_up (va_up f a v0) (a + 1) v1) (a + 1 + 1) v2) (a + 1 + 1 + 1) v3) (a + 1 + 1 + 1 + 1) v4) (a + 1 + 1 + 1 + 1 + 1) v5
theorem vu6_0 {f : Nat → Nat} {a v0 v1 v2 v3 v4 v5 : Nat} : vu6 f a v0 v1 v2 v3 v4 v5 a = v0 := by
  unfold vu6
  rw [va_up_ne _ _ (by omega), va_up_ne _ _ (by omega), va_up_ne _ _ (by omega), va_up_ne _ _ (by omega), va_up_ne _ _ (by omega), va_up_self]
theorem vu6_1 {f : Nat → Nat} {a v0 v1 v2 v3 v4 v5 : Nat} : vu6 f a v0 v1 v2 v3 v4 v5 (a + 1) = v1 := by
  unfold vu6
  rw [va_up_ne _ _ (by omega), va_up_ne _ _ (by omega), va_up_ne _ _ (by omega), va_up_ne _ _ (by omega), va_up_self]
theorem vu6_2 {f : Nat → Nat} {a v0 v1 v2 v3 v4 v5 : Nat} : vu6 f a v0 v1 v2 v3 v4 v5 (a + 1 + 1) = v2 := by
  unfold vu6
  rw [va_up_ne _ _ (by omega), va_up_ne _ _ (by omega), va_up_ne _ _ (by omega), va_up_self]
theorem vu6_3 {f : Nat → Nat} {a v0 v1 v2 v3 v4 v5 : Nat} : vu6 f a v0 v1 v2 v3 v4 v5 (a + 1 + 1 + 1) = v3 := by
  unfold vu6
  rw [va_up_ne _ _ (by omega), va_up_ne _ _ (by omega), va_up_self]
theorem vu6_4 {f : Nat → Nat} {a v0 v1 v2 v3 v4 v5 : Nat} : vu6 f a v0 v1 v2 v3 v4 v5 (a + 1 + 1 + 1 + 1) = v4 := by
  unfold vu6
  rw [va_up_ne _ _ (by omega), va_up_self]
theorem vu6_5 {f : Nat → Nat} {a v0 v1 v2 v3 v4 v5 : Nat} : vu6 f a v0 v1 v2 v3 v4 v5 (a + 1 + 1 + 1 + 1 + 1) = v5 := by
  unfold vu6
  rw [va_up_self]
theorem vu6_n {f : Nat → Nat} {a v0 v1 v2 v3 v4 v5 b : Nat} (h : b < a ∨ a + 5 < b) : vu6 f a v0 v1 v2 v3 v4 v5 b = f b := by
  unfold vu6
  rw [va_up_ne _ _ (by omega), va_up_ne _ _ (by omega), va_up_ne _ _ (by omega), va_up_ne _ _ (by omega), va_up_ne _ _ (by omega), va_up_ne _ _ (by omega)]
theorem kO_n : (vu6 (fun a => if a < z then 0 else kO t (a - z)) (z + (97 + 6 * t)) 7 12 12 12 12 12) = (fun a => if a < z then 0 else kO (t + 1) (a - z)) := by
  funext b
  have hv : ∀ j, j < 6 → b = z + (97 + 6 * t) + j → (if b < z then 0 else kO (t + 1) (b - z)) = if j = 0 then 7 else 12 := fun j hj e => by
    rw [if_neg (by omega)]
    unfold kO
    rw [if_neg (by omega), if_pos (by omega), show (b - z - 97) % 6 = j by omega]
  by_cases g : b < z + (97 + 6 * t) ∨ z + (97 + 6 * t) + 5 < b
  · rw [vu6_n g]
    by_cases y : b < z
    · rw [if_pos y, if_pos y]
    · rw [if_neg y, if_neg y]
      unfold kO
      by_cases y1 : b - z < 97
      · rw [if_pos y1, if_pos y1]
      · rw [if_neg y1, if_neg y1]
        by_cases y2 : b - z < 97 + 6 * t
        · rw [if_pos y2, if_pos (show b - z < 97 + 6 * (t + 1) by omega)]
        · rw [if_neg y2, if_neg (show ¬ b - z < 97 + 6 * (t + 1) by omega)]
  · have : b = z + (97 + 6 * t) ∨ b = z + (97 + 6 * t) + 1 ∨ b = z + (97 + 6 * t) + 1 + 1 ∨ b = z + (97 + 6 * t) + 1 + 1 + 1 ∨ b = z + (97 + 6 * t) + 1 + 1 + 1 + 1 ∨ b = z + (97 + 6 * t) + 1 + 1 + 1 + 1 + 1 := by omega
    rcases this with e | e | e | e | e | e
    · rw [hv 0 (by omega) e, e, vu6_0]; rfl
    · rw [hv 1 (by omega) e, e, vu6_1]; rfl
    · rw [hv 2 (by omega) e, e, vu6_2]; rfl
    · rw [hv 3 (by omega) e, e, vu6_3]; rfl
    · rw [hv 4 (by omega) e, e, vu6_4]; rfl
    · rw [hv 5 (by omega) e, e, vu6_5]; rfl
theorem nO_n : (vu6 (fun a => if a < z then 0 else nO C t (a - z)) (z + (97 + 6 * t)) 0 20 20 20 20 300) = (fun a => if a < z then 0 else nO C (t + 1) (a - z)) := by
  funext b
  have hv : ∀ j, j < 6 → b = z + (97 + 6 * t) + j → (if b < z then 0 else nO C (t + 1) (b - z)) = [0, 20, 20, 20, 20, 300].getD j 0 := fun j hj e => by
    rw [if_neg (by omega)]
    unfold nO
    rw [if_neg (by omega), if_pos (by omega), show (b - z - 97) % 6 = j by omega]
  by_cases g : b < z + (97 + 6 * t) ∨ z + (97 + 6 * t) + 5 < b
  · rw [vu6_n g]
    by_cases y : b < z
    · rw [if_pos y, if_pos y]
    · rw [if_neg y, if_neg y]
      unfold nO
      by_cases y1 : b - z < 97
      · rw [if_pos y1, if_pos y1]
      · rw [if_neg y1, if_neg y1]
        by_cases y2 : b - z < 97 + 6 * t
        · rw [if_pos y2, if_pos (show b - z < 97 + 6 * (t + 1) by omega)]
        · rw [if_neg y2, if_neg (show ¬ b - z < 97 + 6 * (t + 1) by omega)]
  · have : b = z + (97 + 6 * t) ∨ b = z + (97 + 6 * t) + 1 ∨ b = z + (97 + 6 * t) + 1 + 1 ∨ b = z + (97 + 6 * t) + 1 + 1 + 1 ∨ b = z + (97 + 6 * t) + 1 + 1 + 1 + 1 ∨ b = z + (97 + 6 * t) + 1 + 1 + 1 + 1 + 1 := by omega
    rcases this with e | e | e | e | e | e
    · rw [hv 0 (by omega) e, e, vu6_0]; rfl
    · rw [hv 1 (by omega) e, e, vu6_1]; rfl
    · rw [hv 2 (by omega) e, e, vu6_2]; rfl
    · rw [hv 3 (by omega) e, e, vu6_3]; rfl
    · rw [hv 4 (by omega) e, e, vu6_4]; rfl
    · rw [hv 5 (by omega) e, e, vu6_5]; rfl
theorem skL_n : skL z t ++ [z + (97 + 6 * t)] ++ [z + (97 + 6 * t + 1)] ++ [z + (97 + 6 * t + 1 + 1)] ++ [z + (97 + 6 * t + 1 + 1 + 1)] ++ [z + (97 + 6 * t + 1 + 1 + 1 + 1)] ++ [z + (97 + 6 * t + 1 + 1 + 1 + 1 + 1)] = skL z (t + 1) := by
  unfold skL
  rw [show 97 + 6 * (t + 1) = 97 + 6 * t + 1 + 1 + 1 + 1 + 1 + 1 by omega, List.range_succ, List.range_succ, List.range_succ, List.range_succ, List.range_succ, List.range_succ]
  simp only [List.map_append, List.map_cons, List.map_nil]
/-- the references of the new text -/
def rf6 (f : Nat → Nat → Option Nat) (w a k : Nat) : Nat → Nat → Option Nat := up2 (up2 (upr (up2 (upr (up2 (upr (up2 (upr (up2 (upr (upr f a (fun _ => none)) (a + 1) (fun _ => none)) a 0 (some (a + 1))) (a + 1 + 1) (fun _ => none)) a 1 (some (a + 1 + 1))) (a + 1 + 1 + 1) (fun _ => none)) a 2 (some (a + 1 + 1 + 1))) (a + 1 + 1 + 1 + 1) (fun _ => none)) a 3 (some (a + 1 + 1 + 1 + 1))) (a + 1 + 1 + 1 + 1 + 1) (fun _ => none)) a 4 (some (a + 1 + 1 + 1 + 1 + 1))) w k (some a)
theorem upr_x {α : Type} {f : Nat → Nat → α} {a b j : Nat} {g : Nat → α} (h : b ≠ a) : upr f a g b j = f b j := by rw [upr_ne h]
theorem upr_v {α : Type} {f : Nat → Nat → α} {a j : Nat} {g : Nat → α} : upr f a g a j = g j := by rw [upr_at]
theorem rf6_o {f : Nat → Nat → Option Nat} {w a k b j : Nat} (hw : w < a) (h : b < a ∨ a + 5 < b) (h2 : ¬ (b = w ∧ j = k)) : rf6 f w a k b j = f b j := by
  unfold rf6
  rw [up2_x h2, up2_x (by omega), upr_x (by omega), up2_x (by omega), upr_x (by omega), up2_x (by omega), upr_x (by omega), up2_x (by omega), upr_x (by omega), up2_x (by omega), upr_x (by omega), upr_x (by omega)]
theorem rf6_s {f : Nat → Nat → Option Nat} {w a k b j : Nat} (hw : w < a) (h : a < b) (h2 : b ≤ a + 5) : rf6 f w a k b j = none := by
  unfold rf6
  have : b = a + 1 ∨ b = a + 1 + 1 ∨ b = a + 1 + 1 + 1 ∨ b = a + 1 + 1 + 1 + 1 ∨ b = a + 1 + 1 + 1 + 1 + 1 := by omega
  rcases this with e | e | e | e | e
  · rw [up2_x (by omega), up2_x (by omega), upr_x (by omega), up2_x (by omega), upr_x (by omega), up2_x (by omega), upr_x (by omega), up2_x (by omega), upr_x (by omega), up2_x (by omega), e, upr_v]
  · rw [up2_x (by omega), up2_x (by omega), upr_x (by omega), up2_x (by omega), upr_x (by omega), up2_x (by omega), upr_x (by omega), up2_x (by omega), e, upr_v]
  · rw [up2_x (by omega), up2_x (by omega), upr_x (by omega), up2_x (by omega), upr_x (by omega), up2_x (by omega), e, upr_v]
  · rw [up2_x (by omega), up2_x (by omega), upr_x (by omega), up2_x (by omega), e, upr_v]
  · rw [up2_x (by omega), up2_x (by omega), e, upr_v]
theorem rf6_h {f : Nat → Nat → Option Nat} {w a k j : Nat} (hw : w < a) : rf6 f w a k a j = if j < 5 then some (a + 1 + j) else none := by
  unfold rf6
  by_cases h5 : j < 5
  · rw [if_pos h5]
    have : j = 0 ∨ j = 1 ∨ j = 2 ∨ j = 3 ∨ j = 4 := by omega
    rcases this with e | e | e | e | e
    · rw [up2_x (by omega), up2_x (by omega), upr_x (by omega), up2_x (by omega), upr_x (by omega), up2_x (by omega), upr_x (by omega), up2_x (by omega), upr_x (by omega), e, up2_v]
    · rw [up2_x (by omega), up2_x (by omega), upr_x (by omega), up2_x (by omega), upr_x (by omega), up2_x (by omega), upr_x (by omega), e, up2_v]
    · rw [up2_x (by omega), up2_x (by omega), upr_x (by omega), up2_x (by omega), upr_x (by omega), e, up2_v]
    · rw [up2_x (by omega), up2_x (by omega), upr_x (by omega), e, up2_v]
    · rw [up2_x (by omega), e, up2_v]
  · rw [if_neg h5, up2_x (by omega), up2_x (by omega), upr_x (by omega), up2_x (by omega), upr_x (by omega), up2_x (by omega), upr_x (by omega), up2_x (by omega), upr_x (by omega), up2_x (by omega), upr_x (by omega), upr_v]
theorem rO_n : rf6 (fun a k => if a < z then none else (rO t u (a - z) k).map (fun o => z + o)) (z + 22) (z + (97 + 6 * t)) t = (fun a k => if a < z then none else (rO (t + 1) u (a - z) k).map (fun o => z + o)) := by
  funext b k
  by_cases g : b < z + (97 + 6 * t) ∨ z + (97 + 6 * t) + 5 < b
  · by_cases h : b = z + 22 ∧ k = t
    · obtain ⟨e1, e2⟩ := h
      rw [e1, e2]
      unfold rf6
      rw [up2_v, if_neg (by omega), Nat.add_sub_cancel_left]
      unfold rO
      rw [if_pos rfl, if_pos (by omega)]
      rfl
    · rw [rf6_o (by omega) g h]
      by_cases y : b < z
      · rw [if_pos y, if_pos y]
      · rw [if_neg y, if_neg y]
        have : rO t u (b - z) k = rO (t + 1) u (b - z) k := by
          unfold rO
          by_cases q22 : b - z = 22
          · rw [if_pos q22, if_pos q22]
            by_cases q : k < t
            · rw [if_pos q, if_pos (by omega)]
            · rw [if_neg q, if_neg (by omega)]
          · rw [if_neg q22, if_neg q22]
            by_cases q17 : b - z = 17 ∧ k = 3
            · rw [if_pos q17, if_pos q17]
            · rw [if_neg q17, if_neg q17]
              by_cases y1 : b - z < 97
              · rw [if_pos y1, if_pos y1]
              · rw [if_neg y1, if_neg y1]
                by_cases y2 : b - z < 97 + 6 * t ∧ (b - z - 97) % 6 = 0 ∧ k < 5
                · rw [if_pos y2, if_pos (by omega)]
                · rw [if_neg y2, if_neg (by omega)]
        rw [this]
  · rw [if_neg (by omega)]
    unfold rO
    rw [if_neg (by omega), if_neg (by omega), if_neg (by omega)]
    by_cases e : b = z + (97 + 6 * t)
    · rw [e, rf6_h (by omega)]
      by_cases h5 : k < 5
      · rw [if_pos h5, if_pos (by omega)]
        show some _ = some (z + (z + (97 + 6 * t) - z + 1 + k))
        rw [show z + (z + (97 + 6 * t) - z + 1 + k) = z + (97 + 6 * t) + 1 + k by omega]
      · rw [if_neg h5, if_neg (by omega)]; rfl
    · rw [rf6_s (by omega) (by omega) (by omega), if_neg (by omega)]; rfl
theorem new_text : sR (s7T z (z + (97 + 6 * t)) (97 + 6 * t + 1) (nw (mk z C I J t u) (z + (97 + 6 * t)) 7 0)) (z + 22) t (some (z + (97 + 6 * t))) = mk z C (z6 I 0 (z + (97 + 6 * t))) (z6 J 0 (z + (97 + 6 * t))) (t + 1) u := by
  refine Prod.ext ?_ (Prod.ext ?_ (Prod.ext ?_ (Prod.ext rfl (Prod.ext rfl ?_))))
  · exact skL_n
  · exact kO_n
  · exact nO_n
  · exact rO_n
end NT
