/-! THE CODE OF A LAW, worked abstractly: values and truths; the class's and the reference's reckoning -/
abbrev AS : Type := Nat × (Nat → Int) × Nat × (Nat → Bool)
def twoA (o : Nat) (x y : Int) : Int := if o = 3 then clp (x + y) else if o = 4 then clp (x - y) else if o = 5 then clp (x * y) else if o = 6 then (if y = 0 then 0 else clp (x.tdiv y)) else if o = 7 then (if x < y then x else y) else (if y < x then x else y)
def askA (o : Nat) (x y : Int) : Bool := if o = 10 then decide (x < y) else if o = 11 then decide (x ≤ y) else if o = 12 then decide (y < x) else if o = 13 then decide (y ≤ x) else if o = 14 then decide (x = y) else !decide (x = y)
def stepA (nm : Nat → Int) (c : Nat × Nat) (s : AS) : AS :=
  if c.1 = 0 then (s.1 + 1, ur s.2.1 s.1 (c.2 : Int), s.2.2.1, s.2.2.2)
  else if c.1 = 1 then (s.1 + 1, ur s.2.1 s.1 (nm c.2), s.2.2.1, s.2.2.2)
  else if c.1 = 2 then (s.1, ur s.2.1 (s.1 - 1) (-(s.2.1 (s.1 - 1))), s.2.2.1, s.2.2.2)
  else if c.1 < 10 then (s.1 - 1, ur s.2.1 (s.1 - 2) (twoA c.1 (s.2.1 (s.1 - 2)) (s.2.1 (s.1 - 1))), s.2.2.1, s.2.2.2)
  else if c.1 < 20 then (s.1 - 2, s.2.1, s.2.2.1 + 1, ur s.2.2.2 s.2.2.1 (askA c.1 (s.2.1 (s.1 - 2)) (s.2.1 (s.1 - 1))))
  else if c.1 = 20 then (s.1, s.2.1, s.2.2.1, ur s.2.2.2 (s.2.2.1 - 1) (!s.2.2.2 (s.2.2.1 - 1)))
  else (s.1, s.2.1, s.2.2.1 - 1, ur s.2.2.2 (s.2.2.1 - 2) (if c.1 = 21 then s.2.2.2 (s.2.2.1 - 2) && s.2.2.2 (s.2.2.1 - 1) else s.2.2.2 (s.2.2.1 - 2) || s.2.2.2 (s.2.2.1 - 1)))
def runA (nm : Nat → Int) (cd : Nat → Nat × Nat) : Nat → Nat → AS → AS
  | 0, _, s => s
  | d + 1, i, s => runA nm cd d (i + 1) (stepA nm (cd i) s)
/-- c may stand where n values and k truths lie -/
def okA (c : Nat × Nat) (n k : Nat) : Prop := (c.1 = 0 ∧ c.2 ≤ 9999 ∧ n + k < 60) ∨ (c.1 = 1 ∧ c.2 < 12 ∧ n + k < 60) ∨ (c.1 = 2 ∧ 1 ≤ n) ∨ ((3 ≤ c.1 ∧ c.1 ≤ 8) ∧ 2 ≤ n) ∨ ((10 ≤ c.1 ∧ c.1 ≤ 15) ∧ n = 2) ∨ (c.1 = 20 ∧ n = 0 ∧ 1 ≤ k) ∨ ((c.1 = 21 ∨ c.1 = 22) ∧ n = 0 ∧ 2 ≤ k)
def nxN (c : Nat × Nat) (n : Nat) : Nat := if c.1 ≤ 1 then n + 1 else if c.1 = 2 then n else if c.1 < 10 then n - 1 else if c.1 < 20 then n - 2 else n
def nxK (c : Nat × Nat) (k : Nat) : Nat := if c.1 < 10 then k else if c.1 < 20 then k + 1 else if c.1 = 20 then k else k - 1
/-- d codes from i on lead from (n, k) to (n', k') -/
def shpA (cd : Nat → Nat × Nat) : Nat → Nat → Nat → Nat → Nat → Nat → Prop
  | 0, _, n, k, n', k' => n = n' ∧ k = k'
  | d + 1, i, n, k, n', k' => okA (cd i) n k ∧ shpA cd d (i + 1) (nxN (cd i) n) (nxK (cd i) k) n' k'
theorem stepA_nk (nm : Nat → Int) (c : Nat × Nat) (s : AS) : (stepA nm c s).1 = nxN c s.1 ∧ (stepA nm c s).2.2.1 = nxK c s.2.2.1 := by
  unfold stepA nxN nxK
  by_cases h0 : c.1 = 0
  · simp [h0]
  by_cases h1 : c.1 = 1
  · simp [h1]
  have h01 : ¬ c.1 ≤ 1 := by omega
  by_cases h2 : c.1 = 2
  · simp [h2]
  by_cases h10 : c.1 < 10
  · simp [h0, h1, h01, h2, h10]
  by_cases h20 : c.1 < 20
  · simp [h0, h1, h01, h2, h10, h20]
  by_cases he : c.1 = 20
  · simp [he]
  · simp [h0, h1, h01, h2, h10, h20, he]
def bdA (s : AS) : Prop := ∀ j, j < s.1 → small (s.2.1 j)
theorem twoA_small {o : Nat} {x y : Int} (hx : small x) (hy : small y) : small (twoA o x y) := by
  unfold twoA
  split
  · exact clp_small _
  split
  · exact clp_small _
  split
  · exact clp_small _
  split
  · split
    · unfold small; omega
    · exact clp_small _
  split
  · split
    · exact hx
    · exact hy
  · split
    · exact hx
    · exact hy
theorem stepA_small {nm : Nat → Int} {c : Nat × Nat} {s : AS} (hok : okA c s.1 s.2.2.1) (h : bdA s) (hn : c.1 = 1 → small (nm c.2)) : bdA (stepA nm c s) := by
  obtain ⟨n, V, k, B⟩ := s
  unfold okA at hok
  simp only at hok
  rcases hok with ⟨h0, hv, h1⟩ | ⟨h0, hv, h1⟩ | ⟨h0, h1⟩ | ⟨⟨h0, h0'⟩, h1⟩ | ⟨⟨h0, h0'⟩, h1⟩ | ⟨h0, h1, h2⟩ | ⟨h0, h1, h2⟩
  · intro j hj
    have e : stepA nm c (n, V, k, B) = (n + 1, ur V n (c.2 : Int), k, B) := by unfold stepA; simp [h0]
    rw [e] at hj ⊢
    by_cases hjn : j = n
    · subst hjn; show small (ur V j _ j); rw [ur_at]; unfold small; omega
    · show small (ur V n _ j); rw [ur_ne _ _ hjn]; exact h j (show j < n by have : j < n + 1 := hj; omega)
  · intro j hj
    have e : stepA nm c (n, V, k, B) = (n + 1, ur V n (nm c.2), k, B) := by unfold stepA; simp [h0]
    rw [e] at hj ⊢
    by_cases hjn : j = n
    · subst hjn; show small (ur V j _ j); rw [ur_at]; exact hn h0
    · show small (ur V n _ j); rw [ur_ne _ _ hjn]; exact h j (show j < n by have : j < n + 1 := hj; omega)
  · intro j hj
    have e : stepA nm c (n, V, k, B) = (n, ur V (n - 1) (-(V (n - 1))), k, B) := by unfold stepA; simp [h0]
    rw [e] at hj ⊢
    by_cases hjn : j = n - 1
    · subst hjn; show small (ur V (n - 1) _ (n - 1)); rw [ur_at]; have := h (n - 1) (show n - 1 < n by omega); unfold small at this ⊢; simp only at this ⊢; omega
    · show small (ur V (n - 1) _ j); rw [ur_ne _ _ hjn]; exact h j hj
  · intro j hj
    have e : stepA nm c (n, V, k, B) = (n - 1, ur V (n - 2) (twoA c.1 (V (n - 2)) (V (n - 1))), k, B) := by unfold stepA; simp [show ¬ c.1 = 0 by omega, show ¬ c.1 = 1 by omega, show ¬ c.1 = 2 by omega, show c.1 < 10 by omega]
    rw [e] at hj ⊢
    have hj : j < n - 1 := hj
    by_cases hjn : j = n - 2
    · subst hjn; show small (ur V (n - 2) _ (n - 2)); rw [ur_at]; exact twoA_small (h (n - 2) (show n - 2 < n by omega)) (h (n - 1) (show n - 1 < n by omega))
    · show small (ur V (n - 2) _ j); rw [ur_ne _ _ hjn]; exact h j (show j < n by omega)
  · intro j hj
    have e : stepA nm c (n, V, k, B) = (n - 2, V, k + 1, ur B k (askA c.1 (V (n - 2)) (V (n - 1)))) := by unfold stepA; simp [show ¬ c.1 = 0 by omega, show ¬ c.1 = 1 by omega, show ¬ c.1 = 2 by omega, show ¬ c.1 < 10 by omega, show c.1 < 20 by omega]
    rw [e] at hj ⊢
    exact h j (show j < n by have : j < n - 2 := hj; omega)
  · intro j hj
    have e : (stepA nm c (n, V, k, B)).1 = n ∧ (stepA nm c (n, V, k, B)).2.1 = V := by unfold stepA; simp [h0]
    rw [e.1] at hj
    omega
  · intro j hj
    have e : (stepA nm c (n, V, k, B)).1 = n := by
      unfold stepA
      simp [show ¬ c.1 = 0 by omega, show ¬ c.1 = 1 by omega, show ¬ c.1 = 2 by omega, show ¬ c.1 < 10 by omega, show ¬ c.1 < 20 by omega, show ¬ c.1 = 20 by omega]
    rw [e] at hj
    omega
/-- the class's sign of a code -/
def sg (o : Nat) : Nat := [38, 41, 42, 28, 29, 30, 31, 12, 13, 0, 24, 36, 25, 37, 26, 27, 0, 0, 0, 0, 14, 15, 16].getD o 0
theorem sg_lt : ∀ o, o ≤ 22 → sg o < 64 := by decide
section TXT
variable {n z C t : Nat} {I : Nat → Nat → Int32} {J : Nat → Nat → Int64} {u : Option Nat} {α : Type}
theorem gT {k j : Nat} (hk : k < t) (hj : j < 5) {F : Nat → Option α} : gR (mk z C I J t u) (mR (mk z C I J t u) (z + (97 + 6 * k)) j) 12 F = F (z + (97 + 6 * k + 1 + j)) := by
  refine gR_mk ?_ (by omega) ?_
  · unfold rO
    rw [if_neg (by omega), if_neg (by omega), if_neg (by omega), if_pos ⟨by omega, by omega, hj⟩]
  · unfold kO
    rw [if_neg (by omega), if_pos (by omega), if_neg (by omega)]
theorem nT {k j : Nat} (hk : k < t) (hj : j < 4) : mN (mk z C I J t u) (z + (97 + 6 * k + 1 + j)) = 20 := by
  rw [mN_mk]
  unfold nO
  rw [if_neg (by omega), if_pos (by omega), show (97 + 6 * k + 1 + j - 97) % 6 = 1 + j by omega]
  rcases (show j = 0 ∨ j = 1 ∨ j = 2 ∨ j = 3 by omega) with rfl | rfl | rfl | rfl <;> rfl
theorem nT4 {k : Nat} (hk : k < t) : mN (mk z C I J t u) (z + (97 + 6 * k + 1 + 4)) = 300 := by
  rw [mN_mk]
  unfold nO
  rw [if_neg (by omega), if_pos (by omega), show (97 + 6 * k + 1 + 4 - 97) % 6 = 5 by omega]
  rfl
end TXT
theorem nI_m1 {m : Nat} (h : 1 ≤ m) : nI m + (-1 : Int32) = nI (m - 1) := by
  have e : nI m = nI (m - 1) + nI 1 := by rw [nI_pl]; congr 1; omega
  rw [e, Int32.add_assoc, show nI 1 + (-1 : Int32) = 0 from by decide, Int32.add_zero]
theorem nI_m2 {m : Nat} (h : 2 ≤ m) : nI m + (-2 : Int32) = nI (m - 2) := by
  have e : nI m = nI (m - 2) + nI 2 := by rw [nI_pl]; congr 1; omega
  rw [e, Int32.add_assoc, show nI 2 + (-2 : Int32) = 0 from by decide, Int32.add_zero]
theorem nI_s1 {m : Nat} (h : 1 ≤ m) : nI m - (1 : Int32) = nI (m - 1) := nI_sb (b := 1) h
/-- the class's stack beside the abstract one -/
def CRs (st : Nat → Int32) (s : AS) : Prop := (∀ j, j < s.2.2.1 → st j = if s.2.2.2 j = true then 1 else 0) ∧ ∀ j, j < s.1 → st (s.2.2.1 + j) = iI (s.2.1 j)
def joA (o : Nat) (a b : Int32) : Int32 := if o = 7 then imin a b else if o = 8 then imax a b else if o = 10 then (if b ≤ a then 0 else 1) else if o = 11 then (if b < a then 0 else 1) else if o = 12 then (if a ≤ b then 0 else 1) else if o = 13 then (if a < b then 0 else 1) else if o = 14 then (if a = b then 1 else 0) else if o = 15 then (if a = b then 0 else 1) else if o = 21 then a &&& b else a ||| b
theorem s_joined {n : Nat} {S : MS} (o : Nat) (ho : o = 7 ∨ o = 8 ∨ (10 ≤ o ∧ o ≤ 15) ∨ o = 21 ∨ o = 22) (a b : Int32) : f_X5_joined n (nI (sg o)) a b S = some (joA o a b, S) := by
  have hh : o = 7 ∨ o = 8 ∨ o = 10 ∨ o = 11 ∨ o = 12 ∨ o = 13 ∨ o = 14 ∨ o = 15 ∨ o = 21 ∨ o = 22 := by omega
  unfold f_X5_joined joA
  rcases hh with rfl | rfl | rfl | rfl | rfl | rfl | rfl | rfl | rfl | rfl
  · rw [if_pos (by decide)]; rfl
  · rw [if_neg (by decide), if_pos (by decide)]; rfl
  · simp only [show (nI (sg 10)) = 24 from rfl, show ¬ (24 : Int32) = 12 by decide, show ¬ (24 : Int32) = 13 by decide, show ¬ (24 : Int32) = 14 by decide, show ¬ (24 : Int32) = 15 by decide, show ¬ (24 : Int32) = 16 by decide, show ¬ (24 : Int32) = 17 by decide, show ¬ (24 : Int32) = 18 by decide, show ¬ (24 : Int32) = 19 by decide, show ¬ (24 : Int32) = 20 by decide, show ¬ (24 : Int32) = 21 by decide, show ¬ (24 : Int32) = 22 by decide, show ¬ (24 : Int32) = 23 by decide, if_false, if_true, show ¬ (10 : Nat) = 7 by omega, show ¬ (10 : Nat) = 8 by omega]
    split <;> rfl
  · rw [if_neg (by decide), if_neg (by decide), if_neg (by decide), if_neg (by decide), if_neg (by decide), if_neg (by decide), if_neg (by decide), if_neg (by decide), if_neg (by decide), if_neg (by decide), if_neg (by decide), if_neg (by decide), if_neg (by decide), if_neg (by decide), if_neg (by decide), if_neg (by decide), if_neg (by decide), if_neg (by decide), if_neg (by decide), if_neg (by decide), if_neg (by decide), if_neg (by decide), if_neg (by decide), if_neg (by decide), if_pos (by decide)]
    simp only [show ¬ (11 : Nat) = 7 by omega, show ¬ (11 : Nat) = 8 by omega, show ¬ (11 : Nat) = 10 by omega, if_false, if_true]
    split <;> rfl
  · rw [if_neg (by decide), if_neg (by decide), if_neg (by decide), if_neg (by decide), if_neg (by decide), if_neg (by decide), if_neg (by decide), if_neg (by decide), if_neg (by decide), if_neg (by decide), if_neg (by decide), if_neg (by decide), if_neg (by decide), if_pos (by decide)]
    simp only [show ¬ (12 : Nat) = 7 by omega, show ¬ (12 : Nat) = 8 by omega, show ¬ (12 : Nat) = 10 by omega, show ¬ (12 : Nat) = 11 by omega, if_false, if_true]
    split <;> rfl
  · rw [if_neg (by decide), if_neg (by decide), if_neg (by decide), if_neg (by decide), if_neg (by decide), if_neg (by decide), if_neg (by decide), if_neg (by decide), if_neg (by decide), if_neg (by decide), if_neg (by decide), if_neg (by decide), if_neg (by decide), if_neg (by decide), if_neg (by decide), if_neg (by decide), if_neg (by decide), if_neg (by decide), if_neg (by decide), if_neg (by decide), if_neg (by decide), if_neg (by decide), if_neg (by decide), if_neg (by decide), if_neg (by decide), if_pos (by decide)]
    simp only [show ¬ (13 : Nat) = 7 by omega, show ¬ (13 : Nat) = 8 by omega, show ¬ (13 : Nat) = 10 by omega, show ¬ (13 : Nat) = 11 by omega, show ¬ (13 : Nat) = 12 by omega, if_false, if_true]
    split <;> rfl
  · rw [if_neg (by decide), if_neg (by decide), if_neg (by decide), if_neg (by decide), if_neg (by decide), if_neg (by decide), if_neg (by decide), if_neg (by decide), if_neg (by decide), if_neg (by decide), if_neg (by decide), if_neg (by decide), if_neg (by decide), if_neg (by decide), if_pos (by decide)]
    simp only [show ¬ (14 : Nat) = 7 by omega, show ¬ (14 : Nat) = 8 by omega, show ¬ (14 : Nat) = 10 by omega, show ¬ (14 : Nat) = 11 by omega, show ¬ (14 : Nat) = 12 by omega, show ¬ (14 : Nat) = 13 by omega, if_false, if_true]
    split <;> rfl
  · rw [if_neg (by decide), if_neg (by decide), if_neg (by decide), if_neg (by decide), if_neg (by decide), if_neg (by decide), if_neg (by decide), if_neg (by decide), if_neg (by decide), if_neg (by decide), if_neg (by decide), if_neg (by decide), if_neg (by decide), if_neg (by decide), if_neg (by decide), if_pos (by decide)]
    simp only [show ¬ (15 : Nat) = 7 by omega, show ¬ (15 : Nat) = 8 by omega, show ¬ (15 : Nat) = 10 by omega, show ¬ (15 : Nat) = 11 by omega, show ¬ (15 : Nat) = 12 by omega, show ¬ (15 : Nat) = 13 by omega, show ¬ (15 : Nat) = 14 by omega, if_false, if_true]
    split <;> rfl
  · rw [if_neg (by decide), if_neg (by decide), if_neg (by decide), if_pos (by decide)]; rfl
  · rw [if_neg (by decide), if_neg (by decide), if_neg (by decide), if_neg (by decide), if_pos (by decide)]; rfl
theorem s_stepped {n : Nat} {S : MS} (o : Nat) (ho : 3 ≤ o ∧ o ≤ 6) {x y : Int} (hx : small x) (hy : small y) : ∃ w, f_X5_stepped n (nI (sg o)) (jI x) (jI y) S = some (jI w, S) ∧ clp w = twoA o x y ∧ -100000000000000 ≤ w ∧ w ≤ 100000000000000 := by
  have hm := mul_small hx hy
  have hd := tdiv_small (y := y) hx
  have hx' := hx
  have hy' := hy
  unfold small at hx' hy' hd
  unfold f_X5_stepped twoA
  rcases (show o = 3 ∨ o = 4 ∨ o = 5 ∨ o = 6 by omega) with rfl | rfl | rfl | rfl
  · rw [if_pos (by decide), jI_add (by omega) (by omega) (by omega) (by omega)]
    exact ⟨_, rfl, by simp, by omega, by omega⟩
  · rw [if_neg (by decide), if_pos (by decide), jI_sub (by omega) (by omega) (by omega) (by omega)]
    exact ⟨_, rfl, by simp, by omega, by omega⟩
  · rw [if_neg (by decide), if_neg (by decide), if_pos (by decide), jI_mul hx hy]
    exact ⟨_, rfl, by simp, by omega, by omega⟩
  · rw [if_neg (by decide), if_neg (by decide), if_neg (by decide)]
    have ht := jI_t (x := y) (by omega) (by omega)
    by_cases h0 : y = 0
    · subst h0
      rw [if_pos (show lg_cmp (jI 0) 0 = 0 from (lg_0 _).mpr rfl)]
      exact ⟨0, rfl, by simp [clp], by omega, by omega⟩
    · have hj : ¬ jI y = 0 := fun w => by rw [w] at ht; exact h0 (ht.symm.trans rfl)
      rw [if_neg (fun w => hj ((lg_0 _).mp w)), dvl, if_neg hj, jI_div hx hy]
      exact ⟨_, rfl, by simp [h0], by omega, by omega⟩
