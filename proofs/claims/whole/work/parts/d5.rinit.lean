/-! THE REFERENCE'S CONSTRUCTOR -/
def rR9 : List (Nat × Nat × Nat) := (83, 35, 96) :: (83, 32, 95) :: (83, 31, 94) :: (83, 30, 93) :: (83, 29, 92) :: (83, 28, 91) :: (83, 27, 90) :: (83, 26, 89) :: (83, 25, 88) :: (83, 19, 87) :: (83, 6, 86) :: (83, 5, 85) :: (83, 0, 84) :: rK2
def kR9 : List Nat := kK2 ++ [11] ++ [12] ++ [12] ++ [12] ++ [12] ++ [12] ++ [13] ++ [14] ++ [12] ++ [14] ++ [12] ++ [12] ++ [13] ++ [14]
def nR9 (C : Nat) : List Nat := unK2 C ++ [0] ++ [2720] ++ [2800] ++ [300] ++ [160] ++ [12] ++ [330] ++ [330] ++ [24] ++ [24] ++ [48] ++ [5] ++ [6] ++ [41]
theorem k_eq : kR9 = tK := by decide +kernel
theorem n_eq (C : Nat) : nR9 C = tN C := by
  simp only [nR9, unK2, pN, L6, unJ2, unJ1, unH, unG, unF, unE, unD, unC, unB, unA, List.cons_append, List.nil_append, tN]
theorem r_eq : ∀ o, o < 97 → ∀ k, k < 36 → chn rR9 o k = rO 0 none o k := by decide +kernel
theorem chn_w {rl : List (Nat × Nat × Nat)} {m o j : Nat} (h : ∀ e, e ∈ rl → e.2.1 < m) (ho : m ≤ j) : chn rl o j = none := by
  induction rl with
  | nil => rfl
  | cons e r ih =>
    rw [chn, if_neg (fun y => by have := h e (List.mem_cons_self ..); omega)]
    exact ih (fun e he => h e (List.mem_cons_of_mem _ he))
theorem r_b1 : ∀ e, e ∈ rR9 → e.1 < 97 := by decide +kernel
theorem r_b2 : ∀ e, e ∈ rR9 → e.2.1 < 36 := by decide +kernel
theorem t_b : ∀ o, o < 97 → (tR.getD o []).length ≤ 36 := by decide +kernel
section JR
variable {n z C W H : Nat} {I : Nat → Nat → Int32} {J : Nat → Nat → Int64} {u : Option Nat} {t : Nat}
theorem rO_0 (o k : Nat) : chn rR9 o k = rO 0 none o k := by
  by_cases h : o < 97
  · by_cases h2 : k < 36
    · exact r_eq o h k h2
    · rw [chn_w r_b2 (by omega)]
      unfold rO
      by_cases e1 : o = 22
      · rw [if_pos e1, if_neg (by omega)]
      · rw [if_neg e1]
        by_cases e2 : o = 17 ∧ k = 3
        · rw [if_pos e2]
        · rw [if_neg e2, if_pos h, List.getD_eq_getElem?_getD, List.getElem?_eq_none (by have := t_b o h; omega)]; rfl
  · rw [chn_n r_b1 (by omega)]
    unfold rO
    rw [if_neg (by omega), if_neg (by omega), if_neg h, if_neg (by omega)]
theorem bk_mk : bk z kR9 (nR9 C) rR9 I J = mk z C I J 0 none := by
  refine Prod.ext rfl (Prod.ext ?_ (Prod.ext ?_ (Prod.ext rfl (Prod.ext rfl ?_))))
  · show (fun a => if a < z then 0 else kR9.getD (a - z) 0) = (fun a => if a < z then 0 else kO 0 (a - z))
    funext a
    by_cases y : a < z
    · rw [if_pos y, if_pos y]
    · rw [if_neg y, if_neg y, k_eq]
      unfold kO
      by_cases y1 : a - z < 97
      · rw [if_pos y1]
      · rw [if_neg y1, if_neg (by omega), List.getD_eq_getElem?_getD, List.getElem?_eq_none (by show 97 ≤ a - z; omega)]; rfl
  · show (fun a => if a < z then 0 else (nR9 C).getD (a - z) 0) = (fun a => if a < z then 0 else nO C 0 (a - z))
    funext a
    by_cases y : a < z
    · rw [if_pos y, if_pos y]
    · rw [if_neg y, if_neg y, n_eq]
      unfold nO
      by_cases y1 : a - z < 97
      · rw [if_pos y1]
      · rw [if_neg y1, if_neg (by omega), List.getD_eq_getElem?_getD, List.getElem?_eq_none (by show 97 ≤ a - z; omega)]; rfl
  · show (fun a k => if a < z then none else (chn rR9 (a - z) k).map (fun o => z + o)) = (fun a k => if a < z then none else (rO 0 none (a - z) k).map (fun o => z + o))
    funext a k
    rw [rO_0]
/-- places set to -1 -/
def frW (g : Nat → Int32) (a b : Nat) : Nat → Int32 := fun j => if a ≤ j ∧ j < b then -1 else g j
theorem frW_e {g : Nat → Int32} {a b : Nat} (h : b ≤ a) : frW g a b = g := by
  funext j; unfold frW; rw [if_neg (by omega)]
theorem frW_s {g : Nat → Int32} {a b : Nat} (h : a < b) : frW (ur g a (-1)) (a + 1) b = frW g a b := by
  funext j
  unfold frW
  by_cases e : j = a
  · rw [e, if_neg (by omega), if_pos (by omega), ur_at]
  · rw [ur_ne _ _ e]
    by_cases y : a ≤ j ∧ j < b
    · rw [if_pos y, if_pos (by omega)]
    · rw [if_neg y, if_neg (by omega)]
theorem l195_ok {F : MS → Option MS} : ∀ (d i k : Nat) (g : Nat → Int32), i + d = 6 → d < k → f_X11_init_L195 n (z + 83) F k (nI i) (mk z C (upr I (z + 84) g) J t u) = F (mk z C (upr I (z + 84) (frW g (85 + i) (85 + 6))) J t u) := by
  intro d
  induction d with
  | zero =>
    intro i k g hi hk
    obtain ⟨k, rfl⟩ : ∃ q, k = q + 1 := ⟨k - 1, by omega⟩
    rw [f_X11_init_L195]
    simp only [jn]
    rw [if_pos (show (6 : Int32) ≤ nI i from (nI_le' (a := 6) (by omega) (by omega)).mpr (by omega)), frW_e (by omega)]
  | succ d ih =>
    intro i k g hi hk
    obtain ⟨k, rfl⟩ : ∃ q, k = q + 1 := ⟨k - 1, by omega⟩
    rw [f_X11_init_L195]
    simp only [jn, bd]
    rw [if_neg (show ¬ (6 : Int32) ≤ nI i from fun y => by have := (nI_le' (a := 6) (by omega) (by omega)).mp y; omega), g83_0, n84, show (85 : Int32) + nI i = nI (85 + i) from nI_pl 85 i, ck_t (inb_nI (by omega) (by omega)), cl_nI (by omega), sI_mk, up2_upr, show nI i + (1 : Int32) = nI (i + 1) from nI_pl i 1, ih (i + 1) k _ (by omega) (by omega), show 85 + (i + 1) = 85 + i + 1 by omega, frW_s (by omega)]
theorem l219_ok {F : MS → Option MS} : ∀ (d i k : Nat) (g : Nat → Int32), i + d = 24 → d < k → f_X11_init_L219 n (z + 83) F k (nI i) (mk z C (upr I (z + 84) g) J t u) = F (mk z C (upr I (z + 84) (frW g (165 + i) (165 + 24))) J t u) := by
  intro d
  induction d with
  | zero =>
    intro i k g hi hk
    obtain ⟨k, rfl⟩ : ∃ q, k = q + 1 := ⟨k - 1, by omega⟩
    rw [f_X11_init_L219]
    simp only [jn]
    rw [if_pos (show (24 : Int32) ≤ nI i from (nI_le' (a := 24) (by omega) (by omega)).mpr (by omega)), frW_e (by omega)]
  | succ d ih =>
    intro i k g hi hk
    obtain ⟨k, rfl⟩ : ∃ q, k = q + 1 := ⟨k - 1, by omega⟩
    rw [f_X11_init_L219]
    simp only [jn, bd]
    rw [if_neg (show ¬ (24 : Int32) ≤ nI i from fun y => by have := (nI_le' (a := 24) (by omega) (by omega)).mp y; omega), g83_0, n84, show (165 : Int32) + nI i = nI (165 + i) from nI_pl 165 i, ck_t (inb_nI (by omega) (by omega)), cl_nI (by omega), sI_mk, up2_upr, show nI i + (1 : Int32) = nI (i + 1) from nI_pl i 1, ih (i + 1) k _ (by omega) (by omega), show 165 + (i + 1) = 165 + i + 1 by omega, frW_s (by omega)]
theorem l244_ok (hn : 100000 ≤ n) : ∀ (d i k : Nat) (g : Nat → Int32), i + d = 48 → d < k → f_X11_init_L244 n (z + 83) k (nI i) (mk z C (upr I (z + 84) g) J t u) = some (mk z C (upr I (z + 84) (cpR (frW g (240 + i) (240 + 48)) 0 1 340)) J t u) := by
  intro d
  induction d with
  | zero =>
    intro i k g hi hk
    obtain ⟨k, rfl⟩ : ∃ q, k = q + 1 := ⟨k - 1, by omega⟩
    have e := s_copyR (n := n) (z := z) (C := C) (I := upr I (z + 84) g) (J := J) (t := t) (u := u) hn (f := 0) (g := 1) (by omega) (by omega) (by omega)
    have e : f_X11_copy n (z + 83) (0 : Int32) (1 : Int32) (mk z C (upr I (z + 84) g) J t u) = _ := e
    rw [f_X11_init_L244]
    simp only [jn]
    rw [if_pos (show (48 : Int32) ≤ nI i from (nI_le' (a := 48) (by omega) (by omega)).mpr (by omega)), e, cv_some, frW_e (by omega), upr_at]
    congr 2
    funext b j
    by_cases y : b = z + 84
    · rw [y, upr_v, upr_v]
    · rw [upr_x y, upr_x y, upr_x y]
  | succ d ih =>
    intro i k g hi hk
    obtain ⟨k, rfl⟩ : ∃ q, k = q + 1 := ⟨k - 1, by omega⟩
    rw [f_X11_init_L244]
    simp only [jn, bd]
    rw [if_neg (show ¬ (48 : Int32) ≤ nI i from fun y => by have := (nI_le' (a := 48) (by omega) (by omega)).mp y; omega), g83_0, n84, show (240 : Int32) + nI i = nI (240 + i) from nI_pl 240 i, ck_t (inb_nI (by omega) (by omega)), cl_nI (by omega), sI_mk, up2_upr, show nI i + (1 : Int32) = nI (i + 1) from nI_pl i 1, ih (i + 1) k _ (by omega) (by omega), show 240 + (i + 1) = 240 + i + 1 by omega, frW_s (by omega)]
/-- what is clamped -/
theorem cl_ok (w : Int32) (lo hi : Nat) (h1 : lo < hi) (h2 : hi < 100) : ∃ W, lo ≤ W ∧ W ≤ hi ∧ imax (nI lo) (imin (nI hi) w) = nI W ∧ ((nI lo ≤ w ∧ w ≤ nI hi ∧ w = nI W) ∨ (nI lo ≤ w ∧ ¬ w ≤ nI hi ∧ nI hi = nI W) ∨ (¬ nI lo ≤ w ∧ nI lo = nI W)) := by
  have tl : (nI lo).toInt = lo := nI_t (by omega)
  have th : (nI hi).toInt = hi := nI_t (by omega)
  unfold imax imin
  by_cases a : nI lo ≤ w
  · by_cases b : w ≤ nI hi
    · have a' := i32_le.mp a
      have b' := i32_le.mp b
      obtain ⟨W, hW, rfl⟩ := nI_nm (N := hi + 1) (a := w) (by rw [i32_lt]; show ¬ w.toInt < 0; omega) (by rw [i32_le, nI_t (by omega)]; omega) (by omega)
      have tw : (nI W).toInt = W := nI_t (by omega)
      rw [tl, tw] at a'
      rw [tw, th] at b'
      refine ⟨W, by omega, by omega, ?_, Or.inl ⟨a, b, rfl⟩⟩
      by_cases e : nI W < nI hi
      · rw [if_pos e]
        by_cases e2 : nI lo < nI W
        · rw [if_pos e2]
        · rw [if_neg e2]
          rw [i32_lt, tl, tw] at e2
          rw [show lo = W by omega]
      · rw [if_neg e]
        rw [i32_lt, th, tw] at e
        rw [if_pos (by rw [i32_lt, tl, th]; omega), show hi = W by omega]
    · refine ⟨hi, by omega, Nat.le_refl _, ?_, Or.inr (Or.inl ⟨a, b, rfl⟩)⟩
      rw [i32_le] at b
      rw [if_neg (show ¬ w < nI hi by rw [i32_lt]; omega), if_pos (by rw [i32_lt, tl, th]; omega)]
  · refine ⟨lo, Nat.le_refl _, by omega, ?_, Or.inr (Or.inr ⟨a, rfl⟩)⟩
    rw [i32_le] at a
    rw [if_pos (show w < nI hi by rw [i32_lt]; omega), if_neg (by rw [i32_lt]; omega)]
end JR
