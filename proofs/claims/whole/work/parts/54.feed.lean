/-! THE TAPE: feed -/
theorem and255 (x : Int32) : ∃ v : Nat, v < 256 ∧ x &&& 255 = nI v := by
  refine ⟨(x.toBitVec &&& 255#32).toNat, ?_, ?_⟩
  · rw [BitVec.toNat_and]
    exact Nat.lt_of_le_of_lt Nat.and_le_right (by decide)
  · apply Int32.toBitVec_inj.mp
    show x.toBitVec &&& 255#32 = BitVec.ofNat 32 _
    rw [BitVec.ofNat_toNat, BitVec.setWidth_eq]
theorem sh_eq (x : Int32) (k : Int32) (hk : k = 24 ∨ k = 16 ∨ k = 8 ∨ k = 0) : iush x k &&& 255 = (x >>> (k &&& 31)) &&& 255 := by
  apply Int32.toBitVec_inj.mp
  apply BitVec.eq_of_getLsbD_eq
  intro i hi
  have hb : ∀ j, j < 32 → (255#32).getLsbD j = decide (j < 8) := by decide
  rcases hk with rfl | rfl | rfl | rfl
  · show (((x.toBitVec >>> 24) &&& 255#32).getLsbD i) = ((x.toBitVec.sshiftRight 24) &&& 255#32).getLsbD i
    simp only [BitVec.getLsbD_and, BitVec.getLsbD_ushiftRight, BitVec.getLsbD_sshiftRight, hb i hi]
    by_cases h8 : i < 8
    · simp [h8, show ¬ 32 ≤ i by omega, show 24 + i < 32 by omega]
    · simp [h8]
  · show (((x.toBitVec >>> 16) &&& 255#32).getLsbD i) = ((x.toBitVec.sshiftRight 16) &&& 255#32).getLsbD i
    simp only [BitVec.getLsbD_and, BitVec.getLsbD_ushiftRight, BitVec.getLsbD_sshiftRight, hb i hi]
    by_cases h8 : i < 8
    · simp [h8, show ¬ 32 ≤ i by omega, show 16 + i < 32 by omega]
    · simp [h8]
  · show (((x.toBitVec >>> 8) &&& 255#32).getLsbD i) = ((x.toBitVec.sshiftRight 8) &&& 255#32).getLsbD i
    simp only [BitVec.getLsbD_and, BitVec.getLsbD_ushiftRight, BitVec.getLsbD_sshiftRight, hb i hi]
    by_cases h8 : i < 8
    · simp [h8, show ¬ 32 ≤ i by omega, show 8 + i < 32 by omega]
    · simp [h8]
  · show (((x.toBitVec >>> 0) &&& 255#32).getLsbD i) = ((x.toBitVec.sshiftRight 0) &&& 255#32).getLsbD i
    simp only [BitVec.getLsbD_and, BitVec.getLsbD_ushiftRight, BitVec.getLsbD_sshiftRight, hb i hi]
    by_cases h8 : i < 8
    · simp [h8, show ¬ 32 ≤ i by omega]
    · simp [h8]
/-- byte j (from the left) of an int -/
def byt (a : Int32) (k : Int32) : Int32 := (a >>> (k &&& 31)) &&& 255
/-- one byte on: at place l of the row r, the length at (o, k) -/
def w1 (I : Nat → Nat → Int32) (r o k l : Nat) (b : Int32) : Nat → Nat → Int32 := up2 (up2 I r l b) o k (nI (l + 1))
theorem w1_o {I : Nat → Nat → Int32} {r o k l : Nat} {b : Int32} : w1 I r o k l b o k = nI (l + 1) := by simp [w1, up2]
theorem w1_r {I : Nat → Nat → Int32} {r o k l : Nat} {b : Int32} (h : r ≠ o) (j : Nat) : w1 I r o k l b r j = if j = l then b else I r j := by simp [w1, up2, h]
theorem w1_ne {I : Nat → Nat → Int32} {r o k l : Nat} {b : Int32} {q : Nat} (h : q ≠ r) (h2 : q ≠ o) : w1 I r o k l b q = I q := by
  funext j; simp [w1, up2, h, h2]
theorem w1_os {I : Nat → Nat → Int32} {r o k l : Nat} {b : Int32} (h : o ≠ r) {j : Nat} (hj : j ≠ k) : w1 I r o k l b o j = I o j := by simp [w1, up2, h, hj]
def w4 (I : Nat → Nat → Int32) (r o k l : Nat) (a : Int32) : Nat → Nat → Int32 := w1 (w1 (w1 (w1 I r o k l (byt a 24)) r o k (l + 1) (byt a 16)) r o k (l + 2) (byt a 8)) r o k (l + 3) (byt a 0)
theorem w4_o {I : Nat → Nat → Int32} {r o k l : Nat} {a : Int32} : w4 I r o k l a o k = nI (l + 4) := w1_o
theorem w4_ne {I : Nat → Nat → Int32} {r o k l : Nat} {a : Int32} {q : Nat} (h : q ≠ r) (h2 : q ≠ o) : w4 I r o k l a q = I q := by
  simp only [w4, w1_ne h h2]
theorem w4_os {I : Nat → Nat → Int32} {r o k l : Nat} {a : Int32} (h : o ≠ r) {j : Nat} (hj : j ≠ k) : w4 I r o k l a o j = I o j := by
  simp only [w4, w1_os h hj]
/-- the bytes of the row behind four -/
def b4 (f : Nat → Int32) (l : Nat) (a : Int32) : Nat → Int32 := fun j => if j = l + 3 then byt a 0 else if j = l + 2 then byt a 8 else if j = l + 1 then byt a 16 else if j = l then byt a 24 else f j
theorem w4_r {I : Nat → Nat → Int32} {r o k l : Nat} {a : Int32} (h : r ≠ o) : w4 I r o k l a r = b4 (I r) l a := by
  funext j
  simp only [w4, b4, w1_r h]
theorem b4_ok {f g : Nat → Int32} {l : Nat} (a : Int32) (h : ∀ i, i < l → f i = g i ∧ ∃ v : Nat, v < 256 ∧ g i = nI v) : ∀ i, i < l + 4 → b4 f l a i = b4 g l a i ∧ ∃ v : Nat, v < 256 ∧ b4 g l a i = nI v := by
  intro i hi
  unfold b4
  by_cases c3 : i = l + 3
  · simp only [if_pos c3]; exact ⟨trivial, and255 _⟩
  · by_cases c2 : i = l + 2
    · simp only [if_neg c3, if_pos c2]; exact ⟨trivial, and255 _⟩
    · by_cases c1 : i = l + 1
      · simp only [if_neg c3, if_neg c2, if_pos c1]; exact ⟨trivial, and255 _⟩
      · by_cases c0 : i = l
        · simp only [if_neg c3, if_neg c2, if_neg c1, if_pos c0]; exact ⟨trivial, and255 _⟩
        · simp only [if_neg c3, if_neg c2, if_neg c1, if_neg c0]; exact h i (by omega)
section FD
variable {n z C t : Nat} {I : Nat → Nat → Int32} {J : Nat → Nat → Int64} {u : Option Nat}
theorem four_step {k : Nat} {a x : Int32} {l : Nat} (hx : ¬ x < 0) (hl : l < 300) (h : I (z + 83) 7 = nI l) :
    f_X11_four_L3 n (z + 83) a (k + 1) x (mk z C I J t u) = f_X11_four_L3 n (z + 83) a k (x + (-8)) (mk z C (w1 I (z + 86) (z + 83) 7 l (byt a x)) J t u) := by
  rw [f_X11_four_L3]
  simp only [jn, bd, g83_6, n86, mI_mk, sI_mk]
  rw [if_neg hx, h, ck_t (inb_nI hl (by omega)), cl_nI (by omega), up2_ne (za 83 86 (by omega)), h, show nI l + (1 : Int32) = nI (l + 1) from nI_pl l 1]
  rfl
theorem s_four {a : Int32} {l : Nat} (hn : 100000 ≤ n) (hl : l + 4 ≤ 300) (h : I (z + 83) 7 = nI l) : f_X11_four n (z + 83) a (mk z C I J t u) = some (mk z C (w4 I (z + 86) (z + 83) 7 l a) J t u) := by
  unfold f_X11_four
  obtain ⟨m, rfl⟩ : ∃ m, n = m + 1 + 1 + 1 + 1 + 1 := ⟨n - 5, by omega⟩
  rw [four_step (by decide) (by omega) h, four_step (l := l + 1) (by decide) (by omega) w1_o, four_step (l := l + 2) (by decide) (by omega) w1_o, four_step (l := l + 3) (by decide) (by omega) w1_o, f_X11_four_L3]
  simp only [jn]
  rw [if_pos (by decide)]
  rfl
theorem add_step {k : Nat} {a x : Int32} {l : Nat} (hx : ¬ x < 0) (hs : x = 24 ∨ x = 16 ∨ x = 8 ∨ x = 0) (hl : l < 300) (h : I (z + 15) 1 = nI l) :
    f_X6_add_L3 n (z + 15) a (k + 1) x (mk z C I J t u) = f_X6_add_L3 n (z + 15) a k (x + (-8)) (mk z C (w1 I (z + 16) (z + 15) 1 l (byt a x)) J t u) := by
  rw [f_X6_add_L3]
  simp only [jn, bd, g15_0, n16, mI_mk, sI_mk]
  rw [if_neg hx, h, if_neg (show ¬ (300 : Int32) ≤ nI l by rw [show (300 : Int32) = nI 300 from rfl, nI_le' (by omega) (by omega)]; omega), ck_t (inb_nI hl (by omega)), cl_nI (by omega), up2_ne (za 15 16 (by omega)), h, show nI l + (1 : Int32) = nI (l + 1) from nI_pl l 1, sh_eq a x hs]
  rfl
theorem s_add {a : Int32} {l : Nat} (hn : 100000 ≤ n) (hl : l + 4 ≤ 300) (h : I (z + 15) 1 = nI l) : f_X6_add n (z + 15) a (mk z C I J t u) = some (mk z C (w4 I (z + 16) (z + 15) 1 l a) J t u) := by
  unfold f_X6_add
  obtain ⟨m, rfl⟩ : ∃ m, n = m + 1 + 1 + 1 + 1 + 1 := ⟨n - 5, by omega⟩
  rw [add_step (by decide) (by decide) (by omega) h, add_step (l := l + 1) (by decide) (by decide) (by omega) w1_o, add_step (l := l + 2) (by decide) (by decide) (by omega) w1_o, add_step (l := l + 3) (by decide) (by decide) (by omega) w1_o, f_X6_add_L3]
  simp only [jn]
  rw [if_pos (by decide)]
  rfl
/-- five ints on -/
def w20 (I : Nat → Nat → Int32) (r o k l : Nat) (a b c d e : Int32) : Nat → Nat → Int32 := w4 (w4 (w4 (w4 (w4 I r o k l a) r o k (l + 4) b) r o k (l + 8) c) r o k (l + 12) d) r o k (l + 16) e
theorem op_feed' (hn : 100000 ≤ n) (h : TapeR (I (z + 15) 1) (I (z + 83) 7) (I (z + 16)) (I (z + 86))) (a b c d e : Int32) :
    (f_X10_feed n z a b c d e (mk z C I J t u) = some (-1, mk z C I J t u) ∧ f_X11_feed n (z + 83) a b c d e (mk z C I J t u) = some (-1, mk z C I J t u)) ∨
    (∃ (l : Nat) (I2 : Nat → Nat → Int32), I2 = w20 (w20 I (z + 16) (z + 15) 1 l a b c d e) (z + 86) (z + 83) 7 l a b c d e ∧ TapeR (I2 (z + 15) 1) (I2 (z + 83) 7) (I2 (z + 16)) (I2 (z + 86)) ∧
      f_X10_feed n z a b c d e (mk z C I J t u) = some (nI (l + 20), mk z C (w20 I (z + 16) (z + 15) 1 l a b c d e) J t u) ∧ f_X11_feed n (z + 83) a b c d e (mk z C (w20 I (z + 16) (z + 15) 1 l a b c d e) J t u) = some (nI (l + 20), mk z C I2 J t u)) := by
  obtain ⟨l, hl, h1, h2, h3⟩ := h
  have e20 : nI l + (20 : Int32) = nI (l + 20) := nI_pl l 20
  have hc : (nI (l + 20) ≤ (300 : Int32)) ↔ l + 20 ≤ 300 := by rw [show (300 : Int32) = nI 300 from rfl, nI_le' (by omega) (by omega)]
  have a1 : z + 16 ≠ z + 15 := by omega
  have a2 : z + 86 ≠ z + 83 := by omega
  by_cases c1 : l + 20 ≤ 300
  · right
    refine ⟨l, _, rfl, ?_, ?_, ?_⟩
    · refine ⟨l + 20, c1, ?_, ?_, ?_⟩
      · simp only [w20, w4_ne (za 15 86 (by omega)) (za 15 83 (by omega)), w4_o]
      · exact w4_o
      · simp only [w20, w4_ne (za 16 86 (by omega)) (za 16 83 (by omega)), w4_ne (za 86 16 (by omega)) (za 86 15 (by omega)), w4_r a1, w4_r a2]
        exact b4_ok e (b4_ok d (b4_ok c (b4_ok b (b4_ok a h3))))
    · unfold f_X10_feed
      simp only [g0z_5, mI_mk]
      rw [h1, e20, if_pos (hc.mpr c1), s_add hn (by omega) h1, cv_some]
      simp only [g0z_5]
      rw [s_add (l := l + 4) hn (by omega) w4_o, cv_some]
      simp only [g0z_5]
      rw [s_add (l := l + 8) hn (by omega) w4_o, cv_some]
      simp only [g0z_5]
      rw [s_add (l := l + 12) hn (by omega) w4_o, cv_some]
      simp only [g0z_5]
      rw [s_add (l := l + 16) hn (by omega) w4_o, cv_some]
      simp only [g0z_5, mI_mk]
      rw [w4_o]
      rfl
    · unfold f_X11_feed
      have h9 : w20 I (z + 16) (z + 15) 1 l a b c d e (z + 83) 7 = nI l := by
        simp only [w20, w4_ne (za 83 16 (by omega)) (za 83 15 (by omega)), h2]
      rw [if_pos (show mI (mk z C (w20 I (z + 16) (z + 15) 1 l a b c d e) J t u) (z + 83) 7 + (20 : Int32) ≤ 300 by rw [mI_mk, h9, e20]; exact hc.mpr c1), s_four hn (by omega) h9, cv_some, s_four (l := l + 4) hn (by omega) w4_o, cv_some, s_four (l := l + 8) hn (by omega) w4_o, cv_some, s_four (l := l + 12) hn (by omega) w4_o, cv_some, s_four (l := l + 16) hn (by omega) w4_o, cv_some, mI_mk, w4_o]
      rfl
  · left
    constructor
    · unfold f_X10_feed
      simp only [g0z_5, mI_mk]
      rw [h1, e20, if_neg (fun q => c1 (hc.mp q))]
    · unfold f_X11_feed
      rw [if_neg (show ¬ mI (mk z C I J t u) (z + 83) 7 + (20 : Int32) ≤ 300 by rw [mI_mk, h2, e20]; exact fun q => c1 (hc.mp q))]
end FD
