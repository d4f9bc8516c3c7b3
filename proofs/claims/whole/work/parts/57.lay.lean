/-! WELL, BONE, STAKE: the calls of both systems -/
section LY
variable {n z C t : Nat} {I : Nat → Nat → Int32} {J : Nat → Nat → Int64} {u : Option Nat}
theorem in_r {a lo hi : Int32} : (lo ≤ a ∧ a ≤ hi) ↔ (¬ a < lo ∧ ¬ hi < a) := by
  rw [i32_le, i32_le, i32_lt, i32_lt]; omega
/-- well(cell, is) -/
theorem op_well' (hC : C ≤ 48) (hg : I (z + 30) 2 = nI C) (hm : I (z + 83) 3 = nI C) (a b : Int32) (hb : b = 0 ∨ b = 1) :
    (f_X10_well n z a b (mk z C I J t u) = some (0, mk z C I J t u) ∧ f_X11_well n (z + 83) a b (mk z C I J t u) = some (0, mk z C I J t u)) ∨
    (∃ (c : Nat) (x : Int64), c < C ∧ (∀ j, j < 64 → bt x j = if j = c then decide (b = 1) else bt (J (z + 32) 9) j) ∧
      f_X10_well n z a b (mk z C I J t u) = some (1, mk z C I (up2 J (z + 32) 9 x) t u) ∧ f_X11_well n (z + 83) a b (mk z C I (up2 J (z + 32) 9 x) t u) = some (1, mk z C (up2 I (z + 84) (190 + c) b) (up2 J (z + 32) 9 x) t u)) := by
  by_cases c1 : ¬ a < 0 ∧ ¬ nI C ≤ a
  · right
    obtain ⟨c, hc, rfl⟩ := nI_nm c1.1 c1.2 (by omega)
    have e1 : (190 : Int32) + nI c = nI (190 + c) := nI_pl 190 c
    rcases hb with rfl | rfl
    · refine ⟨c, J (z + 32) 9 &&& (lsh 1 (nI c) ^^^ (-1)), hc, ?_, ?_, ?_⟩
      · intro j hj
        rw [bt_and, bt_not _ hj, bt_lsh (by omega)]
        by_cases h : j = c <;> simp [h]
      · unfold f_X10_well
        simp only [g0z_0, g0z_1, s_holds, cl_some, ite_bI, bd, sJ_mk, mJ_mk, zb_1]
        rw [if_pos (show _ from by rw [mI_mk, hg]; exact c1), if_pos trivial]
      · unfold f_X11_well
        rw [s_isCellR _ hm (by omega), cl_some, ite_bI, if_pos c1, g83_0, if_pos rfl, n84, e1, ck_t (inb_nI (by omega) (by omega)), cl_nI (by omega)]
        simp only [bd, sI_mk, zb_1]
    · refine ⟨c, J (z + 32) 9 ||| lsh 1 (nI c), hc, ?_, ?_, ?_⟩
      · intro j hj
        rw [bt_or, bt_lsh (by omega)]
        by_cases h : j = c <;> simp [h]
      · unfold f_X10_well
        simp only [g0z_0, g0z_1, s_holds, cl_some, ite_bI, bd, sJ_mk, mJ_mk, zb_1]
        rw [if_pos (show _ from by rw [mI_mk, hg]; exact c1), if_neg (by decide)]
      · unfold f_X11_well
        rw [s_isCellR _ hm (by omega), cl_some, ite_bI, if_pos c1, g83_0, if_neg (by decide), n84, e1, ck_t (inb_nI (by omega) (by omega)), cl_nI (by omega)]
        simp only [bd, sI_mk, zb_1]
  · left
    constructor
    · unfold f_X10_well
      simp only [g0z_0, s_holds, cl_some, ite_bI, zb_0]
      rw [if_neg (show ¬ _ from by rw [mI_mk, hg]; exact c1)]
    · unfold f_X11_well
      rw [s_isCellR _ hm (by omega), cl_some, ite_bI, if_neg c1, zb_0]
theorem staked_L {a : Int32} (h4 : I (z + 83) 4 = 0) : ∀ (d f k : Nat), f + d = 6 → d < k → ∃ r, f_X11_isStaked_L2 n (z + 83) a k (nI f) (mk z C I J t u) = some (r, mk z C I J t u) ∧ ((r = 0 ∧ ∀ g, f ≤ g → g < 6 → I (z + 84) (85 + g) ≠ a) ∨ (r = 1 ∧ ∃ g, g < 6 ∧ I (z + 84) (85 + g) = a)) := by
  intro d
  induction d with
  | zero =>
    intro f k hf hk
    obtain ⟨k, rfl⟩ : ∃ m, k = m + 1 := ⟨k - 1, by omega⟩
    obtain rfl : f = 6 := by omega
    refine ⟨0, ?_, Or.inl ⟨rfl, fun g h1 h2 => by omega⟩⟩
    rw [f_X11_isStaked_L2]
    simp only [jn, zb_0]
    rw [if_pos (by decide)]
  | succ d ih =>
    intro f k hf hk
    obtain ⟨k, rfl⟩ : ∃ m, k = m + 1 := ⟨k - 1, by omega⟩
    have e1 : ((0 : Int32) + 85) + nI f = nI (85 + f) := nI_pl 85 f
    have e2 : nI f + (1 : Int32) = nI (f + 1) := nI_pl f 1
    obtain ⟨r, h1, h2⟩ := ih (f + 1) k (by omega) (by omega)
    rw [f_X11_isStaked_L2]
    simp only [jn, bd]
    rw [if_neg (show ¬ (6 : Int32) ≤ nI f by rw [show (6 : Int32) = nI 6 from rfl, nI_le' (by omega) (by omega)]; omega), g83_0, n84, mI_mk, h4, e1, ck_t (inb_nI (by omega) (by omega)), cl_nI (by omega), e2]
    by_cases c1 : I (z + 84) (85 + f) = a
    · refine ⟨1, ?_, Or.inr ⟨rfl, f, by omega, c1⟩⟩
      rw [if_pos (show mI (mk z C I J t u) (z + 84) (85 + f) = a from c1), zb_1]
    · refine ⟨r, ?_, h2.imp (fun q => ⟨q.1, fun g g1 g2 => ?_⟩) id⟩
      · rw [if_neg (show ¬ mI (mk z C I J t u) (z + 84) (85 + f) = a from c1)]; exact h1
      · by_cases hgf : g = f
        · subst hgf; exact c1
        · exact q.2 g (by omega) g2
theorem s_isStaked {a : Int32} (hn : 100000 ≤ n) (h4 : I (z + 83) 4 = 0) : ∃ r, f_X11_isStaked n (z + 83) a (mk z C I J t u) = some (r, mk z C I J t u) ∧ ((r = 0 ∧ ∀ g, g < 6 → I (z + 84) (85 + g) ≠ a) ∨ (r = 1 ∧ ∃ g, g < 6 ∧ I (z + 84) (85 + g) = a)) := by
  obtain ⟨r, h1, h2⟩ := staked_L (n := n) (C := C) (J := J) (t := t) (u := u) (a := a) h4 6 0 n rfl (by omega)
  exact ⟨r, h1, h2.imp (fun q => ⟨q.1, fun g hg => q.2 g (Nat.zero_le _) hg⟩) id⟩
/-- isFree(c) of the reference's first row -/
theorem s_isFree {c : Nat} (hc : c < 48) (hn : 100000 ≤ n) (h4 : I (z + 83) 4 = 0) : ∃ r, f_X11_isFree n (z + 83) (nI c) (mk z C I J t u) = some (r, mk z C I J t u) ∧ ((r = 1 ∧ I (z + 84) (290 + c) = 0 ∧ ∀ g, g < 6 → I (z + 84) (85 + g) ≠ nI c) ∨ (r = 0 ∧ ¬ (I (z + 84) (290 + c) = 0 ∧ ∀ g, g < 6 → I (z + 84) (85 + g) ≠ nI c))) := by
  have e1 : ((0 : Int32) + 290) + nI c = nI (290 + c) := nI_pl 290 c
  unfold f_X11_isFree
  rw [g83_0, n84, mI_mk, h4, e1, ck_t (inb_nI (by omega) (by omega)), cl_nI (by omega)]
  by_cases c1 : I (z + 84) (290 + c) = 0
  · rw [if_pos (show mI (mk z C I J t u) (z + 84) (290 + c) = 0 from c1)]
    obtain ⟨r, h1, h2⟩ := s_isStaked (C := C) (J := J) (t := t) (u := u) (a := nI c) hn h4
    rw [h1, cl_some]
    rcases h2 with ⟨rfl, h2⟩ | ⟨rfl, g, hg, h2⟩
    · exact ⟨1, by rw [if_pos rfl, zb_1], Or.inl ⟨rfl, c1, h2⟩⟩
    · exact ⟨0, by rw [if_neg (by decide), zb_0], Or.inr ⟨rfl, fun q => q.2 g hg h2⟩⟩
  · rw [if_neg (show ¬ mI (mk z C I J t u) (z + 84) (290 + c) = 0 from c1), zb_0]
    exact ⟨0, rfl, Or.inr ⟨rfl, fun q => c1 q.1⟩⟩
theorem s_isOpen {o : Nat} (ho : isP o) (hg : I (z + 30) 2 = nI C) (hC : C ≤ 48) (a : Int32) : (¬ (¬ a < 0 ∧ ¬ nI C ≤ a) ∧ f_X3_isOpen n (z + o) a (mk z C I J t u) = some (0, mk z C I J t u)) ∨ ∃ c, c < C ∧ a = nI c ∧ f_X3_isOpen n (z + o) a (mk z C I J t u) = some (bI (bt (J (z + o) 10) c = false ∧ bt (J (z + o) 11) c = false), mk z C I J t u) := by
  unfold f_X3_isOpen
  simp only [gP_0 ho, s_holds, cl_some, ite_bI]
  by_cases c1 : ¬ a < 0 ∧ ¬ nI C ≤ a
  · right
    obtain ⟨c, hc, rfl⟩ := nI_nm c1.1 c1.2 (by omega)
    refine ⟨c, hc, rfl, ?_⟩
    rw [if_pos (show _ from by rw [mI_mk, hg]; exact c1), mJ_mk, mJ_mk]
    have hb := bit_0 (J (z + o) 10 ||| J (z + o) 11) (c := c) (by omega)
    rw [bt_or, Bool.or_eq_false_iff] at hb
    unfold bI
    by_cases c2 : bt (J (z + o) 10) c = false ∧ bt (J (z + o) 11) c = false
    · rw [if_pos (hb.mpr c2), if_pos c2, zb_1]
    · rw [if_neg (fun q => c2 (hb.mp q)), if_neg c2, zb_0]
  · left
    refine ⟨c1, ?_⟩
    rw [if_neg (show ¬ _ from by rw [mI_mk, hg]; exact c1), zb_0]
end LY
