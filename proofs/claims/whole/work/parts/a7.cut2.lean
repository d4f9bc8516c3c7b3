/-! THE CLASS CUTS A TEXT, whole -/
section CU
variable {n z C t : Nat} {u : Option Nat} {J : Nat → Nat → Int64} {L : Nat} {tp : Nat → Nat}
def TkP (z m : Nat) (I : Nat → Nat → Int32) (tk : Nat → Nat × Nat) (pl : Nat → Nat) : Prop := I (z + 18) 3 = nI m ∧ ∀ i, i < m → I (z + 19) i = nI (tk i).1 ∧ I (z + 20) i = nI (pl i) ∧ I (z + 21) i = nI (tk i).2
def FrK (z : Nat) (I I' : Nat → Nat → Int32) : Prop := ∀ q, q ≠ z + 18 → q ≠ z + 19 → q ≠ z + 20 → q ≠ z + 21 → I' q = I q
theorem add_t {tk : Nat → Nat × Nat} {pl : Nat → Nat} {I : Nat → Nat → Int32} {m : Nat} (h : TkP z m I tk pl) (hm : m < 301) : ∃ I', f_X0_add n (z + 18) (nI (tk m).1) (nI (pl m)) (nI (tk m).2) (mk z C I J t u) = some (mk z C I' J t u) ∧ TkP z (m + 1) I' tk pl ∧ FrK z I I' := by
  obtain ⟨h1, h2⟩ := h
  have m3 : mI (mk z C I J t u) (z + 18) 3 = nI m := h1
  refine ⟨up2 (up2 (up2 (up2 I (z + 19) m (nI (tk m).1)) (z + 20) m (nI (pl m))) (z + 21) m (nI (tk m).2)) (z + 18) 3 (nI (m + 1)), ?_, ⟨?_, fun i hi => ?_⟩, fun q a b c d => by rw [up2_ne a, up2_ne d, up2_ne c, up2_ne b]⟩
  · unfold f_X0_add
    simp only [bd]
    have e1 : mI (mk z C (up2 I (z + 19) m (nI (tk m).1)) J t u) (z + 18) 3 = nI m := by rw [mI_mk, up2_ne (by omega)]; exact h1
    have e2 : mI (mk z C (up2 (up2 I (z + 19) m (nI (tk m).1)) (z + 20) m (nI (pl m))) J t u) (z + 18) 3 = nI m := by rw [mI_mk, up2_ne (by omega), up2_ne (by omega)]; exact h1
    have e3 : mI (mk z C (up2 (up2 (up2 I (z + 19) m (nI (tk m).1)) (z + 20) m (nI (pl m))) (z + 21) m (nI (tk m).2)) J t u) (z + 18) 3 = nI m := by rw [mI_mk, up2_ne (by omega), up2_ne (by omega), up2_ne (by omega)]; exact h1
    rw [g18_0, n19, m3, if_neg (show ¬ Int32.ofNat 301 ≤ nI m from fun w => by have := (nI_le' (a := 301) (by omega) (by omega)).mp w; omega), g18_0, n19, ck_t (inb_nI (by omega) (by omega)), cl_nI (by omega), sI_mk, g18_1, n20, e1, ck_t (inb_nI (by omega) (by omega)), cl_nI (by omega), sI_mk, g18_2, n21, e2, ck_t (inb_nI (by omega) (by omega)), cl_nI (by omega), sI_mk, e3, show nI m + (1 : Int32) = nI (m + 1) from nI_pl m 1, sI_mk]
  · rw [up2_r, ur_at]
  · rw [up2_ne (by omega), up2_ne (by omega), up2_ne (by omega), up2_r, up2_ne (show z + 20 ≠ z + 18 by omega), up2_ne (show z + 20 ≠ z + 21 by omega), up2_r, up2_ne (show z + 20 ≠ z + 19 by omega), up2_ne (show z + 21 ≠ z + 18 by omega), up2_r, up2_ne (show z + 21 ≠ z + 20 by omega), up2_ne (show z + 21 ≠ z + 19 by omega)]
    by_cases e : i = m
    · rw [e, ur_at, ur_at, ur_at]; exact ⟨rfl, rfl, rfl⟩
    · rw [ur_ne _ _ e, ur_ne _ _ e, ur_ne _ _ e]; exact h2 i (by omega)
theorem TpC.frc {I I' : Nat → Nat → Int32} (h : TpC z L tp I) (f : FrK z I I') : TpC z L tp I' := by
  obtain ⟨h1, h2, h3⟩ := h
  exact ⟨by rw [f _ (by omega) (by omega) (by omega) (by omega)]; exact h1, h2, fun j hj => by rw [f _ (by omega) (by omega) (by omega) (by omega)]; exact h3 j hj⟩
theorem cut_L (hn : 100000 ≤ n) : ∀ (d p m x k : Nat) (I : Nat → Nat → Int32), L - p ≤ d → d < k → p ≤ L → skP L tp p = psT L tp m → x ≤ p → m ≤ p → TpC z L tp I → TkP z m I (tkT L tp) (psT L tp) → ∃ N I', f_X0_cut_L9 n (z + 18) (z + 15) k (nI p) (nI x) (mk z C I J t u) = some (mk z C I' J t u) ∧ TkP z (N + 1) I' (tkT L tp) (psT L tp) ∧ FrK z I I' ∧ m ≤ N ∧ N ≤ 300 ∧ (tkT L tp N).1 = 39 ∧ (∀ i, m ≤ i → i < N → (tkT L tp i).1 ≠ 39) := by
  intro d
  have fin : ∀ (p m x k : Nat) (I : Nat → Nat → Int32), 0 < k → p = L → skP L tp p = psT L tp m → x ≤ p → m ≤ p → TpC z L tp I → TkP z m I (tkT L tp) (psT L tp) → ∃ N I', f_X0_cut_L9 n (z + 18) (z + 15) k (nI p) (nI x) (mk z C I J t u) = some (mk z C I' J t u) ∧ TkP z (N + 1) I' (tkT L tp) (psT L tp) ∧ FrK z I I' ∧ m ≤ N ∧ N ≤ 300 ∧ (tkT L tp N).1 = 39 ∧ (∀ i, m ≤ i → i < N → (tkT L tp i).1 ≠ 39) := by
    intro p m x k I hk hp hs hx hm hT hP
    obtain ⟨k', rfl⟩ : ∃ k', k = k' + 1 := ⟨k - 1, by omega⟩
    obtain ⟨h1, h2, h3⟩ := id hT
    have m1 : mI (mk z C I J t u) (z + 15) 1 = nI L := h1
    have hps : psT L tp m = L := by rw [← hs, hp]; exact runE_e (by omega)
    have htk : tkT L tp m = (39, 0) := by unfold tkT; rw [lx_end (by omega)]
    obtain ⟨I', e, a, b⟩ := add_t (n := n) (C := C) (J := J) (t := t) (u := u) hP (by omega)
    rw [htk, hps] at e
    refine ⟨m, I', ?_, a, b, Nat.le_refl _, by omega, by rw [htk], fun i _ _ => by omega⟩
    rw [f_X0_cut_L9]
    simp only [jn, bd]
    rw [m1]
    by_cases y : 300 ≤ x
    · rw [if_pos (show (300 : Int32) ≤ nI x from (nI_le' (a := 300) (by omega) (by omega)).mpr y)]
      exact (congrArg (fun o => cv o fun S8 => some S8) e)
    · rw [if_neg (show ¬ (300 : Int32) ≤ nI x from fun w => y ((nI_le' (a := 300) (by omega) (by omega)).mp w)), if_pos (show nI L ≤ nI p by rw [hp]; exact (nI_le' (by omega) (by omega)).mpr (Nat.le_refl _))]
      exact (congrArg (fun o => cv o fun S8 => some S8) e)
  induction d with
  | zero => intro p m x k I hd hk hp hs hx hm hT hP; exact fin p m x k I (by omega) (by omega) hs hx hm hT hP
  | succ d ih =>
    intro p m x k I hd hk hp hs hx hm hT hP
    by_cases hpL : p = L
    · exact fin p m x k I (by omega) hpL hs hx hm hT hP
    obtain ⟨k', rfl⟩ : ∃ k', k = k' + 1 := ⟨k - 1, by omega⟩
    obtain ⟨h1, h2, h3⟩ := id hT
    have hb : ∀ j, j < L → tp j < 256 := fun j hj => (h3 j hj).2
    obtain ⟨b1, b2⟩ := h3 p (by omega)
    have m1 : mI (mk z C I J t u) (z + 15) 1 = nI L := h1
    have ex : nI x + (1 : Int32) = nI (x + 1) := nI_pl x 1
    have ep : nI p + (1 : Int32) = nI (p + 1) := nI_pl p 1
    rw [f_X0_cut_L9]
    simp only [jn, bd]
    rw [m1, if_neg (show ¬ (300 : Int32) ≤ nI x from fun w => by have := (nI_le' (a := 300) (by omega) (by omega)).mp w; omega), if_neg (show ¬ nI L ≤ nI p from fun w => by have := (nI_le' (by omega) (by omega)).mp w; omega), g15_0, n16, ck_t (inb_nI (by omega) (by omega)), cl_nI (by omega), mI_mk, b1, ep, ex]
    by_cases sp : spB (tp p) = true
    · have hsk : skP L tp (p + 1) = psT L tp m := by rw [← hs]; exact (runE_s (by omega) sp).symm
      have go := ih (p + 1) m (x + 1) k' I (by omega) (by omega) (by omega) hsk (by omega) (by omega) hT hP
      have : tp p = 32 ∨ tp p = 10 := of_decide_eq_true sp
      by_cases y : tp p = 32
      · rw [if_pos (show nI (tp p) = (32 : Int32) by rw [y]; rfl)]; exact go
      · rw [if_neg (show ¬ nI (tp p) = (32 : Int32) from fun w => y ((nI_inj (by omega) (by omega)).mp (show nI (tp p) = nI 32 from w))), if_pos (show nI (tp p) = (10 : Int32) by rw [show tp p = 10 by omega]; rfl)]; exact go
    · have n32 : ¬ (tp p = 32 ∨ tp p = 10) := fun w => sp (decide_eq_true w)
      have hpp : psT L tp m = p := by rw [← hs]; exact runE_e (fun w => sp w.2)
      rw [if_neg (show ¬ nI (tp p) = (32 : Int32) from fun w => n32 (Or.inl ((nI_inj (by omega) (by omega)).mp (show nI (tp p) = nI 32 from w)))), if_neg (show ¬ nI (tp p) = (10 : Int32) from fun w => n32 (Or.inr ((nI_inj (by omega) (by omega)).mp (show nI (tp p) = nI 10 from w)))), cut_1 hn hT (by omega) (K := fun x20 S21 => f_X0_cut_L9 n (z + 18) (z + 15) k' x20 (nI (x + 1)) S21)]
      obtain ⟨I1, e, a, b⟩ := add_t (n := n) (C := C) (J := J) (t := t) (u := u) hP (by omega)
      have htk : tkT L tp m = (lx L tp p).1 := by unfold tkT; rw [hpp]
      rw [htk, hpp] at e
      rw [e, cv_some]
      obtain ⟨l1, l2, -, l4, -⟩ := lx_b hb (show p < L by omega)
      obtain ⟨N, I2, r1, r2, r3, r4, r5, r6, r7⟩ := ih (lx L tp p).2 (m + 1) (x + 1) k' I1 (by omega) (by omega) l2 (by show skP L tp (lx L tp p).2 = skP L tp (lx L tp (psT L tp m)).2; rw [hpp]) (by omega) (by omega) (hT.frc b) a
      refine ⟨N, I2, r1, r2, fun q a1 a2 a3 a4 => (r3 q a1 a2 a3 a4).trans (b q a1 a2 a3 a4), by omega, r5, r6, fun i i1 i2 => ?_⟩
      by_cases im : i = m
      · rw [im, htk]; exact l4
      · exact r7 i (by omega) i2
theorem cut_ok (hn : 100000 ≤ n) {I : Nat → Nat → Int32} (hT : TpC z L tp I) : ∃ N I', f_X0_cut n (z + 18) (z + 15) (mk z C I J t u) = some (mk z C I' J t u) ∧ TkC z N I' (tkT L tp) (psT L tp) ∧ FrK z I I' := by
  obtain ⟨h1, h2, h3⟩ := id hT
  have hb : ∀ j, j < L → tp j < 256 := fun j hj => (h3 j hj).2
  have f0 : FrK z I (up2 I (z + 18) 3 0) := fun q a _ _ _ => up2_ne a
  obtain ⟨N, I', e, a, b, -, r5, r6, r7⟩ := cut_L (n := n) (z := z) (C := C) (t := t) (u := u) (J := J) (L := L) (tp := tp) hn L 0 0 0 n (up2 I (z + 18) 3 0) (by omega) (by omega) (by omega) rfl (by omega) (by omega) (hT.frc f0) ⟨by rw [up2_r, ur_at]; rfl, fun i hi => by omega⟩
  refine ⟨N, I', ?_, ⟨r5, r6, fun i hi => r7 i (by omega) hi, fun i hi => ?_⟩, fun q a1 a2 a3 a4 => (b q a1 a2 a3 a4).trans (f0 q a1 a2 a3 a4)⟩
  · unfold f_X0_cut
    simp only [bd]
    rw [sI_mk]; exact e
  · have hp := psT_b hb i
    obtain ⟨c1, c2, c3⟩ := a.2 i (by omega)
    refine ⟨?_, ?_, by omega, c1, c2, c3⟩
    · by_cases q : psT L tp i < L
      · exact (lx_b hb q).2.2.1
      · unfold tkT; rw [lx_end (by omega)]; show 39 ≤ 40; omega
    · by_cases q : psT L tp i < L
      · exact (lx_b hb q).2.2.2.2
      · unfold tkT; rw [lx_end (by omega)]; show 0 ≤ 10000; omega
end CU
