/-! THE CLASS BEGINS A TEXT, whole -/
section BH
variable {n z C t r : Nat} {J : Nat → Nat → Int64} {L : Nat} {tp : Nat → Nat}
theorem begin_ok (hn : 100000 ≤ n) (hr : r < t) {I : Nat → Nat → Int32} {u : Option Nat} (hT : TpC z L tp I) : ∃ N so I', f_X4_begin n (z + 17) (z + 15) (some (z + (97 + 6 * r))) (mk z C I J t u) = some (mk z C I' J t (some (97 + 6 * r))) ∧ OkSt z r N so (tkT L tp) (psT L tp) I' 0 [] ∧ CkS z r I' [] ∧ (∀ q, (q < z + 17 ∨ z + 21 < q) → q ≠ z + (97 + 6 * r) → I' q = I q) := by
  obtain ⟨I2, e2, c2, o2, f2⟩ := empty_ok (n := n) (z := z) (C := C) (t := t) (r := r) (J := J) (I := up2 (up2 I (z + 17) 0 0) (z + 17) 1 (-1)) (u := some (97 + 6 * r))
  have hT2 : TpC z L tp I2 := by
    obtain ⟨h1, h2, h3⟩ := hT
    exact ⟨by rw [f2 _ (by omega), up2_ne (by omega), up2_ne (by omega)]; exact h1, h2, fun j hj => by rw [f2 _ (by omega), up2_ne (by omega), up2_ne (by omega)]; exact h3 j hj⟩
  obtain ⟨N, I3, e3, t3, f3⟩ := cut_ok (n := n) (z := z) (C := C) (t := t) (u := some (97 + 6 * r)) (J := J) hn hT2
  have h19 := (t3.2.2.2 0 (Nat.zero_le _)).2.2.2.1
  obtain ⟨so, hso⟩ := nmK_any (I3 (z + 17) 6)
  have f3' : ∀ q, (q < z + 18 ∨ z + 21 < q) → I3 q = I2 q := fun q hq => f3 q (by omega) (by omega) (by omega) (by omega)
  refine ⟨N, so, up2 (up2 I3 (z + 17) 4 0) (z + 17) 5 (nI (tkT L tp 0).1), ?_, ⟨t3.frp (r := r) (fun q p1 p2 => by rw [up2_ne (by omega), up2_ne (by omega)]), ?_, Nat.zero_le _, by decide, ?_, ?_, ?_, up2_v, ?_, fun j hj => absurd hj (Nat.not_lt_zero _)⟩, ?_, fun q hq hq2 => ?_⟩
  · unfold f_X4_begin
    simp only [bd]
    rw [sI_mk, sI_mk, sR_17, gU hr, e2, cv_some, g17_2, e3, cv_some, sI_mk, g17_2, g18_0, n19, ck_t (by decide), show mI (mk z C (up2 I3 (z + 17) 4 0) J t (some (97 + 6 * r))) (z + 19) (0 : Int32).toNatClampNeg = nI (tkT L tp 0).1 from (by rw [mI_mk, up2_ne (by omega)]; exact h19), sI_mk]
  · rw [up2_x (by omega), up2_x (by omega)]; exact hso
  · rw [up2_x (by omega), up2_x (by omega), f3' _ (by omega), f2 _ (by omega), up2_x (by omega), up2_v]
  · rw [up2_x (by omega), up2_x (by omega), f3' _ (by omega), f2 _ (by omega), up2_v]
  · rw [up2_x (by omega), up2_v]; rfl
  · rw [up2_ne (by omega), up2_ne (by omega), f3' _ (by omega)]; exact o2
  · obtain ⟨⟨a1, a2, a3⟩, b, c, d⟩ := c2
    have g : ∀ q, z + 21 < q → up2 (up2 I3 (z + 17) 4 0) (z + 17) 5 (nI (tkT L tp 0).1) q = I2 q := fun q hq => by rw [up2_ne (by omega), up2_ne (by omega)]; exact f3' q (by omega)
    refine ⟨⟨by rw [g _ (by omega)]; exact a1, (fun i hi => absurd hi (Nat.not_lt_zero _)), fun s hs => by rw [g _ (by omega)]; exact a3 s hs⟩, (fun i hi => absurd hi (Nat.not_lt_zero _)), c, d⟩
  · rw [up2_ne (by omega), up2_ne (by omega), f3' _ (by omega), f2 _ hq2, up2_ne (by omega), up2_ne (by omega)]
end BH
