/-! THE CLASS BEGINS A TEXT -/
section BG
variable {n z C t r : Nat} {J : Nat → Nat → Int64} {L : Nat} {tp : Nat → Nat}
theorem empty_ok {I : Nat → Nat → Int32} {u : Option Nat} : ∃ I', f_X7_empty n (z + (97 + 6 * r)) (mk z C I J t u) = some (mk z C I' J t u) ∧ CkS z r I' [] ∧ I' (z + (97 + 6 * r)) 6 = 0 ∧ (∀ q, q ≠ z + (97 + 6 * r) → I' q = I q) := by
  refine ⟨up2 (up2 (up2 (up2 (up2 I (z + (97 + 6 * r)) 5 0) (z + (97 + 6 * r)) 6 0) (z + (97 + 6 * r)) 7 (-1)) (z + (97 + 6 * r)) 8 (-1)) (z + (97 + 6 * r)) 9 (-1), rfl, ⟨⟨?_, (fun i hi => absurd hi (Nat.not_lt_zero _)), fun s hs => Or.inl ⟨(fun w => by cases w), ?_⟩⟩, (fun i hi => absurd hi (Nat.not_lt_zero _)), by decide, (fun k hk => by cases hk)⟩, ?_, fun q hq => by rw [up2_ne hq, up2_ne hq, up2_ne hq, up2_ne hq, up2_ne hq]⟩
  · rw [up2_x (by omega), up2_x (by omega), up2_x (by omega), up2_x (by omega), up2_v]; rfl
  · have : s = 0 ∨ s = 1 ∨ s = 2 := by omega
    rcases this with rfl | rfl | rfl
    · rw [up2_x (by omega), up2_x (by omega), up2_v]
    · rw [up2_x (by omega), up2_v]
    · rw [up2_v]
  · rw [up2_x (by omega), up2_x (by omega), up2_x (by omega), up2_v]
theorem sR_17 {I : Nat → Nat → Int32} {u : Option Nat} {o : Nat} : sR (mk z C I J t u) (z + 17) 3 (some (z + o)) = mk z C I J t (some o) := by
  have e : up2 (fun a k => if a < z then none else (rO t u (a - z) k).map (fun o => z + o)) (z + 17) 3 (some (z + o)) = (fun a k => if a < z then none else (rO t (some o) (a - z) k).map (fun o => z + o)) := by
    funext a k
    by_cases q : a = z + 17 ∧ k = 3
    · obtain ⟨rfl, rfl⟩ := q
      rw [up2_v, if_neg (by omega), Nat.add_sub_cancel_left]
      rfl
    · rw [up2_x q]
      by_cases y : a < z
      · rw [if_pos y, if_pos y]
      · rw [if_neg y, if_neg y]
        have : rO t u (a - z) k = rO t (some o) (a - z) k := by
          unfold rO
          by_cases q22 : a - z = 22
          · rw [if_pos q22, if_pos q22]
          · have q17 : ¬ (a - z = 17 ∧ k = 3) := fun v => q ⟨by omega, v.2⟩
            rw [if_neg q22, if_neg q22, if_neg q17, if_neg q17]
        rw [this]
  unfold sR mk
  show (_, _, _, _, _, up2 _ _ _ _) = _
  rw [e]
end BG
