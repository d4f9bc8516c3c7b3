/-! THE CLASS BEGINS A TEXT -/
section BG
variable {n z C t r : Nat} {J : Nat → Nat → Int64} {L : Nat} {tp : Nat → Nat}
theorem empty_ok {I : Nat → Nat → Int32} {u : Option Nat} : ∃ I', f_X7_empty n (z + (97 + 6 * r)) (mk z C I J t u) = some (mk z C I' J t u) ∧ CkS z r I' [] ∧ I' (z + (97 + 6 * r)) 6 = 0 ∧ (∀ q, q ≠ z + (97 + 6 * r) → I' q = I q) := by
  refine ⟨up2 (up2 (up2 (up2 (up2 I (z + (97 + 6 * r)) 5 0) (z + (97 + 6 * r)) 6 0) (z + (97 + 6 * r)) 7 (-1)) (z + (97 + 6 * r)) 8 (-1)) (z + (97 + 6 * r)) 9 (-1), rfl, ⟨⟨?_, (fun i hi => absurd hi (Nat.not_lt_zero _)), fun s hs => Or.inl ⟨(fun w => by cases w), ?_⟩⟩, (fun i hi => absurd hi (Nat.not_lt_zero _)), by decide, (fun k hk => by cases hk)⟩, ?_, fun q hq => by rw [up2_ne hq, up2_ne hq, up2_ne hq, up2_ne hq, up2_ne hq]⟩
  · rw [up2_x (by omega), up2_x (by omega), up2_x (by omega), up2_x (by omega), up2_v]; rfl
  · have : s = 0 ∨ s = 1 ∨ s = 2 := by omega
    rcases this with rfl | rfl | rfl
    · rw [up2_x (by omega), up2_x (by omega), up2_v]
    · rw [up2_x (by omega), up2_v]
    · rw [up2_v]
  · rw [up2_x (by omega), up2_x (by omega), up2_x (by omega), up2_v]
end BG
