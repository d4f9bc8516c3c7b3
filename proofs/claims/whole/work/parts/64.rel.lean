/-! THE RELATION OF BOTH SYSTEMS; TX: what is said of the texts, left open here: it sees the rows 85 and from 97 on alone, and how many texts there are -/
def adj (W c d : Nat) : Prop := (d = c + 1 ∧ c % W ≠ W - 1) ∨ (c = d + 1 ∧ d % W ≠ W - 1) ∨ d = c + W ∨ c = d + W
def GeoR (W H : Nat) (gi : Nat → Int32) (gj sd : Nat → Int64) : Prop :=
  gi 0 = nI W ∧ gi 1 = nI H ∧ gi 2 = nI (W * H) ∧ (∀ c, bt (gj 3) c = decide (c < W * H)) ∧
  (∀ c, bt (gj 4) c = true ↔ c < W * H ∧ (c % W = 0 ∨ c % W = W - 1 ∨ c / W = 0 ∨ c / W = H - 1)) ∧ (∀ c, bt (gj 6) c = true ↔ c < W * H ∧ c % W = 0) ∧ (∀ c, bt (gj 7) c = true ↔ c < W * H ∧ c % W = W - 1) ∧
  (∀ c, c < W * H → ∀ d, bt (sd c) d = true ↔ d < W * H ∧ adj W c d)
/-- what may be said of the texts -/
def TXty : Type := (Nat → Nat → Int32) → Nat → Nat → Prop
def TXok (z : Nat) (TX : TXty) : Prop := ∀ (I I' : Nat → Nat → Int32) (t k : Nat), I' (z + 85) = I (z + 85) → (∀ q, z + 97 ≤ q → I' q = I q) → TX I t k → TX I' t k
def RelI (z : Nat) (TX : TXty) (Q W H : Nat) (I : Nat → Nat → Int32) (J : Nat → Nat → Int64) (t : Nat) : Prop :=
  GeoR W H (I (z + 30)) (J (z + 30)) (J (z + 31)) ∧ (I (z + 83) 1 = nI W ∧ I (z + 83) 2 = nI H ∧ I (z + 83) 3 = nI (W * H) ∧ I (z + 83) 4 = 0) ∧
  TapeR (I (z + 15) 1) (I (z + 83) 7) (I (z + 16)) (I (z + 86)) ∧ (I (z + 17) 0 = I (z + 83) 8 ∧ I (z + 17) 1 = I (z + 83) 9) ∧
  ToldM z (W * H) 1 I 0 ∧ ToldM z (W * H) 8 I 340 ∧ PlainM z (W * H) Q 32 I J 0 ∧ PlainM z (W * H) Q 39 I J 340 ∧
  ∃ k k' : Nat, k' ≤ k ∧ k ≤ t ∧ k ≤ 4 ∧ t ≤ 4 ∧ I (z + 1) 7 = nI k ∧ I (z + 8) 7 = nI k' ∧ TX I t k
def Rel (z : Nat) (TX : TXty) (Q : Nat) (S : MS) : Prop := ∃ (W H : Nat) (I : Nat → Nat → Int32) (J : Nat → Nat → Int64) (t : Nat) (u : Option Nat), 3 ≤ W ∧ W ≤ 8 ∧ 3 ≤ H ∧ H ≤ 6 ∧ S = mk z (W * H) I J t u ∧ RelI z TX Q W H I J t
theorem WH {W H : Nat} (h1 : W ≤ 8) (h2 : H ≤ 6) : W * H ≤ 48 := Nat.mul_le_mul h1 h2
section RL2
variable {n z C Q t : Nat} {I I' : Nat → Nat → Int32} {J J' : Nat → Nat → Int64} {u : Option Nat}
theorem ToldM.keep {o B : Nat} (h : ToldM z C o I B) (hr : ∀ i, i ≤ 6 → I' (z + (o + i)) = I (z + (o + i))) (ha : ta (I' (z + 84)) B = ta (I (z + 84)) B) : ToldM z C o I' B := by
  unfold ToldM at h ⊢
  rw [show I' (z + o) = I (z + o) from hr 0 (by omega), hr 1 (by omega), hr 2 (by omega), hr 3 (by omega), hr 4 (by omega), hr 5 (by omega), hr 6 (by omega), ha]
  exact h
theorem PlainM.keep {o B : Nat} (h : PlainM z C Q o I J B) (hr : ∀ i, i ≤ 6 → I' (z + (o + i)) = I (z + (o + i))) (hj : J' (z + o) = J (z + o)) (ha : pa (I' (z + 84)) B = pa (I (z + 84)) B) : PlainM z C Q o I' J' B := by
  unfold PlainM at h ⊢
  rw [show I' (z + o) = I (z + o) from hr 0 (by omega), hr 1 (by omega), hr 2 (by omega), hr 3 (by omega), hr 4 (by omega), hr 5 (by omega), hr 6 (by omega), hj, ha]
  exact h
theorem RelI.step {TX : TXty} (hTX : TXok z TX) {W H : Nat} (h : RelI z TX Q W H I J t) (h30 : I' (z + 30) = I (z + 30)) (j30 : J' (z + 30) = J (z + 30)) (j31 : J' (z + 31) = J (z + 31)) (h83 : ∀ j, j ≠ 7 → I' (z + 83) j = I (z + 83) j) (hT : TapeR (I' (z + 15) 1) (I' (z + 83) 7) (I' (z + 16)) (I' (z + 86))) (h17 : I' (z + 17) = I (z + 17))
    (hT1 : ToldM z (W * H) 1 I' 0) (hT8 : ToldM z (W * H) 8 I' 340) (hP1 : PlainM z (W * H) Q 32 I' J' 0) (hP2 : PlainM z (W * H) Q 39 I' J' 340) (h1 : I' (z + 1) 7 = I (z + 1) 7) (h8 : I' (z + 8) 7 = I (z + 8) 7) (h85 : I' (z + 85) = I (z + 85)) (h97 : ∀ q, z + 97 ≤ q → I' q = I q) : RelI z TX Q W H I' J' t := by
  obtain ⟨hG, hM, -, hF, -, -, -, -, k, k', x1, x2, x3, x4, x5, x6, x7⟩ := h
  refine ⟨by rw [h30, j30, j31]; exact hG, ⟨?_, ?_, ?_, ?_⟩, hT, ⟨?_, ?_⟩, hT1, hT8, hP1, hP2, k, k', x1, x2, x3, x4, by rw [h1]; exact x5, by rw [h8]; exact x6, hTX _ _ _ _ h85 h97 x7⟩
  · rw [h83 1 (by omega)]; exact hM.1
  · rw [h83 2 (by omega)]; exact hM.2.1
  · rw [h83 3 (by omega)]; exact hM.2.2.1
  · rw [h83 4 (by omega)]; exact hM.2.2.2
  · rw [h17, h83 8 (by omega)]; exact hF.1
  · rw [h17, h83 9 (by omega)]; exact hF.2
/-- end(n) keeps the relation -/
theorem Op_end_ok {TX : TXty} (hTX : TXok z TX) : Op_end z (Rel z TX Q) := by
  intro n hn S a hR
  obtain ⟨W, H, I, J, t, u, w1, w2, w3, w4, rfl, hRI⟩ := hR
  obtain ⟨hG, hM, hT, hF, hT1, hT8, hP1, hP2, -⟩ := id hRI
  rcases op_end' (n := n) (C := W * H) (J := J) (t := t) (u := u) hT a with ⟨e1, e2⟩ | ⟨hT', e1, e2⟩
  · exact ⟨_, _, _, e1, e2, W, H, I, J, t, u, w1, w2, w3, w4, rfl, hRI⟩
  · have R : ∀ q, q ≠ z + 15 → q ≠ z + 83 → up2 (up2 I (z + 15) 1 a) (z + 83) 7 a q = I q := fun q g1 g2 => by rw [up2_ne g2, up2_ne g1]
    refine ⟨_, _, _, e1, e2, W, H, _, J, t, u, w1, w2, w3, w4, rfl, hRI.step hTX (R _ (by omega) (by omega)) rfl rfl (fun j hj => by rw [up2_at, if_neg hj, up2_ne (by omega)]) ?_ (R _ (by omega) (by omega)) (hT1.keep (fun i hi => R _ (by omega) (by omega)) (by rw [R _ (by omega) (by omega)])) (hT8.keep (fun i hi => R _ (by omega) (by omega)) (by rw [R _ (by omega) (by omega)])) (hP1.keep (fun i hi => R _ (by omega) (by omega)) rfl (by rw [R _ (by omega) (by omega)])) (hP2.keep (fun i hi => R _ (by omega) (by omega)) rfl (by rw [R _ (by omega) (by omega)])) (by rw [R _ (by omega) (by omega)]) (by rw [R _ (by omega) (by omega)]) (R _ (by omega) (by omega)) (fun q hq => R _ (by omega) (by omega))⟩
    rw [R (z + 16) (by omega) (by omega), R (z + 86) (by omega) (by omega), up2_ne (by omega), up2_at, if_pos rfl, up2_at, if_pos rfl]
    exact hT'
/-- feed(a, b, c, d, e) -/
theorem w20_ne {r o k l : Nat} {a b c d e : Int32} {q : Nat} (h : q ≠ r) (h2 : q ≠ o) : w20 I r o k l a b c d e q = I q := by
  simp only [w20, w4_ne h h2]
theorem w20_os {r o k l : Nat} {a b c d e : Int32} (h : o ≠ r) {j : Nat} (hj : j ≠ k) : w20 I r o k l a b c d e o j = I o j := by
  simp only [w20, w4_os h hj]
theorem Op_feed_ok {TX : TXty} (hTX : TXok z TX) : Op_feed z (Rel z TX Q) := by
  intro n hn S a b c d e hR
  obtain ⟨W, H, I, J, t, u, w1, w2, w3, w4, rfl, hRI⟩ := hR
  obtain ⟨hG, hM, hT, hF, hT1, hT8, hP1, hP2, -⟩ := id hRI
  rcases op_feed' (n := n) (C := W * H) (J := J) (t := t) (u := u) hn hT a b c d e with ⟨e1, e2⟩ | ⟨l, I2, hI2, hT', e1, e2⟩
  · exact ⟨_, _, _, e1, e2, W, H, I, J, t, u, w1, w2, w3, w4, rfl, hRI⟩
  · have R : ∀ q, q ≠ z + 15 → q ≠ z + 16 → q ≠ z + 83 → q ≠ z + 86 → I2 q = I q := fun q g1 g2 g3 g4 => by rw [hI2, w20_ne g4 g3, w20_ne g2 g1]
    exact ⟨_, _, _, e1, e2, W, H, I2, J, t, u, w1, w2, w3, w4, rfl, hRI.step hTX (R _ (by omega) (by omega) (by omega) (by omega)) rfl rfl (fun j hj => by rw [hI2, w20_os (by omega) hj, w20_ne (by omega) (by omega)]) hT' (R _ (by omega) (by omega) (by omega) (by omega)) (hT1.keep (fun i hi => R _ (by omega) (by omega) (by omega) (by omega)) (by rw [R _ (by omega) (by omega) (by omega) (by omega)])) (hT8.keep (fun i hi => R _ (by omega) (by omega) (by omega) (by omega)) (by rw [R _ (by omega) (by omega) (by omega) (by omega)])) (hP1.keep (fun i hi => R _ (by omega) (by omega) (by omega) (by omega)) rfl (by rw [R _ (by omega) (by omega) (by omega) (by omega)])) (hP2.keep (fun i hi => R _ (by omega) (by omega) (by omega) (by omega)) rfl (by rw [R _ (by omega) (by omega) (by omega) (by omega)])) (by rw [R _ (by omega) (by omega) (by omega) (by omega)]) (by rw [R _ (by omega) (by omega) (by omega) (by omega)]) (R _ (by omega) (by omega) (by omega) (by omega)) (fun q hq => R _ (by omega) (by omega) (by omega) (by omega))⟩
/-- fault(what) -/
theorem Op_fault_ok {TX : TXty} : Op_fault z (Rel z TX Q) := by
  intro n hn S a hR
  obtain ⟨W, H, I, J, t, u, w1, w2, w3, w4, rfl, hG, hM, hT, hF, hr⟩ := hR
  obtain ⟨r, e1, e2⟩ := op_fault' (n := n) (C := W * H) (J := J) (t := t) (u := u) hF.1 hF.2 a
  exact ⟨r, _, _, e1, e2, W, H, I, J, t, u, w1, w2, w3, w4, rfl, hG, hM, hT, hF, hr⟩
end RL2
