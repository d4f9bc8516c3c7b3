/-! WELL, BONE, STAKE, IMAGE, BACK keep the relation -/
section PO
variable {z Q : Nat} {TX : TXty}
theorem plj_f {j m : Nat} (h : plj j = false ∨ 340 ≤ j) (hm : plj m = true) (hm2 : m < 340) : j ≠ m := fun e => by
  subst e
  rcases h with h | h
  · rw [h] at hm; cases hm
  · omega
/-- a step on the plain now alone -/
theorem RelI.plain {W H t : Nat} {I I' : Nat → Nat → Int32} {J J' : Nat → Nat → Int64} (hTX : TXok z TX) (h : RelI z TX Q W H I J t) (R : ∀ q, (q < z + 32 ∨ z + 39 ≤ q) → q ≠ z + 84 → I' q = I q) (RJ : ∀ q, q ≠ z + 32 → J' q = J q) (ha : ∀ j, (plj j = false ∨ 340 ≤ j) → I' (z + 84) j = I (z + 84) j) (hP : PlainM z (W * H) Q 32 I' J' 0) : RelI z TX Q W H I' J' t := by
  obtain ⟨hG, hM, hT, hF, hT1, hT8, hP1, hP2, -⟩ := id h
  have tf : ∀ j, tlj j = true → plj j = false := by
    intro j hj
    cases hc : plj j with
    | false => rfl
    | true => have := tlj_b hj; have := plj_b hc; omega
  have t0 : ta (I' (z + 84)) 0 = ta (I (z + 84)) 0 := by
    funext j
    unfold ta
    by_cases hj : tlj j = true
    · rw [if_pos hj, if_pos hj, Nat.zero_add]; exact ha j (Or.inl (tf j hj))
    · rw [if_neg hj, if_neg hj]
  have t1 : ta (I' (z + 84)) 340 = ta (I (z + 84)) 340 := by
    funext j
    unfold ta
    rw [ha _ (Or.inr (by omega))]
  have p1 : pa (I' (z + 84)) 340 = pa (I (z + 84)) 340 := pa_congr (fun j hj => ha _ (Or.inr (by omega)))
  refine h.step hTX (R _ (by omega) (by omega)) (RJ _ (by omega)) (RJ _ (by omega)) (fun j _ => by rw [R _ (by omega) (by omega)]) ?_ (R _ (by omega) (by omega)) (hT1.keep (fun i hi => R _ (by omega) (by omega)) t0) (hT8.keep (fun i hi => R _ (by omega) (by omega)) t1) hP (hP2.keep (fun i hi => R _ (by omega) (by omega)) (RJ _ (by omega)) p1) (by rw [R _ (by omega) (by omega)]) (by rw [R _ (by omega) (by omega)]) (R _ (by omega) (by omega)) (fun q hq => R _ (by omega) (by omega))
  rw [R (z + 15) (by omega) (by omega), R (z + 83) (by omega) (by omega), R (z + 16) (by omega) (by omega), R (z + 86) (by omega) (by omega)]
  exact hT
theorem Op_well_ok (hTX : TXok z TX) : Op_well z (Rel z TX Q) := by
  intro n hn S a b hR hb
  obtain ⟨W, H, I, J, t, u, w1, w2, w3, w4, rfl, hRI⟩ := hR
  obtain ⟨hG, hM, hT, hF, hT1, hT8, hP1, hP2, -⟩ := id hRI
  have hC := WH w2 w4
  rcases op_well' (n := n) (I := I) (J := J) (t := t) (u := u) hC hG.2.2.1 hM.2.2.1 a b hb with ⟨e1, e2⟩ | ⟨c, x, hc, hx, e1, e2⟩
  · exact ⟨_, _, _, e1, e2, W, H, I, J, t, u, w1, w2, w3, w4, rfl, hRI⟩
  · have p190 : plj (190 + c) = true := plj_190 (by omega)
    refine ⟨_, _, _, e1, e2, W, H, _, _, t, u, w1, w2, w3, w4, rfl, hRI.plain hTX (fun q g1 g2 => up2_ne g2) (fun q g => up2_ne g) (fun j hj => by rw [up2_at, if_neg (plj_f hj p190 (by omega))]) ?_⟩
    have hw := hP1.well hC hc (decide (b = 1)) hx
    have hbv : (if decide (b = 1) = true then (1 : Int32) else 0) = b := by rcases hb with rfl | rfl <;> rfl
    rw [hbv] at hw
    unfold PlainM
    have Rn : ∀ q, q ≠ z + 84 → up2 I (z + 84) (190 + c) b q = I q := fun q g => up2_ne g
    rw [Rn (z + 32) (by omega), Rn (z + (32 + 1)) (by omega), Rn (z + (32 + 2)) (by omega), Rn (z + (32 + 3)) (by omega), Rn (z + (32 + 4)) (by omega), Rn (z + (32 + 5)) (by omega), Rn (z + (32 + 6)) (by omega), up2_r I, up2_r J, pa_ur0 p190]
    exact hw
theorem Op_bone_ok (hTX : TXok z TX) : Op_bone z (Rel z TX Q) := by
  intro n hn S a b hR
  obtain ⟨W, H, I, J, t, u, w1, w2, w3, w4, rfl, hRI⟩ := hR
  obtain ⟨hG, hM, hT, hF, hT1, hT8, hP1, hP2, -⟩ := id hRI
  have hC := WH w2 w4
  rcases op_bone' (n := n) (t := t) (u := u) hn hC hG.2.2.1 hM.2.2.1 hM.2.2.2 hP1 a b with ⟨e1, e2⟩ | ⟨k, c, v, I2, J2, hk, hc, rfl, rfl, hP, e1, e2⟩
  · exact ⟨_, _, _, e1, e2, W, H, I, J, t, u, w1, w2, w3, w4, rfl, hRI⟩
  · have pk : ∀ i, i < 3 → plj (10 + i + 3 * k) = true := fun i hi => by have := plj_10 (i := i + 3 * k) (by omega); rwa [show 10 + (i + 3 * k) = 10 + i + 3 * k by omega] at this
    have p240 : plj (240 + c) = true := by have := plj_190 (i := 50 + c) (by omega); rwa [show 190 + (50 + c) = 240 + c by omega] at this
    refine ⟨_, _, _, e1, e2, W, H, _, _, t, u, w1, w2, w3, w4, rfl, hRI.plain hTX (fun q g1 g2 => ?_) (fun q g => up2_ne g) (fun j hj => ?_) hP⟩
    · rw [rB_ne g2, cB_ne (by omega) (by omega) (by omega) (by omega) (by omega)]
    · rw [rB_at, cB_ne (by omega) (by omega) (by omega) (by omega) (by omega), ur_ne _ _ (plj_f hj p240 (by omega)), ur_ne _ _ (plj_f hj (plj_290 (by omega)) (by omega)), ur_ne _ _ (plj_f hj (by decide) (by omega)), ur_ne _ _ (plj_f hj (pk 2 (by omega)) (by omega)), ur_ne _ _ (plj_f hj (pk 1 (by omega)) (by omega)), ur_ne _ _ (plj_f hj (pk 0 (by omega)) (by omega))]
theorem Op_stake_ok (hTX : TXok z TX) : Op_stake z (Rel z TX Q) := by
  intro n hn S a s hR
  obtain ⟨W, H, I, J, t, u, w1, w2, w3, w4, rfl, hRI⟩ := hR
  obtain ⟨hG, hM, hT, hF, hT1, hT8, hP1, hP2, -⟩ := id hRI
  have hC := WH w2 w4
  rcases op_stake' (n := n) (t := t) (u := u) hn hC hG.2.2.1 hM.2.2.1 hP1 a s with ⟨e1, e2⟩ | ⟨f, x, I2, hf, hs, rfl, hP, e1, e2⟩
  · exact ⟨_, _, _, e1, e2, W, H, I, J, t, u, w1, w2, w3, w4, rfl, hRI⟩
  · refine ⟨_, _, _, e1, e2, W, H, _, _, t, u, w1, w2, w3, w4, rfl, hRI.plain hTX (fun q g1 g2 => by rw [up2_ne g2, up2_ne (by omega)]) (fun q g => up2_ne g) (fun j hj => by rw [up2_at, if_neg (plj_f hj (plj_85 (by omega)) (by omega)), up2_ne (by omega)]) hP⟩
/-- of the texts: fewer may be said of -/
def TXle (TX : TXty) : Prop := ∀ (I : Nat → Nat → Int32) (t k k' : Nat), k' ≤ k → TX I t k → TX I t k'
theorem Op_image_ok (hTX : TXok z TX) : Op_image z (Rel z TX Q) := by
  intro n hn S hR
  obtain ⟨W, H, I, J, t, u, w1, w2, w3, w4, rfl, hRI⟩ := hR
  obtain ⟨hG, hM, hT, hF, hT1, hT8, hP1, hP2, k, k', x1, x2, x3, x4, x5, x6, x7⟩ := id hRI
  obtain ⟨r, I1, I2, J2, e1, e2, p1, t1, p2, t2, h8, h84, hI, hJ⟩ := op_image' (n := n) (t := t) (u := u) hn (WH w2 w4) hP1 hT1
  have R : ∀ q, q ≠ z + 84 → (q < z + 8 ∨ z + 15 ≤ q) → (q < z + 39 ∨ z + 46 ≤ q) → I2 q = I q := hI
  refine ⟨r, _, _, e1, e2, W, H, I2, J2, t, u, w1, w2, w3, w4, rfl, ?_, ?_, ?_, ?_, t1, t2, p1, p2, k, k, Nat.le_refl _, x2, x3, x4, ?_, ?_, ?_⟩
  · rw [R _ (by omega) (by omega) (by omega), hJ _ (by omega), hJ _ (by omega)]; exact hG
  · rw [R _ (by omega) (by omega) (by omega)]; exact hM
  · rw [R (z + 15) (by omega) (by omega) (by omega), R (z + 83) (by omega) (by omega) (by omega), R (z + 16) (by omega) (by omega) (by omega), R (z + 86) (by omega) (by omega) (by omega)]; exact hT
  · rw [R (z + 17) (by omega) (by omega) (by omega), R (z + 83) (by omega) (by omega) (by omega)]; exact hF
  · rw [R _ (by omega) (by omega) (by omega)]; exact x5
  · rw [h8]; exact x5
  · exact hTX _ _ _ _ (R _ (by omega) (by omega) (by omega)) (fun q hq => R _ (by omega) (by omega) (by omega)) x7
theorem Op_back_ok (hTX : TXok z TX) (hle : TXle TX) : Op_back z (Rel z TX Q) := by
  intro n hn S hR
  obtain ⟨W, H, I, J, t, u, w1, w2, w3, w4, rfl, hRI⟩ := hR
  obtain ⟨hG, hM, hT, hF, hT1, hT8, hP1, hP2, k, k', x1, x2, x3, x4, x5, x6, x7⟩ := id hRI
  obtain ⟨r, I1, I2, J2, e1, e2, p1, t1, p2, t2, h8, h84, hI, hJ⟩ := op_back' (n := n) (t := t) (u := u) hn (WH w2 w4) hP2 hT8
  have R : ∀ q, q ≠ z + 84 → (q < z + 1 ∨ z + 8 ≤ q) → (q < z + 32 ∨ z + 39 ≤ q) → I2 q = I q := hI
  refine ⟨r, _, _, e1, e2, W, H, I2, J2, t, u, w1, w2, w3, w4, rfl, ?_, ?_, ?_, ?_, t1, t2, p1, p2, k', k', Nat.le_refl _, by omega, by omega, x4, ?_, ?_, ?_⟩
  · rw [R _ (by omega) (by omega) (by omega), hJ _ (by omega), hJ _ (by omega)]; exact hG
  · rw [R _ (by omega) (by omega) (by omega)]; exact hM
  · rw [R (z + 15) (by omega) (by omega) (by omega), R (z + 83) (by omega) (by omega) (by omega), R (z + 16) (by omega) (by omega) (by omega), R (z + 86) (by omega) (by omega) (by omega)]; exact hT
  · rw [R (z + 17) (by omega) (by omega) (by omega), R (z + 83) (by omega) (by omega) (by omega)]; exact hF
  · rw [h8]; exact x6
  · rw [R _ (by omega) (by omega) (by omega)]; exact x6
  · exact hTX _ _ _ _ (R _ (by omega) (by omega) (by omega)) (fun q hq => R _ (by omega) (by omega) (by omega)) (hle _ _ _ _ x1 x7)
end PO
