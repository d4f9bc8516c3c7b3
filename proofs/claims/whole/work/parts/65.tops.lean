/-! BY, PLAN, MAP, WIND keep the relation -/
section TR
variable {C : Nat} {ob dx dy st ch pl mp a : Nat → Int32}
theorem ToldR.by_ (h : ToldR C ob dx dy st ch pl mp a 0) {v : Int32} (hv : v = -1 ∨ ∃ r, ∃ tx, ob 7 = nI tx ∧ tx ≤ 4 ∧ r < tx ∧ v = nI r) : ToldR C (ur ob 8 v) dx dy st ch pl mp (ur a 4 v) 0 := by
  obtain ⟨w, tx, q1, q2, q3, q4, q5, q6, q7, q8, q9, q10, q11⟩ := h
  refine ⟨w, tx, q1, q2, ?_, ?_, ?_, ?_, ?_, ?_, ?_, ?_, ?_⟩
  · rw [ur_ne _ _ (by omega)]; exact q3
  · rw [ur_ne _ _ (by omega)]; exact q4
  · rw [ur_ne _ _ (by omega)]; exact q5
  · rw [ur_ne _ _ (by omega)]; exact q6
  · rw [ur_at]; exact (ur_at _ _ _).symm
  · rw [show (0 : Nat) + 4 = 4 from rfl, ur_at]
    refine hv.imp id ?_
    rintro ⟨r, tx', r1, r0, r2, r3⟩
    have : tx' = tx := (nI_inj (by omega) (by omega)).mp (r1.symm.trans q5)
    exact ⟨r, by omega, r3⟩
  · intro i hi
    rw [ur_ne _ _ (by omega), ur_ne _ _ (by omega), ur_ne _ _ (by omega), ur_ne _ _ (by omega)]; exact q9 i hi
  · intro k hk
    rw [ur_ne _ _ (by omega)]; exact q10 k hk
  · intro k hk
    rw [ur_ne _ _ (by omega)]; exact q11 k hk
theorem ToldR.plan (h : ToldR C ob dx dy st ch pl mp a 0) {k v w0 : Nat} (hk : k < 40) (hob : ob 6 = nI w0) (hw0 : w0 ≤ 6) (hv : v < w0) : ToldR C ob dx dy st ch (ur pl k (nI v)) mp (ur a (125 + k) (nI v)) 0 := by
  obtain ⟨w, tx, q1, q2, q3, q4, q5, q6, q7, q8, q9, q10, q11⟩ := h
  refine ⟨w, tx, q1, q2, q3, ?_, q5, ?_, ?_, ?_, ?_, ?_, ?_⟩
  · rw [ur_ne _ _ (by omega)]; exact q4
  · rw [ur_ne _ _ (by omega)]; exact q6
  · rw [ur_ne _ _ (by omega)]; exact q7
  · rw [ur_ne _ _ (by omega)]; exact q8
  · intro i hi
    rw [ur_ne _ _ (by omega), ur_ne _ _ (by omega), ur_ne _ _ (by omega), ur_ne _ _ (by omega)]; exact q9 i hi
  · intro j hj
    by_cases hjk : j = k
    · subst hjk
      rw [ur_at, Nat.zero_add, ur_at]
      have : w = w0 := (nI_inj (by omega) (by omega)).mp (q3.symm.trans hob)
      exact ⟨rfl, v, by omega, by omega, rfl⟩
    · rw [ur_ne _ _ hjk, ur_ne _ _ (by omega)]; exact q10 j hj
  · intro j hj
    rw [ur_ne _ _ (by omega)]; exact q11 j hj
theorem ToldR.map (h : ToldR C ob dx dy st ch pl mp a 0) {k : Nat} {b : Int32} (hk : k < 24) (hb : b = -1 ∨ ∃ c, c < C ∧ b = nI c) : ToldR C ob dx dy st ch pl (ur mp k b) (ur a (165 + k) b) 0 := by
  obtain ⟨w, tx, q1, q2, q3, q4, q5, q6, q7, q8, q9, q10, q11⟩ := h
  refine ⟨w, tx, q1, q2, q3, ?_, q5, ?_, ?_, ?_, ?_, ?_, ?_⟩
  · rw [ur_ne _ _ (by omega)]; exact q4
  · rw [ur_ne _ _ (by omega)]; exact q6
  · rw [ur_ne _ _ (by omega)]; exact q7
  · rw [ur_ne _ _ (by omega)]; exact q8
  · intro i hi
    rw [ur_ne _ _ (by omega), ur_ne _ _ (by omega), ur_ne _ _ (by omega), ur_ne _ _ (by omega)]; exact q9 i hi
  · intro j hj
    rw [ur_ne _ _ (by omega)]; exact q10 j hj
  · intro j hj
    by_cases hjk : j = k
    · subst hjk
      rw [ur_at, Nat.zero_add, ur_at]
      exact ⟨rfl, hb⟩
    · rw [ur_ne _ _ hjk, ur_ne _ _ (by omega)]; exact q11 j hj
theorem ToldR.wind (h : ToldR C ob dx dy st ch pl mp a 0) {w : Nat} (hw : w < 6) (hob : ob 6 = nI w) {x y c d : Int32} (hok : okW x y c d) : ToldR C (ur ob 6 (nI (w + 1))) (ur dx w x) (ur dy w y) (ur st w c) (ur ch w d) pl mp (ur (ur (ur (ur (ur a (100 + 4 * w) x) (101 + 4 * w) y) (102 + 4 * w) c) (103 + 4 * w) d) 2 (nI (w + 1))) 0 := by
  obtain ⟨w', tx, q1, q2, q3, q4, q5, q6, q7, q8, q9, q10, q11⟩ := h
  have hww : w' = w := (nI_inj (by omega) (by omega)).mp (q3.symm.trans hob)
  subst hww
  obtain ⟨k1, k2, k3, k4⟩ := hok
  refine ⟨w' + 1, tx, by omega, q2, ur_at _ _ _, ?_, ?_, ?_, ?_, ?_, ?_, ?_, ?_⟩
  · rw [show (0 : Nat) + 2 = 2 from rfl, ur_at]
  · rw [ur_ne _ _ (by omega)]; exact q5
  · rw [ur_ne _ _ (by omega), ur_ne _ _ (by omega), ur_ne _ _ (by omega), ur_ne _ _ (by omega), ur_ne _ _ (by omega)]; exact q6
  · rw [ur_ne _ _ (by omega), ur_ne _ _ (by omega), ur_ne _ _ (by omega), ur_ne _ _ (by omega), ur_ne _ _ (by omega), ur_ne _ _ (by omega)]; exact q7
  · rw [ur_ne _ _ (by omega), ur_ne _ _ (by omega), ur_ne _ _ (by omega), ur_ne _ _ (by omega), ur_ne _ _ (by omega)]; exact q8
  · intro i hi
    by_cases hiw : i = w'
    · subst hiw
      rw [ur_at, ur_at, ur_at, ur_at]
      refine ⟨?_, ?_, ?_, ?_, in_r.mpr k1, in_r.mpr k2, nI_nm (N := 100) k3.1 (fun q => k3.2 (by rw [i32_lt]; rw [i32_le, nI_t (by omega)] at q; have : (99 : Int32).toInt = 99 := rfl; omega)) (by omega), nI_nm (N := 10) k4.1 (fun q => k4.2 (by rw [i32_lt]; rw [i32_le, nI_t (by omega)] at q; have : (9 : Int32).toInt = 9 := rfl; omega)) (by omega)⟩
      · rw [Nat.zero_add, ur_ne _ _ (by omega), ur_ne _ _ (by omega), ur_ne _ _ (by omega), ur_ne _ _ (by omega), ur_at]
      · rw [Nat.zero_add, ur_ne _ _ (by omega), ur_ne _ _ (by omega), ur_ne _ _ (by omega), ur_at]
      · rw [Nat.zero_add, ur_ne _ _ (by omega), ur_ne _ _ (by omega), ur_at]
      · rw [Nat.zero_add, ur_ne _ _ (by omega), ur_at]
    · have := q9 i (by omega)
      rw [ur_ne _ _ hiw, ur_ne _ _ hiw, ur_ne _ _ hiw, ur_ne _ _ hiw]
      simp only [ur_ne (j := 0 + 100 + 4 * i) _ _ (show 0 + 100 + 4 * i ≠ 2 by omega), ur_ne (j := 0 + 100 + 4 * i) _ _ (show 0 + 100 + 4 * i ≠ 103 + 4 * w' by omega), ur_ne (j := 0 + 100 + 4 * i) _ _ (show 0 + 100 + 4 * i ≠ 102 + 4 * w' by omega), ur_ne (j := 0 + 100 + 4 * i) _ _ (show 0 + 100 + 4 * i ≠ 101 + 4 * w' by omega), ur_ne (j := 0 + 100 + 4 * i) _ _ (show 0 + 100 + 4 * i ≠ 100 + 4 * w' by omega),
        ur_ne (j := 0 + 101 + 4 * i) _ _ (show 0 + 101 + 4 * i ≠ 2 by omega), ur_ne (j := 0 + 101 + 4 * i) _ _ (show 0 + 101 + 4 * i ≠ 103 + 4 * w' by omega), ur_ne (j := 0 + 101 + 4 * i) _ _ (show 0 + 101 + 4 * i ≠ 102 + 4 * w' by omega), ur_ne (j := 0 + 101 + 4 * i) _ _ (show 0 + 101 + 4 * i ≠ 101 + 4 * w' by omega), ur_ne (j := 0 + 101 + 4 * i) _ _ (show 0 + 101 + 4 * i ≠ 100 + 4 * w' by omega),
        ur_ne (j := 0 + 102 + 4 * i) _ _ (show 0 + 102 + 4 * i ≠ 2 by omega), ur_ne (j := 0 + 102 + 4 * i) _ _ (show 0 + 102 + 4 * i ≠ 103 + 4 * w' by omega), ur_ne (j := 0 + 102 + 4 * i) _ _ (show 0 + 102 + 4 * i ≠ 102 + 4 * w' by omega), ur_ne (j := 0 + 102 + 4 * i) _ _ (show 0 + 102 + 4 * i ≠ 101 + 4 * w' by omega), ur_ne (j := 0 + 102 + 4 * i) _ _ (show 0 + 102 + 4 * i ≠ 100 + 4 * w' by omega),
        ur_ne (j := 0 + 103 + 4 * i) _ _ (show 0 + 103 + 4 * i ≠ 2 by omega), ur_ne (j := 0 + 103 + 4 * i) _ _ (show 0 + 103 + 4 * i ≠ 103 + 4 * w' by omega), ur_ne (j := 0 + 103 + 4 * i) _ _ (show 0 + 103 + 4 * i ≠ 102 + 4 * w' by omega), ur_ne (j := 0 + 103 + 4 * i) _ _ (show 0 + 103 + 4 * i ≠ 101 + 4 * w' by omega), ur_ne (j := 0 + 103 + 4 * i) _ _ (show 0 + 103 + 4 * i ≠ 100 + 4 * w' by omega)]
      exact this
  · intro j hj
    rw [ur_ne _ _ (by omega), ur_ne _ _ (by omega), ur_ne _ _ (by omega), ur_ne _ _ (by omega), ur_ne _ _ (by omega)]; obtain ⟨x1, v, x2, x3, x4⟩ := q10 j hj; exact ⟨x1, v, x2, by omega, x4⟩
  · intro j hj
    rw [ur_ne _ _ (by omega), ur_ne _ _ (by omega), ur_ne _ _ (by omega), ur_ne _ _ (by omega), ur_ne _ _ (by omega)]; exact q11 j hj
end TR
section TO
variable {z Q : Nat} {TX : TXty}
/-- a step on what is told alone: rows 1 .. 7 and a told place of the reference's first row -/
theorem RelI.told {W H t : Nat} {I I' : Nat → Nat → Int32} {J : Nat → Nat → Int64} (hTX : TXok z TX) (h : RelI z TX Q W H I J t) (R : ∀ q, (q < z + 1 ∨ z + 8 ≤ q) → q ≠ z + 84 → I' q = I q) (ha : ∀ j, (tlj j = false ∨ 340 ≤ j) → I' (z + 84) j = I (z + 84) j) (hT1 : ToldM z (W * H) 1 I' 0) (h7 : I' (z + 1) 7 = I (z + 1) 7) : RelI z TX Q W H I' J t := by
  obtain ⟨hG, hM, hT, hF, -, hT8, hP1, hP2, -⟩ := id h
  have pf : ∀ j, plj j = true → tlj j = false := by
    intro j hj
    cases hc : tlj j with
    | false => rfl
    | true => have := tlj_b hc; have := plj_b hj; omega
  have p0 : pa (I' (z + 84)) 0 = pa (I (z + 84)) 0 := pa_congr (fun j hj => by rw [Nat.zero_add]; exact ha j (Or.inl (pf j hj)))
  have p1 : pa (I' (z + 84)) 340 = pa (I (z + 84)) 340 := pa_congr (fun j hj => ha _ (Or.inr (by omega)))
  have t1 : ta (I' (z + 84)) 340 = ta (I (z + 84)) 340 := by
    funext j
    unfold ta
    rw [ha _ (Or.inr (by omega))]
  refine h.step hTX (R _ (by omega) (by omega)) rfl rfl (fun j _ => by rw [R _ (by omega) (by omega)]) ?_ (R _ (by omega) (by omega)) hT1 (hT8.keep (fun i hi => R _ (by omega) (by omega)) t1) (hP1.keep (fun i hi => R _ (by omega) (by omega)) rfl p0) (hP2.keep (fun i hi => R _ (by omega) (by omega)) rfl p1) h7 (by rw [R _ (by omega) (by omega)]) (R _ (by omega) (by omega)) (fun q hq => R _ (by omega) (by omega))
  rw [R (z + 15) (by omega) (by omega), R (z + 83) (by omega) (by omega), R (z + 16) (by omega) (by omega), R (z + 86) (by omega) (by omega)]
  exact hT
theorem tlj_f {j m : Nat} (h : tlj j = false ∨ 340 ≤ j) (hm : tlj m = true) : j ≠ m := fun e => by
  subst e
  rcases h with h | h
  · rw [h] at hm; cases hm
  · have := tlj_b hm; omega
theorem Op_by_ok (hTX : TXok z TX) : Op_by z (Rel z TX Q) := by
  intro n hn S a hR
  obtain ⟨W, H, I, J, t, u, w1, w2, w3, w4, rfl, hRI⟩ := hR
  obtain ⟨hG, hM, hT, hF, hT1, hT8, hP1, hP2, -⟩ := id hRI
  obtain ⟨w, tx, q1, q2, q3, q4, q5, q6, -⟩ := id hT1
  rw [ta_in (by decide), Nat.zero_add, Nat.zero_add] at q6
  rcases op_by' (n := n) (C := W * H) (J := J) (t := t) (u := u) q2 q5 q6 a with ⟨e1, e2⟩ | ⟨hv, e1, e2⟩
  · exact ⟨_, _, _, e1, e2, W, H, I, J, t, u, w1, w2, w3, w4, rfl, hRI⟩
  · refine ⟨_, _, _, e1, e2, W, H, _, J, t, u, w1, w2, w3, w4, rfl, hRI.told hTX (fun q g1 g2 => by rw [up2_ne g2, up2_ne (by omega)]) (fun j hj => by rw [up2_at, if_neg (tlj_f hj (by decide)), up2_ne (by omega)]) ?_ (by rw [up2_ne (by omega), up2_at, if_neg (by omega)])⟩
    have hb := hT1.by_ (v := a) (hv.imp id (fun ⟨r, h1, h2⟩ => ⟨r, tx, q5, q2, h1, h2⟩))
    unfold ToldM
    have Rn : ∀ i, 1 ≤ i → i ≤ 6 → up2 (up2 I (z + 1) 8 a) (z + 84) 4 a (z + (1 + i)) = I (z + (1 + i)) := fun i g1 g2 => by rw [up2_ne (by omega), up2_ne (by omega)]
    rw [Rn 1 (by omega) (by omega), Rn 2 (by omega) (by omega), Rn 3 (by omega) (by omega), Rn 4 (by omega) (by omega), Rn 5 (by omega) (by omega), Rn 6 (by omega) (by omega), up2_ne (by omega), up2_r, up2_r, up2_ne (by omega), ta_ur0 (by decide)]
    exact hb
theorem Op_plan_ok (hTX : TXok z TX) : Op_plan z (Rel z TX Q) := by
  intro n hn S a b hR
  obtain ⟨W, H, I, J, t, u, w1, w2, w3, w4, rfl, hRI⟩ := hR
  obtain ⟨hG, hM, hT, hF, hT1, hT8, hP1, hP2, -⟩ := id hRI
  obtain ⟨w, tx, q1, q2, q3, q4, -⟩ := id hT1
  rw [ta_in (by decide), Nat.zero_add, Nat.zero_add] at q4
  rcases op_plan' (n := n) (C := W * H) (J := J) (t := t) (u := u) q1 q3 q4 a b with ⟨e1, e2⟩ | ⟨k, v, hk, hv, rfl, rfl, e1, e2⟩
  · exact ⟨_, _, _, e1, e2, W, H, I, J, t, u, w1, w2, w3, w4, rfl, hRI⟩
  · have p125 : tlj (125 + k) = true := by have := tlj_100 (i := 25 + k) (by omega); rwa [show 100 + (25 + k) = 125 + k by omega] at this
    refine ⟨_, _, _, e1, e2, W, H, _, J, t, u, w1, w2, w3, w4, rfl, hRI.told hTX (fun q g1 g2 => by rw [up2_ne g2, up2_ne (by omega)]) (fun j hj => by rw [up2_at, if_neg (tlj_f hj p125), up2_ne (by omega)]) ?_ (by rw [up2_ne (by omega), up2_ne (by omega)])⟩
    have hb := hT1.plan hk q3 q1 hv
    unfold ToldM
    have Rn : ∀ q, q ≠ z + 6 → q ≠ z + 84 → up2 (up2 I (z + 6) k (nI v)) (z + 84) (125 + k) (nI v) q = I q := fun q g1 g2 => by rw [up2_ne g2, up2_ne g1]
    have R5 : up2 (up2 I (z + 6) k (nI v)) (z + 84) (125 + k) (nI v) (z + (1 + 5)) = ur (I (z + (1 + 5))) k (nI v) := by rw [up2_ne (by omega)]; exact up2_r _ _ _ _
    rw [Rn (z + 1) (by omega) (by omega), Rn (z + (1 + 1)) (by omega) (by omega), Rn (z + (1 + 2)) (by omega) (by omega), Rn (z + (1 + 3)) (by omega) (by omega), Rn (z + (1 + 4)) (by omega) (by omega), R5, Rn (z + (1 + 6)) (by omega) (by omega), up2_r, up2_ne (by omega), ta_ur0 p125]
    exact hb
theorem Op_map_ok (hTX : TXok z TX) : Op_map z (Rel z TX Q) := by
  intro n hn S a b hR
  obtain ⟨W, H, I, J, t, u, w1, w2, w3, w4, rfl, hRI⟩ := hR
  obtain ⟨hG, hM, hT, hF, hT1, hT8, hP1, hP2, -⟩ := id hRI
  obtain ⟨k, hh, q1, q2, q3, q4, -⟩ := id hP1
  rw [pa0 _ (by decide)] at q4
  rcases op_map' (n := n) (J := J) (t := t) (u := u) (WH w2 w4) hG.2.2.1 hM.2.2.1 q1 q3 q4 a b with ⟨e1, e2⟩ | ⟨i, hi, hb, e1, e2⟩
  · exact ⟨_, _, _, e1, e2, W, H, I, J, t, u, w1, w2, w3, w4, rfl, hRI⟩
  · have p165 : tlj (165 + i) = true := by have := tlj_100 (i := 65 + i) (by omega); rwa [show 100 + (65 + i) = 165 + i by omega] at this
    refine ⟨_, _, _, e1, e2, W, H, _, J, t, u, w1, w2, w3, w4, rfl, hRI.told hTX (fun q g1 g2 => by rw [up2_ne g2, up2_ne (by omega)]) (fun j hj => by rw [up2_at, if_neg (tlj_f hj p165), up2_ne (by omega)]) ?_ (by rw [up2_ne (by omega), up2_ne (by omega)])⟩
    have hb := hT1.map hi hb
    unfold ToldM
    have Rn : ∀ q, q ≠ z + 7 → q ≠ z + 84 → up2 (up2 I (z + 7) i b) (z + 84) (165 + i) b q = I q := fun q g1 g2 => by rw [up2_ne g2, up2_ne g1]
    have R6 : up2 (up2 I (z + 7) i b) (z + 84) (165 + i) b (z + (1 + 6)) = ur (I (z + (1 + 6))) i b := by rw [up2_ne (by omega)]; exact up2_r _ _ _ _
    rw [Rn (z + 1) (by omega) (by omega), Rn (z + (1 + 1)) (by omega) (by omega), Rn (z + (1 + 2)) (by omega) (by omega), Rn (z + (1 + 3)) (by omega) (by omega), Rn (z + (1 + 4)) (by omega) (by omega), Rn (z + (1 + 5)) (by omega) (by omega), R6, up2_r, up2_ne (by omega), ta_ur0 p165]
    exact hb
theorem Op_wind_ok (hTX : TXok z TX) : Op_wind z (Rel z TX Q) := by
  intro n hn S a b c d hR
  obtain ⟨W, H, I, J, t, u, w1, w2, w3, w4, rfl, hRI⟩ := hR
  obtain ⟨hG, hM, hT, hF, hT1, hT8, hP1, hP2, -⟩ := id hRI
  obtain ⟨w, tx, q1, q2, q3, q4, -⟩ := id hT1
  rw [ta_in (by decide), Nat.zero_add, Nat.zero_add] at q4
  rcases op_wind' (n := n) (C := W * H) (J := J) (t := t) (u := u) q1 q3 q4 a b c d with ⟨e1, e2⟩ | ⟨hw, hok, e1, e2⟩
  · exact ⟨_, _, _, e1, e2, W, H, I, J, t, u, w1, w2, w3, w4, rfl, hRI⟩
  · have pw : ∀ i, i < 4 → tlj (100 + i + 4 * w) = true := fun i hi => by have := tlj_100 (i := i + 4 * w) (by omega); rwa [show 100 + (i + 4 * w) = 100 + i + 4 * w by omega] at this
    have r84 : rWind (cWind z I w a b c d) (z + 84) w a b c d (z + 84) = ur (ur (ur (ur (ur (I (z + 84)) (100 + 4 * w) a) (101 + 4 * w) b) (102 + 4 * w) c) (103 + 4 * w) d) 2 (nI (w + 1)) := by
      unfold rWind
      rw [up2_r, up2_r, up2_r, up2_r, up2_r]
      unfold cWind
      rw [up2_ne (by omega), up2_ne (by omega), up2_ne (by omega), up2_ne (by omega), up2_ne (by omega)]
    have rne : ∀ q, q ≠ z + 84 → rWind (cWind z I w a b c d) (z + 84) w a b c d q = cWind z I w a b c d q := fun q g => by
      unfold rWind
      rw [up2_ne g, up2_ne g, up2_ne g, up2_ne g, up2_ne g]
    refine ⟨_, _, _, e1, e2, W, H, _, J, t, u, w1, w2, w3, w4, rfl, hRI.told hTX (fun q g1 g2 => ?_) (fun j hj => ?_) ?_ ?_⟩
    · rw [rne q g2]
      unfold cWind
      rw [up2_ne (by omega), up2_ne (by omega), up2_ne (by omega), up2_ne (by omega), up2_ne (by omega)]
    · rw [r84, ur_ne _ _ (tlj_f hj (by decide)), ur_ne _ _ (tlj_f hj (pw 3 (by omega))), ur_ne _ _ (tlj_f hj (pw 2 (by omega))), ur_ne _ _ (tlj_f hj (pw 1 (by omega))), ur_ne _ _ (tlj_f hj (pw 0 (by omega)))]
    · have hb := hT1.wind hw q3 hok
      unfold ToldM
      rw [r84, ta_ur0 (by decide), ta_ur0 (pw 3 (by omega)), ta_ur0 (pw 2 (by omega)), ta_ur0 (pw 1 (by omega)), ta_ur0 (pw 0 (by omega)), rne _ (by omega), rne _ (by omega), rne _ (by omega), rne _ (by omega), rne _ (by omega), rne _ (by omega), rne _ (by omega)]
      have c0 : cWind z I w a b c d (z + 1) = ur (I (z + 1)) 6 (nI (w + 1)) := by
        unfold cWind
        rw [up2_ne (by omega), up2_ne (by omega), up2_ne (by omega), up2_ne (by omega), up2_r]
      have c1 : cWind z I w a b c d (z + (1 + 1)) = ur (I (z + (1 + 1))) w a := by
        unfold cWind
        rw [up2_ne (by omega), up2_ne (by omega), up2_ne (by omega)]
        exact (up2_r _ _ _ _).trans (by rw [up2_ne (by omega)])
      have c2 : cWind z I w a b c d (z + (1 + 2)) = ur (I (z + (1 + 2))) w b := by
        unfold cWind
        rw [up2_ne (by omega), up2_ne (by omega)]
        exact (up2_r _ _ _ _).trans (by rw [up2_ne (by omega), up2_ne (by omega)])
      have c3 : cWind z I w a b c d (z + (1 + 3)) = ur (I (z + (1 + 3))) w c := by
        unfold cWind
        rw [up2_ne (by omega)]
        exact (up2_r _ _ _ _).trans (by rw [up2_ne (by omega), up2_ne (by omega), up2_ne (by omega)])
      have c4 : cWind z I w a b c d (z + (1 + 4)) = ur (I (z + (1 + 4))) w d := by
        unfold cWind
        exact (up2_r _ _ _ _).trans (by rw [up2_ne (by omega), up2_ne (by omega), up2_ne (by omega), up2_ne (by omega)])
      have c5 : ∀ i, 5 ≤ i → cWind z I w a b c d (z + (1 + i)) = I (z + (1 + i)) := fun i hi => by
        unfold cWind
        rw [up2_ne (by omega), up2_ne (by omega), up2_ne (by omega), up2_ne (by omega), up2_ne (by omega)]
      rw [c0, c1, c2, c3, c4, c5 5 (by omega), c5 6 (by omega)]
      exact hb
    · rw [rne _ (by omega)]
      unfold cWind
      rw [up2_ne (by omega), up2_ne (by omega), up2_ne (by omega), up2_ne (by omega), up2_at, if_neg (by omega)]
end TO
