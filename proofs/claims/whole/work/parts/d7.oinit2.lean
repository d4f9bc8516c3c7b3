/-! INIT: both begin alike -/
section OJ
variable {n z C W H Q : Nat} {I : Nat → Nat → Int32} {J : Nat → Nat → Int64}
theorem gw_0 {j : Nat} (h : ¬ (j = 4 ∨ (85 ≤ j ∧ j < 91) ∨ (165 ≤ j ∧ j < 189) ∨ (240 ≤ j ∧ j < 288))) : gW9 (fun _ => 0) j = 0 := by
  unfold gW9 frW
  rw [if_neg (by omega), if_neg (by omega), if_neg (by omega), ur_ne _ _ (by omega)]
theorem gw_4 : gW9 (fun _ => 0) 4 = -1 := by
  unfold gW9 frW
  rw [if_neg (by omega), if_neg (by omega), if_neg (by omega), ur_at]
theorem gw_85 {j : Nat} (h : 85 ≤ j ∧ j < 91) : gW9 (fun _ => 0) j = -1 := by
  unfold gW9 frW
  rw [if_neg (by omega), if_neg (by omega), if_pos (by omega)]
theorem gw_165 {j : Nat} (h : 165 ≤ j ∧ j < 189) : gW9 (fun _ => 0) j = -1 := by
  unfold gW9 frW
  rw [if_neg (by omega), if_pos (by omega)]
theorem gw_240 {j : Nat} (h : 240 ≤ j ∧ j < 288) : gW9 (fun _ => 0) j = -1 := by
  unfold gW9 frW
  rw [if_pos (by omega)]
theorem pa_gw {j : Nat} (h : j ≤ 1 ∨ (10 ≤ j ∧ j < 98) ∨ (190 ≤ j ∧ j < 340)) : pa (gW9 (fun _ => 0)) 0 j = gW9 (fun _ => 0) j := by
  rw [pa_in (by unfold plj; simp only [Bool.or_eq_true, Bool.and_eq_true, decide_eq_true_eq]; omega), Nat.zero_add]
theorem ta_gw {j : Nat} (h : (2 ≤ j ∧ j ≤ 4) ∨ (100 ≤ j ∧ j < 189)) : ta (gW9 (fun _ => 0)) 0 j = gW9 (fun _ => 0) j := by
  rw [ta_in (by unfold tlj; simp only [Bool.or_eq_true, Bool.and_eq_true, decide_eq_true_eq]; omega), Nat.zero_add]
theorem told_0 {o B : Nat} (hB : B = 0 ∨ B = 340) (h84 : I (z + 84) = cpR (gW9 (fun _ => 0)) 0 1 340) (h0 : I (z + o) 6 = 0 ∧ I (z + o) 7 = 0 ∧ I (z + o) 8 = -1) (h5 : ∀ j, I (z + (o + 5)) j = 0) (h6 : ∀ j, j < 24 → I (z + (o + 6)) j = -1) : ToldM z C o I B := by
  have hta : ta (I (z + 84)) B = ta (gW9 (fun _ => 0)) 0 := by
    rw [h84]
    rcases hB with rfl | rfl
    · exact ta_cpo (f := 0) (g := 1) (w := 0) (by omega)
    · exact ta_cp (f := 0) (g := 1)
  unfold ToldM
  rw [hta]
  refine ⟨0, 0, by omega, by omega, h0.1, ?_, h0.2.1, ?_, ?_, Or.inl ?_, fun i hi => absurd hi (Nat.not_lt_zero _), fun k hk => ⟨?_, 0, by omega, Or.inr rfl, h5 k⟩, fun k hk => ⟨?_, Or.inl (h6 k hk)⟩⟩
  · rw [ta_gw (by omega), gw_0 (by omega)]; rfl
  · rw [ta_gw (by omega), gw_0 (by omega)]; rfl
  · rw [ta_gw (by omega), h0.2.2]; exact gw_4.symm
  · rw [ta_gw (by omega)]; exact gw_4
  · rw [ta_gw (by omega), gw_0 (by omega)]; exact h5 k
  · rw [ta_gw (by omega), gw_165 (by omega)]; exact h6 k hk
theorem plain_0 {o B : Nat} (hC : C ≤ 48) (hB : B = 0 ∨ B = 340) (h84 : I (z + 84) = cpR (gW9 (fun _ => 0)) 0 1 340) (h0 : I (z + o) 7 = 0 ∧ I (z + o) 8 = 0) (hJ : ∀ j, J (z + o) j = 0) (h4 : ∀ j, j < 6 → I (z + (o + 4)) j = -1) (h5 : ∀ j, I (z + (o + 5)) j = 0) (h6 : ∀ j, j < C → I (z + (o + 6)) j = -1) : PlainM z C Q o I J B := by
  have hpa : pa (I (z + 84)) B = pa (gW9 (fun _ => 0)) 0 := by
    rw [h84]
    rcases hB with rfl | rfl
    · exact pa_cpo (f := 0) (g := 1) (w := 0) (by omega)
    · exact pa_cp (f := 0) (g := 1)
  unfold PlainM
  rw [hpa]
  have z290 : ∀ c, c < C → pa (gW9 (fun _ => 0)) 0 (290 + c) = 0 := fun c hc => by rw [pa_gw (by omega), gw_0 (by omega)]
  refine ⟨0, 0, by omega, by omega, h0.1, ?_, h0.2, ?_, fun i hi => absurd hi (Nat.not_lt_zero _), fun c hc => Or.inl (z290 c hc), fun f hf => ⟨?_, Or.inl (h4 f hf)⟩, fun f hf => ⟨?_, 0, Nat.zero_le _, h5 f⟩, fun c hc => ⟨?_, Or.inl (h6 c hc)⟩, fun c hc => ?_, fun c hc => ?_, fun c hc => ⟨fun _ => z290 c hc, fun _ => ?_⟩, fun c hc => ?_, fun c hc => ⟨fun _ f hf e => ?_, fun _ => ?_⟩, fun c hc => ?_⟩
  · rw [pa_gw (by omega), gw_0 (by omega)]; rfl
  · rw [pa_gw (by omega), gw_0 (by omega)]; rfl
  · rw [pa_gw (by omega), gw_85 (by omega)]; exact h4 f hf
  · rw [pa_gw (by omega), gw_0 (by omega)]; exact h5 f
  · rw [pa_gw (by omega), gw_240 (by omega)]; exact h6 c hc
  · rw [pa_gw (by omega), gw_0 (by omega), hJ, bt_0, if_neg (by decide)]
  · rw [hJ, bt_0]
  · rw [hJ, bt_0]
  · rw [hJ, bt_0]
  · rw [h4 f hf] at e
    exact nI_nm1 (by omega) e.symm
  · rw [hJ, bt_0]
  · rw [hJ, bt_0]
theorem iA_1 : iA z (z + 1) = ur (fun _ => 0) 8 (-1) := by
  unfold iA
  rw [flI_ne (by omega), up2_r]; rfl
theorem iA_n {q : Nat} (h1 : q ≠ z + 1) (h7 : q ≠ z + 7) : iA z q = fun _ => 0 := by
  unfold iA
  rw [flI_ne h7, up2_ne h1]; rfl
theorem iB_n {q : Nat} (h8 : q ≠ z + 8) (h14 : q ≠ z + 14) : iB z q = iA z q := by
  unfold iB
  rw [flI_ne h14, up2_ne h8]
theorem iB_8 : iB z (z + 8) = ur (fun _ => 0) 8 (-1) := by
  unfold iB
  rw [flI_ne (by omega), up2_r, iA_n (by omega) (by omega)]
theorem iD_n {q : Nat} (h : q ≠ z + 17) : iD z q = iB z q := by
  unfold iD
  rw [up2_ne h, up2_ne h]
theorem iH_n {q : Nat} (h : q ≠ z + 30) : iH z W H q = iD z q := by
  unfold iH
  rw [up2_ne h, up2_ne h, up2_ne h]
theorem iK_n {q : Nat} (h : q < z + 49) (h1 : q ≠ z + 36) (h2 : q ≠ z + 38) (h3 : q ≠ z + 43) (h4 : q ≠ z + 45) : iK2 z W H q = iH z W H q := by
  unfold iK2 in2 iJ2 plI
  rw [flI_ne (by omega), flI_ne (by omega), flI_ne (by omega), flI_ne (by omega), flI_ne (by omega), flI_ne (by omega), flI_ne (by omega), flI_ne (by omega), flI_ne (by omega), flI_ne (by omega), flI_ne (by omega), flI_ne (by omega), flI_ne (by omega), flI_ne (by omega)]
theorem iK_36 {j : Nat} (h : j < 6) : iK2 z W H (z + 36) j = -1 := by
  unfold iK2 in2 iJ2 plI
  rw [flI_ne (by omega), flI_ne (by omega), flI_ne (by omega), flI_ne (by omega), flI_ne (by omega), flI_ne (by omega), flI_ne (by omega), flI_ne (by omega), flI_ne (by omega), flI_ne (by omega), flI_ne (by omega), flI_ne (by omega)]
  exact flI_at h
theorem iK_38 {j : Nat} (h : j < W * H) : iK2 z W H (z + 38) j = -1 := by
  unfold iK2 in2 iJ2 plI
  rw [flI_ne (by omega), flI_ne (by omega), flI_ne (by omega), flI_ne (by omega), flI_ne (by omega), flI_ne (by omega), flI_ne (by omega), flI_ne (by omega), flI_ne (by omega), flI_ne (by omega), flI_ne (by omega), flI_ne (by omega), flI_ne (by omega)]
  exact flI_at h
theorem iK_43 {j : Nat} (h : j < 6) : iK2 z W H (z + 43) j = -1 := by
  unfold iK2 in2 iJ2 plI
  rw [flI_ne (by omega), flI_ne (by omega), flI_ne (by omega), flI_ne (by omega), flI_ne (by omega), flI_ne (by omega), flI_ne (by omega), flI_ne (by omega), flI_ne (by omega), flI_ne (by omega)]
  exact flI_at h
theorem iK_45 {j : Nat} (h : j < W * H) : iK2 z W H (z + 45) j = -1 := by
  unfold iK2 in2 iJ2 plI
  rw [flI_ne (by omega), flI_ne (by omega), flI_ne (by omega), flI_ne (by omega), flI_ne (by omega), flI_ne (by omega), flI_ne (by omega), flI_ne (by omega), flI_ne (by omega), flI_ne (by omega), flI_ne (by omega)]
  exact flI_at h
theorem rel_0 (h2 : W ≤ 8) (h4 : H ≤ 6) (q : BkW z 83 kK2 (unK2 (W * H)) rK2 (iK2 z W H) J) (hG : GeoR W H (iH z W H (z + 30)) (J (z + 30)) (J (z + 31))) (hJ : ∀ q, q ≠ z + 30 → q ≠ z + 31 → J q = z0J q) (hI : I = upr (up2 (up2 (up2 (up2 (up2 (iK2 z W H) (z + 83) 8 (-1)) (z + 83) 9 (-1)) (z + 83) 1 (nI W)) (z + 83) 2 (nI H)) (z + 83) 3 (nI (W * H))) (z + 84) (cpR (gW9 (fun _ => 0)) 0 1 340)) : RelI z (TXx z) Q W H I J 0 := by
  have hC : W * H ≤ 48 := WH h2 h4
  have R : ∀ q, q ≠ z + 83 → q ≠ z + 84 → I q = iK2 z W H q := fun q a b => by rw [hI, upr_ne b, up2_ne a, up2_ne a, up2_ne a, up2_ne a, up2_ne a]
  have R84 : I (z + 84) = cpR (gW9 (fun _ => 0)) 0 1 340 := by rw [hI, upr_at]
  have L : ∀ q, q < z + 49 → q ≠ z + 36 → q ≠ z + 38 → q ≠ z + 43 → q ≠ z + 45 → I q = iH z W H q := fun q a b c d e => by rw [R q (by omega) (by omega), iK_n a b c d e]
  have L0 : ∀ q, q < z + 49 → q ≠ z + 36 → q ≠ z + 38 → q ≠ z + 43 → q ≠ z + 45 → q ≠ z + 30 → q ≠ z + 17 → I q = iB z q := fun q a b c d e f g => by rw [L q a b c d e, iH_n f, iD_n g]
  have O : ∀ q, q < z + 49 → q ≠ z + 36 → q ≠ z + 38 → q ≠ z + 43 → q ≠ z + 45 → q ≠ z + 30 → q ≠ z + 17 → q ≠ z + 8 → q ≠ z + 14 → q ≠ z + 1 → q ≠ z + 7 → ∀ j, I q j = 0 := fun q a b c d e f g x1 x2 x3 x4 j => by rw [L0 q a b c d e f g, iB_n x1 x2, iA_n x3 x4]
  have K83 : iK2 z W H (z + 83) = fun _ => 0 := q.2.2.2.1 _ (by omega)
  have r1 : I (z + 1) = ur (fun _ => 0) 8 (-1) := by rw [L0 _ (by omega) (by omega) (by omega) (by omega) (by omega) (by omega) (by omega), iB_n (by omega) (by omega), iA_1]
  have r8 : I (z + 8) = ur (fun _ => 0) 8 (-1) := by rw [L0 _ (by omega) (by omega) (by omega) (by omega) (by omega) (by omega) (by omega), iB_8]
  have m83 : ∀ j, j ≠ 1 → j ≠ 2 → j ≠ 3 → j ≠ 8 → j ≠ 9 → I (z + 83) j = 0 := fun j a b c d e => by rw [hI, upr_ne (by omega), up2_x (by omega), up2_x (by omega), up2_x (by omega), up2_x (by omega), up2_x (by omega), K83]
  refine ⟨?_, ⟨?_, ?_, ?_, m83 4 (by omega) (by omega) (by omega) (by omega) (by omega)⟩, ⟨0, by omega, O _ (by omega) (by omega) (by omega) (by omega) (by omega) (by omega) (by omega) (by omega) (by omega) (by omega) (by omega) 1, m83 7 (by omega) (by omega) (by omega) (by omega) (by omega), fun i hi => absurd hi (Nat.not_lt_zero _)⟩, ⟨?_, ?_⟩, told_0 (Or.inl rfl) R84 ?_ (O _ (by omega) (by omega) (by omega) (by omega) (by omega) (by omega) (by omega) (by omega) (by omega) (by omega) (by omega)) (fun j hj => ?_), told_0 (Or.inr rfl) R84 ?_ (O _ (by omega) (by omega) (by omega) (by omega) (by omega) (by omega) (by omega) (by omega) (by omega) (by omega) (by omega)) (fun j hj => ?_), plain_0 hC (Or.inl rfl) R84 ⟨O _ (by omega) (by omega) (by omega) (by omega) (by omega) (by omega) (by omega) (by omega) (by omega) (by omega) (by omega) 7, O _ (by omega) (by omega) (by omega) (by omega) (by omega) (by omega) (by omega) (by omega) (by omega) (by omega) (by omega) 8⟩ (fun j => by rw [hJ _ (by omega) (by omega)]; rfl) (fun j hj => ?_) (O _ (by omega) (by omega) (by omega) (by omega) (by omega) (by omega) (by omega) (by omega) (by omega) (by omega) (by omega)) (fun j hj => ?_), plain_0 hC (Or.inr rfl) R84 ⟨O _ (by omega) (by omega) (by omega) (by omega) (by omega) (by omega) (by omega) (by omega) (by omega) (by omega) (by omega) 7, O _ (by omega) (by omega) (by omega) (by omega) (by omega) (by omega) (by omega) (by omega) (by omega) (by omega) (by omega) 8⟩ (fun j => by rw [hJ _ (by omega) (by omega)]; rfl) (fun j hj => ?_) (O _ (by omega) (by omega) (by omega) (by omega) (by omega) (by omega) (by omega) (by omega) (by omega) (by omega) (by omega)) (fun j hj => ?_), 0, 0, Nat.le_refl _, Nat.le_refl _, by omega, by omega, ?_, ?_, Nat.le_refl _, fun r hr => absurd hr (Nat.not_lt_zero _)⟩
  · rw [L _ (by omega) (by omega) (by omega) (by omega) (by omega)]; exact hG
  · rw [hI, upr_ne (by omega), up2_x (by omega), up2_x (by omega), up2_v]
  · rw [hI, upr_ne (by omega), up2_x (by omega), up2_v]
  · rw [hI, upr_ne (by omega), up2_v]
  · rw [L _ (by omega) (by omega) (by omega) (by omega) (by omega), iH_n (by omega)]
    have a : iD z (z + 17) 0 = -1 := by unfold iD; rw [up2_x (by omega), up2_v]
    rw [a, hI, upr_ne (by omega), up2_x (by omega), up2_x (by omega), up2_x (by omega), up2_x (by omega), up2_v]
  · rw [L _ (by omega) (by omega) (by omega) (by omega) (by omega), iH_n (by omega)]
    have a : iD z (z + 17) 1 = -1 := by unfold iD; rw [up2_v]
    rw [a, hI, upr_ne (by omega), up2_x (by omega), up2_x (by omega), up2_x (by omega), up2_v]
  · rw [r1]; exact ⟨rfl, rfl, rfl⟩
  · rw [L0 _ (by omega) (by omega) (by omega) (by omega) (by omega) (by omega) (by omega), iB_n (by omega) (by omega)]
    exact flI_at hj
  · rw [r8]; exact ⟨rfl, rfl, rfl⟩
  · rw [L0 _ (by omega) (by omega) (by omega) (by omega) (by omega) (by omega) (by omega)]
    exact flI_at hj
  · rw [R _ (by omega) (by omega)]; exact iK_36 hj
  · rw [R _ (by omega) (by omega)]; exact iK_38 hj
  · rw [R _ (by omega) (by omega)]; exact iK_43 hj
  · rw [R _ (by omega) (by omega)]; exact iK_45 hj
  · rw [r1]; rfl
  · rw [r8]; rfl
theorem Op_init_ok : Op_init z (Rel z (TXx z) Q) := by
  intro n hn w h
  obtain ⟨W, w1, w2, w3, w4⟩ := cl_ok w 3 8 (by omega) (by omega)
  obtain ⟨H, h1, h2, h3, h4⟩ := cl_ok h 3 6 (by omega) (by omega)
  obtain ⟨J, e, q, g, j⟩ := i10_ok (n := n) (z := z) hn w1 w2 h1 h2 (w := w) (h := h) w3 h3
  refine ⟨_, _, e, ?_, i11_ok hn q w4 h4, W, H, _, J, 0, none, w1, w2, h1, h2, rfl, rel_0 w2 h2 q g j rfl⟩
  rw [bk_len]; exact q.1
end OJ
