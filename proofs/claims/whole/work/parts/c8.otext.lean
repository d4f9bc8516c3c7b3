/-! TEXT: both answer the same and stay alike -/
section OT
variable {n z C t L k : Nat} {tp : Nat → Nat} {u : Option Nat} {I I' : Nat → Nat → Int32} {J : Nat → Nat → Int64}
theorem ClsX.rcg {r : Nat} {X : XT} (h : ∀ q, z + (97 + 6 * r) ≤ q → q ≤ z + (97 + 6 * r + 5) → I' q = I q) (hX : ClsX z r I X) : ClsX z r I' X := by
  unfold ClsX at hX ⊢
  rw [h _ (by omega) (by omega), h (z + (97 + 6 * r + 1 + 0)) (by omega) (by omega), h (z + (97 + 6 * r + 1 + 1)) (by omega) (by omega), h (z + (97 + 6 * r + 1 + 2)) (by omega) (by omega), h (z + (97 + 6 * r + 1 + 3)) (by omega) (by omega), h (z + (97 + 6 * r + 1 + 4)) (by omega) (by omega)]
  exact hX
theorem RefX.rcg {r : Nat} {X : XT} (hW : XW X) (h : ∀ j, 700 * r ≤ j → j < 700 * r + 700 → I' (z + 85) j = I (z + 85) j) (hX : RefX z r I X) : RefX z r I' X := by
  obtain ⟨w1, w2, -⟩ := hW
  obtain ⟨a, b, c⟩ := hX
  refine ⟨by rw [h _ (by omega) (by omega)]; exact a, fun i hi => ?_, fun j hj => ?_⟩
  · rw [h _ (by omega) (by omega), h _ (by omega) (by omega), h _ (by omega) (by omega), h _ (by omega) (by omega)]; exact b i hi
  · rw [h _ (by omega) (by omega), h _ (by omega) (by omega)]; exact c j hj
theorem ToldM.tx1 (h : ToldM z C 1 I 0) (hk : I (z + 1) 7 = nI k) (h4 : k < 4) (h1 : I' (z + 1) = ur (I (z + 1)) 7 (nI (k + 1))) (hr : ∀ i, 1 ≤ i → i ≤ 6 → I' (z + (1 + i)) = I (z + (1 + i))) (ha : I' (z + 84) = ur (I (z + 84)) 3 (nI (k + 1))) : ToldM z C 1 I' 0 := by
  unfold ToldM at h ⊢
  rw [h1, hr 1 (by omega) (by omega), hr 2 (by omega) (by omega), hr 3 (by omega) (by omega), hr 4 (by omega) (by omega), hr 5 (by omega) (by omega), hr 6 (by omega) (by omega), ha, ta_ur0 (by decide)]
  obtain ⟨w, tx, q1, q2, q3, q4, q5, q6, q7, q8, q9, q10, q11⟩ := h
  have e : tx = k := (nI_inj (by omega) (by omega)).mp (q5.symm.trans hk)
  subst e
  refine ⟨w, tx + 1, q1, by omega, ?_, ?_, ur_at _ _ _, ur_at _ _ _, ?_, ?_, fun i hi => ?_, fun j hj => ?_, fun j hj => ?_⟩
  · rw [ur_ne _ _ (by omega)]; exact q3
  · rw [ur_ne _ _ (by omega)]; exact q4
  · rw [ur_ne _ _ (by omega), ur_ne _ _ (by omega)]; exact q7
  · rw [ur_ne _ _ (by omega)]
    exact q8.imp id (fun ⟨r, a, b⟩ => ⟨r, by omega, b⟩)
  · rw [ur_ne _ _ (by omega), ur_ne _ _ (by omega), ur_ne _ _ (by omega), ur_ne _ _ (by omega)]; exact q9 i hi
  · rw [ur_ne _ _ (by omega)]; exact q10 j hj
  · rw [ur_ne _ _ (by omega)]; exact q11 j hj
theorem text_back {W H Q t' : Nat} {I0 I1 I2 : Nat → Nat → Int32} {J1 J2 : Nat → Nat → Int64} {r r' : Int32} {x : PrT} (h : RelI z (TXx z) Q W H I J t) (hk : I (z + 1) 7 = nI k) (h3 : I (z + 84) 3 = nI k) (h4 : k < 4) (ht : k < t') (ht4 : t' ≤ 4) (h0 : I0 (z + 1) 7 = nI k)
    (fC : ∀ q, q < z + (97 + 6 * k) → q ≠ z + 1 → q ≠ z + 15 → (q < z + 17 ∨ z + 21 < q) → I1 q = I q) (fC1 : ∀ j, j ≠ 7 → I1 (z + 1) j = I (z + 1) j) (fCJ : ∀ q, q < z + 97 → J1 q = J q) (h15 : I1 (z + 15) 1 = 0) (oY : OutY z k L tp I0 I1 r x) (fX : FrX z k I1 I2 J1 J2) (oX : OutX z k L tp I2 r' x) (hK : ∀ y, x = Sum.inr y → KW y.2.1 y.2.2) : r' = r ∧ RelI z (TXx z) Q W H I2 J2 t' := by
  obtain ⟨hG, hM, hT, hF, hT1, hT8, hP1, hP2, k0, k', x1, x2, x3, x4, x5, x6, x7, x8⟩ := h
  have e0 : k0 = k := (nI_inj (by omega) (by omega)).mp (x5.symm.trans hk)
  subst e0
  obtain ⟨f1, f2, f3, f4, f5, f6⟩ := fX
  have R : ∀ q, q < z + (97 + 6 * k0) → q ≠ z + 1 → q ≠ z + 15 → (q < z + 17 ∨ z + 21 < q) → q ≠ z + 83 → q ≠ z + 84 → q ≠ z + 85 → q ≠ z + 87 → I2 q = I q := fun q a1 a2 a3 a4 b1 b2 b3 b4 => by rw [f1 q b1 b2 b3 b4, fC q a1 a2 a3 a4]
  have R84 : ∀ j, j ≠ 3 → I2 (z + 84) j = I (z + 84) j := fun j hj => by rw [f4 j hj, fC _ (by omega) (by omega) (by omega) (by omega)]
  have R83 : ∀ j, j < 7 → I2 (z + 83) j = I (z + 83) j := fun j hj => by rw [f2 j hj, fC _ (by omega) (by omega) (by omega) (by omega)]
  have RJ : ∀ q, q < z + 97 → q ≠ z + 83 → J2 q = J q := fun q a b => by rw [f6 q b, fCJ q a]
  have R1 : ∀ j, j ≠ 7 → I2 (z + 1) j = I (z + 1) j := fun j hj => by rw [f1 _ (by omega) (by omega) (by omega) (by omega), fC1 j hj]
  have S1 : I2 (z + 1) 7 = I1 (z + 1) 7 := by rw [f1 _ (by omega) (by omega) (by omega) (by omega)]
  have S17 : I2 (z + 17) = I1 (z + 17) := f1 _ (by omega) (by omega) (by omega) (by omega)
  have p0 : pa (I2 (z + 84)) 0 = pa (I (z + 84)) 0 := pa_congr (fun j hj => R84 _ (fun e => by
    have : j = 3 := by omega
    rw [this] at hj; exact absurd hj (by decide)))
  have p1 : pa (I2 (z + 84)) 340 = pa (I (z + 84)) 340 := pa_congr (fun j hj => R84 _ (by omega))
  have t1 : ta (I2 (z + 84)) 340 = ta (I (z + 84)) 340 := by
    funext j
    unfold ta
    rw [R84 _ (by omega)]
  have old : ∀ q, q < k0 → ∃ X, XW X ∧ ClsX z q I2 X ∧ RefX z q I2 X := fun q hq => by
    obtain ⟨X, X1, X2, X3⟩ := x8 q hq
    exact ⟨X, X1, X2.rcg (fun a a1 a2 => R a (by omega) (by omega) (by omega) (by omega) (by omega) (by omega) (by omega) (by omega)), X3.rcg X1 (fun j j1 j2 => by rw [f5 j (by omega), fC _ (by omega) (by omega) (by omega) (by omega)])⟩
  have cG : GeoR W H (I2 (z + 30)) (J2 (z + 30)) (J2 (z + 31)) := by rw [R _ (by omega) (by omega) (by omega) (by omega) (by omega) (by omega) (by omega) (by omega), RJ _ (by omega) (by omega), RJ _ (by omega) (by omega)]; exact hG
  have cM : I2 (z + 83) 1 = nI W ∧ I2 (z + 83) 2 = nI H ∧ I2 (z + 83) 3 = nI (W * H) ∧ I2 (z + 83) 4 = 0 := by rw [R83 _ (by omega), R83 _ (by omega), R83 _ (by omega), R83 _ (by omega)]; exact hM
  have cT : TapeR (I2 (z + 15) 1) (I2 (z + 83) 7) (I2 (z + 16)) (I2 (z + 86)) := ⟨0, by omega, by rw [f1 _ (by omega) (by omega) (by omega) (by omega), h15]; rfl, by rw [f3]; rfl, fun i hi => absurd hi (Nat.not_lt_zero _)⟩
  have c8 : ToldM z (W * H) 8 I2 340 := hT8.keep (fun i hi => R _ (by omega) (by omega) (by omega) (by omega) (by omega) (by omega) (by omega) (by omega)) t1
  have cP1 : PlainM z (W * H) Q 32 I2 J2 0 := hP1.keep (fun i hi => R _ (by omega) (by omega) (by omega) (by omega) (by omega) (by omega) (by omega) (by omega)) (RJ _ (by omega) (by omega)) p0
  have cP2 : PlainM z (W * H) Q 39 I2 J2 340 := hP2.keep (fun i hi => R _ (by omega) (by omega) (by omega) (by omega) (by omega) (by omega) (by omega) (by omega)) (RJ _ (by omega) (by omega)) p1
  have c87 : I2 (z + 8) 7 = nI k' := by rw [R _ (by omega) (by omega) (by omega) (by omega) (by omega) (by omega) (by omega) (by omega)]; exact x6
  cases x with
  | inl e =>
    obtain ⟨y1, y2, y3, y4, y5, y6⟩ := oY
    obtain ⟨u1, u2, u3, u4⟩ := oX
    have r1 : I2 (z + 1) = I (z + 1) := funext fun j => by
      by_cases hj : j = 7
      · rw [hj, S1, y6, h0, hk]
      · exact R1 j hj
    have r84 : I2 (z + 84) = I (z + 84) := funext fun j => by
      by_cases hj : j = 3
      · rw [hj, u4, h3]
      · exact R84 j hj
    refine ⟨by rw [u1, y1], cG, cM, cT, ⟨by rw [S17, y2, u2], by rw [S17, y3, u3]⟩, hT1.keep (fun i hi => ?_) (by rw [r84]), c8, cP1, cP2, k0, k', x1, by omega, x3, ht4, by rw [r1]; exact hk, c87, by omega, old⟩
    by_cases hi0 : i = 0
    · rw [hi0]; exact r1
    · exact R _ (by omega) (by omega) (by omega) (by omega) (by omega) (by omega) (by omega) (by omega)
  | inr y =>
    obtain ⟨y1, y2, y3, y4, y5⟩ := oY
    obtain ⟨u1, u2, u3, u4, u5, u6⟩ := oX
    refine ⟨by rw [u1, y1], cG, cM, cT, ⟨by rw [S17, y2, u2], by rw [S17, y3, u3]⟩, hT1.tx1 hk h4 ?_ (fun i i1 hi => R _ (by omega) (by omega) (by omega) (by omega) (by omega) (by omega) (by omega) (by omega)) ?_, c8, cP1, cP2, k0 + 1, k', by omega, by omega, by omega, ht4, by rw [S1, y5], c87, by omega, fun q hq => ?_⟩
    · funext j
      by_cases hj : j = 7
      · rw [hj, ur_at, S1, y5]
      · rw [ur_ne _ _ hj]; exact R1 j hj
    · funext j
      by_cases hj : j = 3
      · rw [hj, ur_at, u6]
      · rw [ur_ne _ _ hj]; exact R84 j hj
    · by_cases e : q = k0
      · rw [e]
        exact ⟨_, (hK y rfl).xw u5, y4.rcg (fun a a1 a2 => f1 a (by omega) (by omega) (by omega) (by omega)), u4⟩
      · exact old q (by omega)
theorem mR22n (hk : ¬ k < t) (h4 : k < 4) : mR (mk z C I J t u) (z + 22) (nI k).toNatClampNeg = none := by
  rw [mR_mk, cl_nI (by omega)]
  unfold rO
  rw [if_pos rfl, if_neg hk]
  rfl
theorem Op_text_ok {Q : Nat} : Op_text z (Rel z (TXx z) Q) := by
  intro n hn S hR
  obtain ⟨W, H, I, J, t, u, w1, w2, w3, w4, rfl, hRI⟩ := hR
  obtain ⟨hG, hM, hT, hF, hT1, hT8, hP1, hP2, k, k', x1, x2, x3, x4, x5, x6, x7, x8⟩ := id hRI
  have h3 : I (z + 84) 3 = nI k := by
    obtain ⟨w, tx, q1, q2, q3, q4, q5, q6, -⟩ := id hT1
    rw [ta_in (by decide), Nat.zero_add, Nat.zero_add] at q6
    have e : tx = k := (nI_inj (by omega) (by omega)).mp (q5.symm.trans x5)
    rw [← e]; exact q6
  have m7 : mI (mk z (W * H) I J t u) (z + 1) 7 = nI k := x5
  have m3 : mI (mk z (W * H) I J t u) (z + 84) (3 : Int32).toNatClampNeg = nI k := h3
  have n0 : ¬ nI k < 0 := fun y => by have := (nI_lt' (b := 0) (by omega) (by omega)).mp y; omega
  by_cases h4 : k < 4
  · obtain ⟨L, l1, l2, l3, l5⟩ := hT
    obtain ⟨tp, htp⟩ : ∃ tp : Nat → Nat, tp = fun i => (I (z + 86) i).toNatClampNeg := ⟨_, rfl⟩
    have tv : ∀ i, i < L → I (z + 86) i = nI (tp i) ∧ tp i < 256 ∧ I (z + 16) i = nI (tp i) := fun i hi => by
      obtain ⟨a1, v, a2, a3⟩ := l5 i hi
      have e : tp i = v := by rw [htp]; show (I (z + 86) i).toNatClampNeg = v; rw [a3, cl_nI (by omega)]
      rw [e]; exact ⟨a3, a2, a1.trans a3⟩
    have fin : ∀ (I0 : Nat → Nat → Int32) (J0 : Nat → Nat → Int64) (t' : Nat) (u0 : Option Nat), (∀ q, q < z + (97 + 6 * k) → I0 q = I q) → (∀ q, q < z + 97 → J0 q = J q) → k < t' → t' ≤ 4 → ∃ (r : Int32) (S1 S2 : MS), tJ2 n z (nI k) (mk z (W * H) I0 J0 t' u0) = some (r, S1) ∧ f_X11_text n (z + 83) S1 = some (r, S2) ∧ Rel z (TXx z) Q S2 := fun I0 J0 t' u0 g1 g2 g3 g4 => by
      obtain ⟨r, I1, e1, oY, h15, fC1, fC⟩ := tJ2_ok (n := n) (z := z) (I := I0) (C := W * H) (J := J0) (u := u0) (L := L) (tp := tp) hn g3 h4 (by rw [g1 _ (by omega)]; exact x5) ⟨by rw [g1 _ (by omega)]; exact l2, l1, fun j hj => by rw [g1 _ (by omega)]; exact ⟨(tv j hj).2.2, (tv j hj).2.1⟩⟩
      have fq : ∀ q, q < z + (97 + 6 * k) → q ≠ z + 1 → q ≠ z + 15 → (q < z + 17 ∨ z + 21 < q) → I1 q = I q := fun q a1 a2 a3 a4 => by rw [fC q a2 a3 a4 (Or.inl a1), g1 q a1]
      have h3' : I1 (z + 84) 3 = nI k := by rw [fq _ (by omega) (by omega) (by omega) (by omega)]; exact h3
      obtain ⟨r', I2, J2, e2, fX, oX⟩ := rx_ok (n := n) (z := z) (I := I1) (C := W * H) (J := J0) (t := t') (u := some (97 + 6 * k)) (L := L) (tp := tp) hn h4 h3' ⟨by rw [fq _ (by omega) (by omega) (by omega) (by omega)]; exact l3, l1, fun j hj => by rw [fq _ (by omega) (by omega) (by omega) (by omega)]; exact ⟨(tv j hj).1, (tv j hj).2.1⟩⟩ (fun e he => by
        rw [he] at oY
        exact ⟨oY.2.2.2.1, oY.2.2.2.2.1⟩)
      obtain ⟨er, hRl⟩ := text_back (I0 := I0) hRI x5 h3 h4 g3 g4 (by rw [g1 _ (by omega)]; exact x5) fq (fun j hj => by rw [fC1 j hj, g1 _ (by omega)]) g2 h15 oY fX oX (fun y hy => pTx_KW 21 0 [] [] y hy KW_nil)
      rw [er] at e2
      exact ⟨r, _, _, e1, e2, W, H, I2, J2, t', _, w1, w2, w3, w4, rfl, hRl⟩
    have pre : f_X10_text n z z (mk z (W * H) I J t u) = gN (mk z (W * H) I J t u) (mR (mk z (W * H) I J t u) (z + 22) (nI k).toNatClampNeg) 7 fun q7 => (if q7 = none then gR (mk z (W * H) I J t u) (mR (mk z (W * H) I J t u) z 7) 16 fun q53 => jn (z + (mL (mk z (W * H) I J t u)).length) fun q55 => bd (nw (mk z (W * H) I J t u) q55 7 0) fun S56 => cv (f_X7_init n z q55 S56) fun S58 => ck (inb (nI k) (mN S58 q53)) (bd (sR S58 q53 (nI k).toNatClampNeg (some q55)) fun S62 => tJ2 n z (nI k) S62) else tJ2 n z (nI k) (mk z (W * H) I J t u)) := by
      rw [tx_eq, g0z_3]
      show (if mI (mk z (W * H) I J t u) (z + 1) 7 < 0 then _ else _) = _
      rw [m7, if_neg n0, if_pos (show nI k < (4 : Int32) from (nI_lt' (b := 4) (by omega) (by omega)).mpr h4), g0z_7, n22, ck_t (inb_nI (by omega) (by omega))]
    by_cases hk : k < t
    · have := fin I J t u (fun _ _ => rfl) (fun _ _ => rfl) hk x4
      rw [pre, mR22 hk, cl_nI (by omega), if_pos hk, gN_some hk, if_neg (fun y => by cases y)]
      exact this
    · have e : k = t := by omega
      subst e
      have := fin (z6 I 0 (z + (97 + 6 * k))) (z6 J 0 (z + (97 + 6 * k))) (k + 1) u (fun q hq => z6_lt hq) (fun q hq => z6_lt (by omega)) (by omega) (by omega)
      rw [pre, mR22n hk h4, gN_none, if_pos rfl, g0z_7]
      simp only [jn, bd]
      rw [mk_len, init7_ok (l := 97 + 6 * k + 1) (by rw [nw_len, mk_len]), cv_some, cl_nI (by omega)]
      have nt := new_text (z := z) (C := W * H) (t := k) (I := I) (J := J) (u := u)
      have hN : mN (s7T z (z + (97 + 6 * k)) (97 + 6 * k + 1) (nw (mk z (W * H) I J k u) (z + (97 + 6 * k)) 7 0)) (z + 22) = 4 := by
        have h5 : mN (sR (s7T z (z + (97 + 6 * k)) (97 + 6 * k + 1) (nw (mk z (W * H) I J k u) (z + (97 + 6 * k)) 7 0)) (z + 22) k (some (z + (97 + 6 * k)))) (z + 22) = 4 := by rw [nt, n22]
        exact h5
      rw [hN, ck_t (inb_nI (by omega) (by omega)), nt]
      exact this
  · have e : k = 4 := by omega
    subst e
    refine ⟨-1, mk z (W * H) I J t u, mk z (W * H) I J t u, ?_, ?_, W, H, I, J, t, u, w1, w2, w3, w4, rfl, hRI⟩
    · rw [tx_eq, g0z_3]
      show (if mI (mk z (W * H) I J t u) (z + 1) 7 < 0 then _ else _) = _
      rw [m7, if_neg n0, if_neg (by decide)]
    · unfold f_X11_text
      rw [g83_0, n84, ck_t (by decide), m3, if_pos (by decide)]
end OT
