/-! THE CLASS READS A TEXT, from its beginning to its answer -/
section CT
variable {n z C t L k : Nat} {tp : Nat → Nat} {u : Option Nat} {I : Nat → Nat → Int32} {J : Nat → Nat → Int64}
def tK2 (z : Nat) (x3 : Int32) (S24 : MS) : Option (Int32 × MS) := gR S24 (mR S24 z 5) 6 fun q25 => bd (sI S24 q25 1 (0 : Int32)) fun S27 => gR S27 (mR S27 z 6) 4 fun q29 => (if (mI S27 q29 0) = 0 then gR S27 (mR S27 z 3) 8 fun q31 => bd (sI S27 q31 7 ((mI S27 q31 7) + (1 : Int32))) fun S33 => some (x3, S33) else some ((-1 : Int32), S27))
def tJ2 (n z : Nat) (x3 : Int32) (S10 : MS) : Option (Int32 × MS) := gR S10 (mR S10 z 6) 4 fun q11 => gR S10 (mR S10 z 5) 6 fun q13 => gR S10 (mR S10 z 7) 16 fun q15 => ck (inb x3 (mN S10 q15)) (gN S10 (mR S10 q15 x3.toNatClampNeg) 7 fun q18 => cv (f_X4_begin n q11 q13 q18 S10) fun S19 => f_X10_text_L60 n z x3 (tK2 z x3) n (0 : Int32) S19)
theorem tx_eq (S : MS) : f_X10_text n z z S = gR S (mR S z 3) 8 fun q1 => bd (mI S q1 7) fun x3 => (if x3 < 0 then some ((-1 : Int32), S) else (if x3 < (4 : Int32) then gR S (mR S z 7) 16 fun q4 => ck (inb x3 (mN S q4)) (gN S (mR S q4 x3.toNatClampNeg) 7 fun q7 => (if q7 = none then gR S (mR S z 7) 16 fun q53 => jn (z + (mL S).length) fun q55 => bd (nw S q55 7 0) fun S56 => cv (f_X7_init n z q55 S56) fun S58 => ck (inb x3 (mN S58 q53)) (bd (sR S58 q53 x3.toNatClampNeg (some q55)) fun S62 => tJ2 n z x3 S62) else tJ2 n z x3 S)) else some ((-1 : Int32), S))) := rfl
/-- how the class's text ends -/
def OutY (z k L : Nat) (tp : Nat → Nat) (I I' : Nat → Nat → Int32) (r : Int32) (x : PrT) : Prop := match x with
  | Sum.inl e => r = -1 ∧ I' (z + 17) 0 = nI e.1 ∧ I' (z + 17) 1 = nI (psT L tp e.2) ∧ 1 ≤ e.1 ∧ e.1 ≤ 6 ∧ I' (z + 1) 7 = I (z + 1) 7
  | Sum.inr y => r = nI k ∧ I' (z + 17) 0 = 0 ∧ I' (z + 17) 1 = -1 ∧ ClsX z k I' (xOf y.2.1 y.2.2) ∧ I' (z + 1) 7 = nI (k + 1)
theorem mR22 (hk : k < t) : mR (mk z C I J t u) (z + 22) (nI k).toNatClampNeg = if (nI k).toNatClampNeg < t then some (z + (97 + 6 * (nI k).toNatClampNeg)) else none := by
  rw [mR_mk]
  unfold rO
  rw [if_pos rfl]
  split <;> rfl
theorem tJ2_ok (hn : 100000 ≤ n) (hk : k < t) (h4 : k < 4) (h7 : I (z + 1) 7 = nI k) (hT : TpC z L tp I) : ∃ r I', tJ2 n z (nI k) (mk z C I J t u) = some (r, mk z C I' J t (some (97 + 6 * k))) ∧ OutY z k L tp I I' r (pTx (tkT L tp) 21 0 [] []) ∧ I' (z + 15) 1 = 0 ∧ (∀ j, j ≠ 7 → I' (z + 1) j = I (z + 1) j) ∧ (∀ q, q ≠ z + 1 → q ≠ z + 15 → (q < z + 17 ∨ z + 21 < q) → (q < z + (97 + 6 * k) ∨ z + (97 + 6 * k + 5) < q) → I' q = I q) := by
  obtain ⟨N, so, I1, e1, o1, c1, f1⟩ := begin_ok (n := n) (C := C) (J := J) (u := u) hn hk hT
  obtain ⟨I2, e2, f2, o2⟩ := tl_ok (n := n) (z := z) (C := C) (t := t) (r := k) (N := N) (tk := tkT L tp) (pl := psT L tp) (J := J) (x3 := nI k) (Kt := tK2 z (nI k)) hn hk 21 n 0 so [] [] I1 rfl (by omega) c1 o1 (Nat.zero_le _)
  have fq : ∀ q, (q < z + 17 ∨ z + 21 < q) → (q < z + (97 + 6 * k) ∨ z + (97 + 6 * k + 5) < q) → I2 q = I q := fun q a b => by rw [f2 q (by omega) b, f1 q a (by omega)]
  have ev : tJ2 n z (nI k) (mk z C I J t u) = tK2 z (nI k) (mk z C I2 J t (some (97 + 6 * k))) := by
    unfold tJ2
    rw [g0z_6, g0z_5, g0z_7, n22, ck_t (inb_nI (by omega) (by omega)), mR22 hk, cl_nI (by omega), if_pos hk, gN_some hk, e1, cv_some]
    exact e2
  have v7 : I2 (z + 1) 7 = nI k := by rw [fq _ (by omega) (by omega)]; exact h7
  have m17 : mI (mk z C (up2 I2 (z + 15) 1 0) J t (some (97 + 6 * k))) (z + 17) 0 = I2 (z + 17) 0 := by rw [mI_mk, up2_ne (by omega)]
  rw [ev]
  unfold tK2
  simp only [bd]
  rw [g0z_5, sI_mk, g0z_6]
  cases hx : pTx (tkT L tp) 21 0 [] [] with
  | inl e =>
    rw [hx] at o2
    obtain ⟨-, d1, d2, d3, d4, d5, -⟩ := o2
    rw [if_neg (show ¬ mI (mk z C (up2 I2 (z + 15) 1 0) J t (some (97 + 6 * k))) (z + 17) 0 = 0 by
      rw [m17, d4]
      exact fun y => by have := (nI_inj (b := 0) (by omega) (by omega)).mp y; omega)]
    refine ⟨_, _, rfl, ⟨rfl, ?_, ?_, d1, d2, ?_⟩, up2_v, fun j hj => ?_, fun q a1 a2 a3 a4 => ?_⟩
    · rw [up2_ne (by omega)]; exact d4
    · rw [up2_ne (by omega)]; exact d5
    · rw [up2_ne (by omega), fq _ (by omega) (by omega)]
    · rw [up2_ne (by omega), fq _ (by omega) (by omega)]
    · rw [up2_ne a2, fq q a3 a4]
  | inr y =>
    rw [hx] at o2
    obtain ⟨⟨so', o3⟩, o4⟩ := o2
    have d4 : I2 (z + 17) 0 = 0 := o3.2.2.2.2.1
    have d5 : I2 (z + 17) 1 = -1 := o3.2.2.2.2.2.1
    rw [if_pos (show mI (mk z C (up2 I2 (z + 15) 1 0) J t (some (97 + 6 * k))) (z + 17) 0 = 0 by rw [m17, d4]), g0z_3, show mI (mk z C (up2 I2 (z + 15) 1 0) J t (some (97 + 6 * k))) (z + 1) 7 = nI k by rw [mI_mk, up2_ne (by omega)]; exact v7, show nI k + (1 : Int32) = nI (k + 1) from nI_pl k 1, sI_mk]
    refine ⟨_, _, rfl, ⟨rfl, ?_, ?_, (ck_cls o4 o3).congr (fun q hq => by rw [up2_ne (by omega), up2_ne (by omega)]), up2_v⟩, ?_, fun j hj => ?_, fun q a1 a2 a3 a4 => ?_⟩
    · rw [up2_ne (by omega), up2_ne (by omega)]; exact d4
    · rw [up2_ne (by omega), up2_ne (by omega)]; exact d5
    · rw [up2_ne (by omega), up2_v]
    · rw [up2_x (by omega), up2_ne (by omega), fq _ (by omega) (by omega)]
    · rw [up2_ne a1, up2_ne a2, fq q a3 a4]
end CT
