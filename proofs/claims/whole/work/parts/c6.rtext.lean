/-! THE REFERENCE READS A TEXT, from its beginning to its answer -/
section RT
variable {n z C t L k : Nat} {tp : Nat → Nat} {u : Option Nat} {I : Nat → Nat → Int32} {J : Nat → Nat → Int64}
theorem nI_any (v : Int32) : ∃ m, v = nI m := by
  refine ⟨v.toUInt32.toNat, ?_⟩
  apply Int32.toBitVec_inj.mp
  apply BitVec.eq_of_toNat_eq
  show v.toBitVec.toNat = (BitVec.ofNat 32 v.toBitVec.toNat).toNat
  rw [BitVec.toNat_ofNat, Nat.mod_eq_of_lt v.toBitVec.isLt]
def FrT (z r : Nat) (I I' : Nat → Nat → Int32) (J J' : Nat → Nat → Int64) : Prop := (∀ q, q ≠ z + 83 → q ≠ z + 85 → q ≠ z + 87 → I' q = I q) ∧ (∀ j, j < 10 → I' (z + 83) j = I (z + 83) j) ∧ (∀ j, (j < 700 * r ∨ 700 * r + 700 ≤ j) → I' (z + 85) j = I (z + 85) j) ∧ (∀ q, q ≠ z + 83 → J' q = J q)
theorem rt_ok (hn : 100000 ≤ n) (hk : k < 4) (h3 : I (z + 84) 3 = nI k) (hT : TpR z L tp I) (hF : ∀ e, pTx (tkT L tp) 21 0 [] [] = Sum.inl e → 1 ≤ e.1 ∧ e.1 ≤ 6) : ∃ g I' J', f_X11_readText n (z + 83) (mk z C I J t u) = some (nI g, mk z C I' J' t u) ∧ FrT z k I I' J J' ∧ OutTr z k (TqR z L tp) g I' J' (pTx (tkT L tp) 21 0 [] []) := by
  have m3 : mI (mk z C I J t u) (z + 84) (3 : Int32).toNatClampNeg = nI k := h3
  have x7 : (700 : Int32) * nI k = nI (700 * k) := nI_ml 700 k
  obtain ⟨I1, hI1⟩ : ∃ I1, I1 = up2 (up2 (up2 (up2 (up2 (up2 I (z + 83) 15 (nI (700 * k))) (z + 85) (700 * k) 0) (z + 83) 17 0) (z + 83) 21 0) (z + 83) 24 0) (z + 83) 10 0 := ⟨_, rfl⟩
  have Rq : ∀ q, q ≠ z + 83 → q ≠ z + 85 → I1 q = I q := fun q a b => by rw [hI1, up2_ne a, up2_ne a, up2_ne a, up2_ne a, up2_ne b, up2_ne a]
  have R83 : ∀ j, j < 10 → I1 (z + 83) j = I (z + 83) j := fun j a => by rw [hI1, up2_x (by omega), up2_x (by omega), up2_x (by omega), up2_x (by omega), up2_x (by omega), up2_x (by omega)]
  have R85 : ∀ j, j ≠ 700 * k → I1 (z + 85) j = I (z + 85) j := fun j a => by rw [hI1, up2_x (by omega), up2_x (by omega), up2_x (by omega), up2_x (by omega), up2_x (by omega), up2_x (by omega)]
  have v10 : I1 (z + 83) 10 = nI 0 := by rw [hI1, up2_v]; rfl
  have v24 : I1 (z + 83) 24 = nI 0 := by rw [hI1, up2_x (by omega), up2_v]; rfl
  have v21 : I1 (z + 83) 21 = nI 0 := by rw [hI1, up2_x (by omega), up2_x (by omega), up2_v]; rfl
  have v17 : I1 (z + 83) 17 = nI 0 := by rw [hI1, up2_x (by omega), up2_x (by omega), up2_x (by omega), up2_v]; rfl
  have v85 : I1 (z + 85) (700 * k) = nI 0 := by rw [hI1, up2_x (by omega), up2_x (by omega), up2_x (by omega), up2_x (by omega), up2_v]; rfl
  have v15 : I1 (z + 83) 15 = nI (700 * k) := by rw [hI1, up2_x (by omega), up2_x (by omega), up2_x (by omega), up2_x (by omega), up2_x (by omega), up2_v]
  have hT1 : TpR z L tp I1 := ⟨by rw [R83 _ (by omega)]; exact hT.1, hT.2.1, fun j hj => by rw [Rq _ (by omega) (by omega)]; exact hT.2.2 j hj⟩
  obtain ⟨I2, J2, e2, f2, g2, l2⟩ := ntk_ok (n := n) (C := C) (t := t) (u := u) (J := J) hn (p0 := 0) (Nat.zero_le _) hT1 v10
  have hb : ∀ j, j < L → tp j < 256 := fun j hj => (hT.2.2 j hj).2
  have q2 : ∀ q, q ≠ z + 83 → I2 q = I1 q := fun q a => funext fun j => f2 q j (fun y => a y.1)
  have q83 : ∀ j, ¬ (10 ≤ j ∧ j ≤ 13) → I2 (z + 83) j = I1 (z + 83) j := fun j a => f2 _ j (fun y => by
    have y2 : j = 10 ∨ j = 11 ∨ j = 12 ∨ j = 13 := y.2
    omega)
  obtain ⟨so, hso⟩ := nI_any (I2 (z + 83) 23)
  have hq : TqR z L tp I2 J2 0 := ⟨⟨by rw [q83 _ (by omega)]; exact hT1.1, hT1.2.1, fun j hj => by rw [q2 _ (by omega)]; exact hT1.2.2 j hj⟩, Nat.zero_le _, (psT_b hb 0).1, l2⟩
  have hw : RfW z k so (TqR z L tp) I2 J2 0 [] [] 0 false := ⟨hq, by rw [q83 _ (by omega)]; exact v15, by rw [q83 _ (by omega)]; exact v17, (fun j hj => absurd hj (Nat.not_lt_zero _)), trivial, trivial, by rw [q83 _ (by omega)]; exact v21, trivial, hso, by decide, trivial, by decide, hk⟩
  have hR : RkS z k I2 [] := ⟨by rw [q2 _ (by omega)]; exact v85, (fun i hi => absurd hi (Nat.not_lt_zero _))⟩
  have hM : MkS z I2 (([] : List Cl4).map (fun k => k.1)) := ⟨0, by decide, by rw [q83 _ (by omega)]; exact v24, fun s hs => ⟨(fun w => by rw [Nat.zero_testBit] at w; cases w), (fun w => by cases w)⟩⟩
  obtain ⟨g, I3, J3, e3, f3, o3⟩ := tr_ok (n := n) (z := z) (C := C) (t := t) (r := k) hn (u := u) (tok_ok hn) (tkT_E hT.2.1 hb) 21 n 0 so [] [] [] false I2 J2 rfl (by omega) hw hR hM (by decide) (Nat.zero_le _) hF
  refine ⟨g, I3, J3, ?_, ⟨fun q a b c => ?_, fun j hj => ?_, fun j hj => ?_, fun q hq => ?_⟩, o3⟩
  · unfold f_X11_readText
    simp only [bd]
    rw [g83_0, n84, ck_t (by decide), m3, x7, sI_mk, g83_5, n85, show mI (mk z C (up2 I (z + 83) 15 (nI (700 * k))) J t u) (z + 83) 15 = nI (700 * k) from up2_v, ck_t (inb_nI (by omega) (by omega)), cl_nI (by omega), sI_mk, sI_mk, sI_mk, sI_mk, sI_mk, ← hI1, e2, cv_some]
    exact e3
  · rw [f3.1 q a b c, q2 q a, Rq q a b]
  · rw [f3.2.1 j (by omega), q83 _ (by omega), R83 j hj]
  · rw [f3.2.2.1 j hj, q2 _ (by omega), R85 j (by omega)]
  · rw [f3.2.2.2 q hq]
    funext j
    exact g2 q j (fun y => hq y.1)
/-- how the reference's text ends -/
def OutX (z k L : Nat) (tp : Nat → Nat) (I' : Nat → Nat → Int32) (r : Int32) (x : PrT) : Prop := match x with
  | Sum.inl e => r = -1 ∧ I' (z + 83) 8 = nI e.1 ∧ I' (z + 83) 9 = nI (psT L tp e.2) ∧ I' (z + 84) 3 = nI k
  | Sum.inr y => r = nI k ∧ I' (z + 83) 8 = 0 ∧ I' (z + 83) 9 = -1 ∧ RefX z k I' (xOf y.2.1 y.2.2) ∧ y.2.2.length ≤ 300 ∧ I' (z + 84) 3 = nI (k + 1)
def FrX (z k : Nat) (I I' : Nat → Nat → Int32) (J J' : Nat → Nat → Int64) : Prop := (∀ q, q ≠ z + 83 → q ≠ z + 84 → q ≠ z + 85 → q ≠ z + 87 → I' q = I q) ∧ (∀ j, j < 7 → I' (z + 83) j = I (z + 83) j) ∧ I' (z + 83) 7 = 0 ∧ (∀ j, j ≠ 3 → I' (z + 84) j = I (z + 84) j) ∧ (∀ j, (j < 700 * k ∨ 700 * k + 700 ≤ j) → I' (z + 85) j = I (z + 85) j) ∧ (∀ q, q ≠ z + 83 → J' q = J q)
theorem rx_ok (hn : 100000 ≤ n) (hk : k < 4) (h3 : I (z + 84) 3 = nI k) (hT : TpR z L tp I) (hF : ∀ e, pTx (tkT L tp) 21 0 [] [] = Sum.inl e → 1 ≤ e.1 ∧ e.1 ≤ 6) : ∃ r I' J', f_X11_text n (z + 83) (mk z C I J t u) = some (r, mk z C I' J' t u) ∧ FrX z k I I' J J' ∧ OutX z k L tp I' r (pTx (tkT L tp) 21 0 [] []) := by
  obtain ⟨g, I1, J1, e1, ⟨f1, f2, f3, f4⟩, o1⟩ := rt_ok (n := n) (C := C) (t := t) (u := u) (J := J) hn hk h3 hT hF
  have m3 : mI (mk z C I J t u) (z + 84) (3 : Int32).toNatClampNeg = nI k := h3
  have v3 : I1 (z + 84) 3 = nI k := by rw [f1 _ (by omega) (by omega) (by omega)]; exact h3
  unfold f_X11_text
  simp only [bd, jn]
  rw [g83_0, n84, ck_t (by decide), m3, if_neg (show ¬ nI k = (4 : Int32) from fun y => by have := (nI_inj (b := 4) (by omega) (by omega)).mp y; omega), e1, cl_some, sI_mk]
  have m8 : mI (mk z C (up2 I1 (z + 83) 8 (nI g)) J1 t u) (z + 83) 8 = nI g := up2_v
  cases hx : pTx (tkT L tp) 21 0 [] [] with
  | inl e =>
    rw [hx] at o1
    obtain ⟨c1, c2⟩ := hF e hx
    obtain ⟨o2, o3⟩ := o1
    have hg : ¬ nI g = 0 := fun y => by have := (nI_inj (b := 0) (by omega) (by omega)).mp y; omega
    have m11 : mI (mk z C (up2 I1 (z + 83) 8 (nI g)) J1 t u) (z + 83) 11 = nI (psT L tp e.2) := by rw [mI_mk, up2_x (by omega)]; exact o3.2.2.2.1
    rw [if_neg (show ¬ mI (mk z C (up2 I1 (z + 83) 8 (nI g)) J1 t u) (z + 83) 8 = 0 by rw [m8]; exact hg), sI_mk, sI_mk, m11]
    have m8' : mI (mk z C (up2 (up2 (up2 I1 (z + 83) 8 (nI g)) (z + 83) 9 (nI (psT L tp e.2))) (z + 83) 7 0) J1 t u) (z + 83) 8 = nI g := by rw [mI_mk, up2_x (by omega), up2_x (by omega), up2_v]
    rw [if_neg (show ¬ mI (mk z C (up2 (up2 (up2 I1 (z + 83) 8 (nI g)) (z + 83) 9 (nI (psT L tp e.2))) (z + 83) 7 0) J1 t u) (z + 83) 8 = 0 by rw [m8']; exact hg)]
    refine ⟨_, _, _, rfl, ⟨fun q a1 a2 a3 a4 => ?_, fun j hj => ?_, up2_v, fun j hj => ?_, fun j hj => ?_, f4⟩, rfl, ?_, ?_, ?_⟩
    · rw [up2_ne a1, up2_ne a1, up2_ne a1, f1 q a1 a3 a4]
    · rw [up2_x (by omega), up2_x (by omega), up2_x (by omega), f2 j (by omega)]
    · rw [up2_ne (by omega), up2_ne (by omega), up2_ne (by omega), f1 _ (by omega) (by omega) (by omega)]
    · rw [up2_ne (by omega), up2_ne (by omega), up2_ne (by omega), f3 j hj]
    · rw [up2_x (by omega), up2_x (by omega), up2_v, o2]
    · rw [up2_x (by omega), up2_v]
    · rw [up2_ne (by omega), up2_ne (by omega), up2_ne (by omega)]; exact v3
  | inr y =>
    rw [hx] at o1
    obtain ⟨o2, ⟨so, p, w, o3⟩, o4⟩ := o1
    have hg : nI g = 0 := by rw [o2]; rfl
    rw [if_pos (show mI (mk z C (up2 I1 (z + 83) 8 (nI g)) J1 t u) (z + 83) 8 = 0 by rw [m8]; exact hg), sI_mk, sI_mk]
    have m8' : mI (mk z C (up2 (up2 (up2 I1 (z + 83) 8 (nI g)) (z + 83) 9 (-1)) (z + 83) 7 0) J1 t u) (z + 83) 8 = nI g := by rw [mI_mk, up2_x (by omega), up2_x (by omega), up2_v]
    have m84 : mI (mk z C (up2 (up2 (up2 I1 (z + 83) 8 (nI g)) (z + 83) 9 (-1)) (z + 83) 7 0) J1 t u) (z + 84) (3 : Int32).toNatClampNeg = nI k := by rw [mI_mk, up2_ne (by omega), up2_ne (by omega), up2_ne (by omega)]; exact v3
    rw [if_pos (show mI (mk z C (up2 (up2 (up2 I1 (z + 83) 8 (nI g)) (z + 83) 9 (-1)) (z + 83) 7 0) J1 t u) (z + 83) 8 = 0 by rw [m8']; exact hg), g83_0, n84, ck_t (by decide), ck_t (by decide), m84, show nI k + (1 : Int32) = nI (k + 1) from nI_pl k 1, sI_mk, g83_0, n84, ck_t (by decide)]
    have m84' : mI (mk z C (up2 (up2 (up2 (up2 I1 (z + 83) 8 (nI g)) (z + 83) 9 (-1)) (z + 83) 7 0) (z + 84) (3 : Int32).toNatClampNeg (nI (k + 1))) J1 t u) (z + 84) (3 : Int32).toNatClampNeg = nI (k + 1) := up2_v
    rw [m84', nI_s1 (by omega), Nat.add_sub_cancel]
    have R : ∀ q, q ≠ z + 83 → q ≠ z + 84 → up2 (up2 (up2 (up2 I1 (z + 83) 8 (nI g)) (z + 83) 9 (-1)) (z + 83) 7 0) (z + 84) (3 : Int32).toNatClampNeg (nI (k + 1)) q = I1 q := fun q a b => by rw [up2_ne b, up2_ne a, up2_ne a, up2_ne a]
    refine ⟨_, _, _, rfl, ⟨fun q a1 a2 a3 a4 => ?_, fun j hj => ?_, ?_, fun j hj => ?_, fun j hj => ?_, f4⟩, rfl, ?_, ?_, (rk_ref o4 o3).congr (R _ (by omega) (by omega)), o3.2.2.2.2.2.2.2.2.2.1, up2_v⟩
    · rw [R q a1 a2, f1 q a1 a3 a4]
    · rw [up2_ne (by omega), up2_x (by omega), up2_x (by omega), up2_x (by omega), f2 j (by omega)]
    · rw [up2_ne (by omega), up2_v]
    · rw [show (3 : Int32).toNatClampNeg = 3 from rfl, up2_x (fun y => hj y.2), up2_ne (by omega), up2_ne (by omega), up2_ne (by omega), f1 _ (by omega) (by omega) (by omega)]
    · rw [R _ (by omega) (by omega), f3 j hj]
    · rw [up2_ne (by omega), up2_x (by omega), up2_x (by omega), up2_v]; exact hg
    · rw [up2_ne (by omega), up2_x (by omega), up2_v]
end RT
