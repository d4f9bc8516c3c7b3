/-! THE CLASS CUTS A TEXT -/
section CT
variable {n z C t : Nat} {u : Option Nat} {I : Nat → Nat → Int32} {J : Nat → Nat → Int64} {L : Nat} {tp : Nat → Nat}
def TpC (z L : Nat) (tp : Nat → Nat) (I : Nat → Nat → Int32) : Prop := I (z + 15) 1 = nI L ∧ L ≤ 300 ∧ ∀ j, j < L → I (z + 16) j = nI (tp j) ∧ tp j < 256
theorem drop_c : ∀ (l : List Nat) (j : Nat), j < l.length → l.drop j = l.getD j 0 :: l.drop (j + 1)
  | [], j, h => absurd h (Nat.not_lt_zero _)
  | a :: l, 0, _ => rfl
  | a :: l, j + 1, h => by
    rw [List.drop_succ_cons, List.drop_succ_cons, List.getD_cons_succ]
    exact drop_c l j (Nat.lt_of_succ_lt_succ h)
theorem nI_n1 {a : Nat} (h : a < 1000000) : ¬ nI a = (-1 : Int32) := fun w => nI_pos (n := a) (by omega) (by rw [w]; decide)
theorem lt_c {b : Nat} (hb : b < 256) (S : MS) : f_X0_isLetter n (nI b) S = some (bWC (ltB b), S) := by
  have a1 : nI b < (97 : Int32) ↔ b < 97 := nI_lt' (b := 97) (by omega) (by omega)
  have a2 : nI b ≤ (122 : Int32) ↔ b ≤ 122 := nI_le' (b := 122) (by omega) (by omega)
  have a3 : nI b < (65 : Int32) ↔ b < 65 := nI_lt' (b := 65) (by omega) (by omega)
  have a4 : (90 : Int32) < nI b ↔ 90 < b := nI_lt' (a := 90) (by omega) (by omega)
  unfold f_X0_isLetter ltB
  simp only [jn, zb_0, zb_1, a1, a2, a3, a4]
  repeat' split
  all_goals first
    | (rw [decide_eq_true (by omega)]; rfl)
    | (rw [decide_eq_false (by omega)]; rfl)
theorem dg_c {b : Nat} (hb : b < 256) (S : MS) : f_X0_isDigit n (nI b) S = some (bWC (dgB b), S) := by
  have a3 : nI b < (48 : Int32) ↔ b < 48 := nI_lt' (b := 48) (by omega) (by omega)
  have a4 : (57 : Int32) < nI b ↔ 57 < b := nI_lt' (a := 57) (by omega) (by omega)
  unfold f_X0_isDigit dgB
  simp only [zb_0, zb_1, a3, a4]
  repeat' split
  all_goals first
    | (rw [decide_eq_true (by omega)]; rfl)
    | (rw [decide_eq_false (by omega)]; rfl)
theorem bWC_f {b : Bool} : bWC b = 0 ↔ b = false := by cases b <;> decide
theorem cw_L2 (hT : TpC z L tp I) {a : Nat} {a2 : Int32} {K : Int32 → MS → Option (Int32 × MS)} : ∀ k p, L - p < k → p ≤ L → f_X0_cutWord_L2 n a (z + 15) a2 K k (nI p) (mk z C I J t u) = K (nI (runE L tp ltB p)) (mk z C I J t u) := by
  obtain ⟨h1, h2, h3⟩ := id hT
  have m1 : mI (mk z C I J t u) (z + 15) 1 = nI L := h1
  intro k
  induction k with
  | zero => intro p h; omega
  | succ k ih =>
    intro p hk hp
    rw [f_X0_cutWord_L2]
    simp only [jn, bd]
    rw [m1]
    by_cases e : L ≤ p
    · rw [if_pos ((nI_le' (by omega) (by omega)).mpr e), runE_e (by omega)]
    · rw [if_neg (fun w => e ((nI_le' (by omega) (by omega)).mp w)), g15_0, n16, ck_t (inb_nI (by omega) (by omega)), cl_nI (by omega), mI_mk, (h3 p (by omega)).1, lt_c (h3 p (by omega)).2, cl_some]
      by_cases q : ltB (tp p) = true
      · rw [q, if_neg (by decide), show nI p + (1 : Int32) = nI (p + 1) from nI_pl p 1, ih (p + 1) (by omega) (by omega), ← runE_s (by omega) q]
      · rw [if_pos (bWC_f.mpr (Bool.not_eq_true _ ▸ q)), runE_e (fun w => q w.2)]
def ptI (m : Option Nat) : Int32 := match m with
  | none => -1
  | some a => nI a
theorem wo_L (hT : TpC z L tp I) {q e : Nat} (hq : q ≤ e) (he : e ≤ L) : ∀ (d j k kk : Nat) (m : Option Nat), 116 - j ≤ d → d < k → j ≤ 116 → (∀ a, m = some a → a ≤ e) → f_X0_wordOf_L8 n (z + 15) (nI q) (nI e) k (nI kk) (ptI m) (nI j) (mk z C I J t u) = some (nI (wF tp q e (WFL.drop j) kk m), mk z C I J t u) := by
  obtain ⟨h1, h2, h3⟩ := id hT
  intro d
  induction d with
  | zero =>
    intro j k kk m hd hk hj hm
    obtain ⟨k', rfl⟩ : ∃ k', k = k' + 1 := ⟨k - 1, by omega⟩
    rw [f_X0_wordOf_L8]
    simp only [jn]
    rw [if_pos (show (116 : Int32) ≤ nI j from (nI_le' (a := 116) (by omega) (by omega)).mpr (by omega)), List.drop_eq_nil_of_le (by rw [wfl_len]; omega)]
    rfl
  | succ d ih =>
    intro j k kk m hd hk hj hm
    obtain ⟨k', rfl⟩ : ∃ k', k = k' + 1 := ⟨k - 1, by omega⟩
    rw [f_X0_wordOf_L8]
    simp only [jn, bd]
    by_cases e16 : j = 116
    · rw [if_pos (show (116 : Int32) ≤ nI j from (nI_le' (a := 116) (by omega) (by omega)).mpr (by omega)), List.drop_eq_nil_of_le (by rw [wfl_len]; omega)]
      rfl
    · have hjl : j < WFL.length := by rw [wfl_len]; omega
      obtain ⟨c1, c2⟩ := wfl_ch j (by omega)
      rw [if_neg (show ¬ (116 : Int32) ≤ nI j from fun w => by have := (nI_le' (a := 116) (by omega) (by omega)).mp w; omega), ck_t (inb_nI (by omega) (by omega)), cl_nI (by omega), c1, drop_c WFL j hjl, wF]
      generalize WFL.getD j 0 = c at *
      have e1 : nI j + (1 : Int32) = nI (j + 1) := nI_pl j 1
      by_cases c32 : c = 32
      · rw [if_pos (show nI c = (32 : Int32) by rw [c32]; rfl), if_pos c32]
        by_cases me : m = some e
        · rw [if_pos me, if_pos (show ptI m = nI e by rw [me]; rfl)]
        · rw [if_neg me, if_neg (show ¬ ptI m = nI e from fun w => by
            cases m with
            | none => exact nI_n1 (a := e) (by omega) w.symm
            | some a => exact me (by rw [(nI_inj (by have := hm a rfl; omega) (by omega)).mp w])), e1, show nI kk + (1 : Int32) = nI (kk + 1) from nI_pl kk 1]
          exact ih (j + 1) k' (kk + 1) (some q) (by omega) (by omega) (by omega) (fun a ha => by have := Option.some.inj ha; omega)
      · rw [if_neg (show ¬ nI c = (32 : Int32) from fun w => c32 ((nI_inj (by omega) (by omega)).mp (show nI c = nI 32 from w))), if_neg c32]
        cases m with
        | none => rw [if_pos (show ptI none = (-1 : Int32) from rfl), e1]; exact ih (j + 1) k' kk none (by omega) (by omega) (by omega) (fun a ha => by cases ha)
        | some a =>
          have hae := hm a rfl
          rw [if_neg (show ¬ ptI (some a) = (-1 : Int32) from nI_n1 (by omega))]
          show (if nI e ≤ nI a then _ else _) = _
          by_cases ea : e ≤ a
          · rw [if_pos ((nI_le' (by omega) (by omega)).mpr ea), e1, show stW tp e c (some a) = none from if_neg (by omega)]
            exact ih (j + 1) k' kk none (by omega) (by omega) (by omega) (fun a ha => by cases ha)
          · rw [if_neg (fun w => ea ((nI_le' (by omega) (by omega)).mp w)), g15_0, n16]
            show ck (inb (nI a) 300) _ = _
            rw [ck_t (inb_nI (by omega) (by omega))]
            show (if I (z + 16) (nI a).toNatClampNeg = nI c then _ else _) = _
            rw [cl_nI (by omega), (h3 a (by omega)).1]
            by_cases y : tp a = c
            · rw [if_pos (by rw [y]), e1, show stW tp e c (some a) = some (a + 1) from if_pos ⟨by omega, y⟩, show ptI (some a) + (1 : Int32) = ptI (some (a + 1)) from nI_pl a 1]
              exact ih (j + 1) k' kk (some (a + 1)) (by omega) (by omega) (by omega) (fun b hb => by have := Option.some.inj hb; omega)
            · rw [if_neg (fun w => y ((nI_inj (by have := (h3 a (by omega)).2; omega) (by omega)).mp w)), e1, show stW tp e c (some a) = none from if_neg (fun w => y w.2)]
              exact ih (j + 1) k' kk none (by omega) (by omega) (by omega) (fun a ha => by cases ha)
theorem wo_ok (hn : 100000 ≤ n) (hT : TpC z L tp I) {q e : Nat} (hq : q ≤ e) (he : e ≤ L) : f_X0_wordOf n (z + 15) (nI q) (nI e) (mk z C I J t u) = some (nI (wX WDS 0 (byL tp (e - q) q)), mk z C I J t u) := by
  have := wo_L (n := n) (C := C) (J := J) (t := t) (u := u) hT hq he 116 0 n 0 (some q) (by omega) (by omega) (by omega) (fun a ha => by have := Option.some.inj ha; omega)
  rw [List.drop_zero, show wF tp q e WFL 0 (some q) = wX WDS 0 (byL tp (e - q) q) from wF_W hq WDS 0 wds_32] at this
  exact this
theorem cn_L5 (hT : TpC z L tp I) {a2 : Int32} : ∀ k p v, L - p < k → p ≤ L → v ≤ 10000 → f_X0_cutNumber_L5 n (z + 18) (z + 15) a2 k (nI v) (nI p) (mk z C I J t u) = cv (f_X0_add n (z + 18) (38 : Int32) a2 (nI (valF L tp (L - p) p v)) (mk z C I J t u)) fun S6 => some (nI (runE L tp dgB p), S6) := by
  obtain ⟨h1, h2, h3⟩ := id hT
  have m1 : mI (mk z C I J t u) (z + 15) 1 = nI L := h1
  intro k
  induction k with
  | zero => intro p v h; omega
  | succ k ih =>
    intro p v hk hp hv
    rw [f_X0_cutNumber_L5]
    simp only [jn, bd]
    rw [m1]
    by_cases e : L ≤ p
    · rw [if_pos ((nI_le' (by omega) (by omega)).mpr e), runE_e (by omega), show L - p = 0 by omega]; rfl
    · obtain ⟨b1, b2⟩ := h3 p (by omega)
      rw [if_neg (fun w => e ((nI_le' (by omega) (by omega)).mp w)), g15_0, n16, ck_t (inb_nI (by omega) (by omega)), cl_nI (by omega), mI_mk, b1, dg_c b2, cl_some, show L - p = L - (p + 1) + 1 by omega, valF]
      by_cases q : dgB (tp p) = true
      · have hq : 48 ≤ tp p ∧ tp p ≤ 57 := of_decide_eq_true q
        have ev : imin (nI v * 10 + nI (tp p) - 48) 10000 = nI (min (v * 10 + tp p - 48) 10000) := by
          rw [show nI v * (10 : Int32) = nI (v * 10) from nI_ml v 10, nI_pl, show (48 : Int32) = nI 48 from rfl, nI_sb (by omega)]
          unfold imin
          by_cases y : 10000 < v * 10 + tp p - 48
          · rw [if_pos (show (10000 : Int32) < nI (v * 10 + tp p - 48) from (nI_lt' (a := 10000) (by omega) (by omega)).mpr y), Nat.min_eq_right (by omega)]; rfl
          · rw [if_neg (show ¬ (10000 : Int32) < nI (v * 10 + tp p - 48) from fun w => y ((nI_lt' (a := 10000) (by omega) (by omega)).mp w)), Nat.min_eq_left (by omega)]
        rw [q, if_neg (by decide), g15_0, n16, ck_t (inb_nI (by omega) (by omega)), mI_mk, b1, ev, show nI p + (1 : Int32) = nI (p + 1) from nI_pl p 1, ih (p + 1) _ (by omega) (by omega) (Nat.min_le_right _ _), ← runE_s (by omega) q, if_pos ⟨by omega, rfl⟩]
      · rw [if_pos (bWC_f.mpr (Bool.not_eq_true _ ▸ q)), runE_e (fun w => q w.2), if_neg (fun w => q w.2)]
theorem cs_L6 (hT : TpC z L tp I) {a p : Nat} (hp : p < L) {K : Int32 → MS → Option (Int32 × MS)} : ∀ (d j k x : Nat), 12 - j ≤ d → d < k → j ≤ 12 → f_X0_cutSign_L6 n a (z + 15) (nI p) K k (nI x) (nI j) (mk z C I J t u) = K (nI (sG (tp p) (sgT.drop j) j x)) (mk z C I J t u) := by
  obtain ⟨h1, h2, h3⟩ := id hT
  obtain ⟨b1, b2⟩ := h3 p hp
  intro d
  induction d with
  | zero =>
    intro j k x hd hk hj
    obtain ⟨k', rfl⟩ : ∃ k', k = k' + 1 := ⟨k - 1, by omega⟩
    rw [f_X0_cutSign_L6]
    simp only [jn]
    rw [if_pos (show (12 : Int32) ≤ nI j from (nI_le' (a := 12) (by omega) (by omega)).mpr (by omega)), List.drop_eq_nil_of_le (by show 12 ≤ j; omega)]
    rfl
  | succ d ih =>
    intro j k x hd hk hj
    obtain ⟨k', rfl⟩ : ∃ k', k = k' + 1 := ⟨k - 1, by omega⟩
    rw [f_X0_cutSign_L6]
    simp only [jn, bd]
    by_cases e16 : j = 12
    · rw [if_pos (show (12 : Int32) ≤ nI j from (nI_le' (a := 12) (by omega) (by omega)).mpr (by omega)), List.drop_eq_nil_of_le (by show 12 ≤ j; omega)]
      rfl
    · have hjl : j < sgT.length := by show j < 12; omega
      obtain ⟨c1, c2⟩ := sgt_ch j (by omega)
      rw [if_neg (show ¬ (12 : Int32) ≤ nI j from fun w => by have := (nI_le' (a := 12) (by omega) (by omega)).mp w; omega), ck_t (inb_nI (by omega) (by omega)), g15_0, n16, ck_t (inb_nI (by omega) (by omega)), cl_nI (by omega), cl_nI (by omega), mI_mk, b1, c1, drop_c sgT j hjl, sG]
      generalize sgT.getD j 0 = c at *
      have e1 : nI j + (1 : Int32) = nI (j + 1) := nI_pl j 1
      by_cases y : c = tp p
      · rw [if_pos (by rw [y]), if_pos y, e1, show (24 : Int32) + nI j = nI (24 + j) from nI_pl 24 j]
        exact ih (j + 1) k' _ (by omega) (by omega) (by omega)
      · rw [if_neg (fun w => y ((nI_inj (by omega) (by omega)).mp w)), if_neg y, e1]
        exact ih (j + 1) k' _ (by omega) (by omega) (by omega)
/-- one token: what is added, and where it ends -/
theorem cut_1 (hn : 100000 ≤ n) (hT : TpC z L tp I) {p : Nat} (hp : p < L) {K : Int32 → MS → Option MS} : (cl (f_X0_isLetter n (nI (tp p)) (mk z C I J t u)) fun x30 S27 => (if x30 = 0 then cl (f_X0_isDigit n (nI (tp p)) S27) fun x34 S31 => (if x34 = 0 then cl (f_X0_cutSign n (z + 18) (z + 15) (nI p) S31) fun x38 S35 => K x38 S35 else cl (f_X0_cutNumber n (z + 18) (z + 15) (nI p) S31) fun x42 S39 => K x42 S39) else cl (f_X0_cutWord n (z + 18) (z + 15) (nI p) S27) fun x46 S43 => K x46 S43)) = cv (f_X0_add n (z + 18) (nI (lx L tp p).1.1) (nI p) (nI (lx L tp p).1.2) (mk z C I J t u)) fun S => K (nI (lx L tp p).2) S := by
  obtain ⟨h1, h2, h3⟩ := id hT
  obtain ⟨b1, b2⟩ := h3 p hp
  have m1 : mI (mk z C I J t u) (z + 15) 1 = nI L := h1
  unfold lx
  rw [if_neg (show ¬ L ≤ p by omega), lt_c b2, cl_some]
  by_cases q : ltB (tp p) = true
  · have hr := runE_b (tp := tp) (pr := ltB) (L - p) p (Nat.le_refl _) (by omega)
    rw [q, if_neg (by decide), if_pos rfl]
    unfold f_X0_cutWord
    simp only [jn]
    rw [cw_L2 hT n p (by omega) (by omega), wo_ok hn hT hr.1 hr.2.1, cl_some]
    show cl (cv (f_X0_add n (z + 18) _ _ (nI 0) _) _) _ = _
    cases f_X0_add n (z + 18) (nI (wX WDS 0 (byL tp (runE L tp ltB p - p) p))) (nI p) (nI 0) (mk z C I J t u) <;> rfl
  rw [if_pos (bWC_f.mpr (Bool.not_eq_true _ ▸ q)), if_neg q, dg_c b2, cl_some]
  by_cases q2 : dgB (tp p) = true
  · rw [q2, if_neg (by decide), if_pos rfl]
    unfold f_X0_cutNumber
    rw [show (0 : Int32) = nI 0 from rfl, cn_L5 hT n p 0 (by omega) (by omega) (by omega)]
    show cl (cv (f_X0_add n (z + 18) (nI 38) _ _ _) _) _ = _
    cases f_X0_add n (z + 18) (nI 38) (nI p) (nI (valF L tp (L - p) p 0)) (mk z C I J t u) <;> rfl
  rw [if_pos (bWC_f.mpr (Bool.not_eq_true _ ▸ q2)), if_neg q2]
  unfold f_X0_cutSign
  simp only [jn, bd]
  have hs := cs_L6 (n := n) (C := C) (J := J) (t := t) (u := u) hT (a := z + 18) hp (K := fun (x3 : Int32) (S4 : MS) => (if x3 = (24 : Int32) then (if (mI S4 (z + 15) 1) ≤ nI p + 1 then cv (f_X0_add n (z + 18) x3 (nI p) (0 : Int32) S4) fun S9 => some (nI p + 1, S9) else gR S4 (mR S4 (z + 15) 0) 12 fun q12 => ck (inb (nI p + 1) (mN S4 q12)) ((if (mI S4 q12 (nI p + 1).toNatClampNeg) = (61 : Int32) then (if x3 = (24 : Int32) then cv (f_X0_add n (z + 18) (36 : Int32) (nI p) (0 : Int32) S4) fun S23 => some (nI p + 1 + 1, S23) else cv (f_X0_add n (z + 18) (37 : Int32) (nI p) (0 : Int32) S4) fun S19 => some (nI p + 1 + 1, S19)) else cv (f_X0_add n (z + 18) x3 (nI p) (0 : Int32) S4) fun S15 => some (nI p + 1, S15)))) else (if x3 = (25 : Int32) then (if (mI S4 (z + 15) 1) ≤ nI p + 1 then cv (f_X0_add n (z + 18) x3 (nI p) (0 : Int32) S4) fun S9 => some (nI p + 1, S9) else gR S4 (mR S4 (z + 15) 0) 12 fun q12 => ck (inb (nI p + 1) (mN S4 q12)) ((if (mI S4 q12 (nI p + 1).toNatClampNeg) = (61 : Int32) then (if x3 = (24 : Int32) then cv (f_X0_add n (z + 18) (36 : Int32) (nI p) (0 : Int32) S4) fun S23 => some (nI p + 1 + 1, S23) else cv (f_X0_add n (z + 18) (37 : Int32) (nI p) (0 : Int32) S4) fun S19 => some (nI p + 1 + 1, S19)) else cv (f_X0_add n (z + 18) x3 (nI p) (0 : Int32) S4) fun S15 => some (nI p + 1, S15)))) else cv (f_X0_add n (z + 18) x3 (nI p) (0 : Int32) S4) fun S26 => some (nI p + 1, S26)))) 12 0 n 40 (by omega) (by omega) (by omega)
  rw [List.drop_zero, show sG (tp p) sgT 0 40 = sgX (tp p) from rfl] at hs
  rw [show (40 : Int32) = nI 40 from rfl, show (0 : Int32) = nI 0 from rfl] at *
  rw [hs]
  have k24 : ∀ y, y < 100 → (nI (sgX (tp p)) = nI y ↔ sgX (tp p) = y) := fun y hy => nI_inj (by have := (sg_ok (tp p) b2).1; omega) (by omega)
  have e1 : nI p + (1 : Int32) = nI (p + 1) := nI_pl p 1
  have e2 : nI (p + 1) + (1 : Int32) = nI (p + 2) := nI_pl (p + 1) 1
  have fin : ∀ (s e : Nat), cl (cv (f_X0_add n (z + 18) (nI s) (nI p) (nI 0) (mk z C I J t u)) fun S9 => some (nI e, S9)) (fun x38 S35 => K x38 S35) = cv (f_X0_add n (z + 18) (nI s) (nI p) (nI 0) (mk z C I J t u)) fun S => K (nI e) S := fun s e => by
    cases f_X0_add n (z + 18) (nI s) (nI p) (nI 0) (mk z C I J t u) <;> rfl
  have tail : ∀ (s w : Nat), (s = 24 ∧ w = 36) ∨ (s = 25 ∧ w = 37) → sgX (tp p) = s → cl ((if (mI (mk z C I J t u) (z + 15) 1) ≤ nI p + 1 then cv (f_X0_add n (z + 18) (nI (sgX (tp p))) (nI p) (nI 0) (mk z C I J t u)) fun S9 => some (nI p + 1, S9) else gR (mk z C I J t u) (mR (mk z C I J t u) (z + 15) 0) 12 fun q12 => ck (inb (nI p + 1) (mN (mk z C I J t u) q12)) ((if (mI (mk z C I J t u) q12 (nI p + 1).toNatClampNeg) = (61 : Int32) then (if nI (sgX (tp p)) = (24 : Int32) then cv (f_X0_add n (z + 18) (36 : Int32) (nI p) (nI 0) (mk z C I J t u)) fun S23 => some (nI p + 1 + 1, S23) else cv (f_X0_add n (z + 18) (37 : Int32) (nI p) (nI 0) (mk z C I J t u)) fun S19 => some (nI p + 1 + 1, S19)) else cv (f_X0_add n (z + 18) (nI (sgX (tp p))) (nI p) (nI 0) (mk z C I J t u)) fun S15 => some (nI p + 1, S15))))) (fun x38 S35 => K x38 S35) = if p + 1 < L ∧ tp (p + 1) = 61 then cv (f_X0_add n (z + 18) (nI w) (nI p) (nI 0) (mk z C I J t u)) (fun S => K (nI (p + 2)) S) else cv (f_X0_add n (z + 18) (nI s) (nI p) (nI 0) (mk z C I J t u)) (fun S => K (nI (p + 1)) S) := fun s w hsw es => by
    rw [e1, e2, m1, es]
    by_cases pl : L ≤ p + 1
    · rw [if_pos ((nI_le' (by omega) (by omega)).mpr pl), if_neg (fun w => by omega), fin]
    · obtain ⟨d1, d2⟩ := h3 (p + 1) (by omega)
      rw [if_neg (fun w => pl ((nI_le' (by omega) (by omega)).mp w)), g15_0, n16, ck_t (inb_nI (by omega) (by omega)), cl_nI (by omega), mI_mk, d1]
      by_cases y : tp (p + 1) = 61
      · have yy : p + 1 < L ∧ tp (p + 1) = 61 := ⟨by omega, y⟩
        rw [if_pos (show nI (tp (p + 1)) = (61 : Int32) by rw [y]; rfl)]
        rcases hsw with ⟨rfl, rfl⟩ | ⟨rfl, rfl⟩
        · rw [if_pos (show nI 24 = (24 : Int32) from rfl), if_pos yy]; exact fin 36 (p + 2)
        · rw [if_neg (show ¬ nI 25 = (24 : Int32) by decide), if_pos yy]; exact fin 37 (p + 2)
      · rw [if_neg (show ¬ nI (tp (p + 1)) = (61 : Int32) from fun w => y ((nI_inj (by omega) (by omega)).mp (show nI (tp (p + 1)) = nI 61 from w))), if_neg (fun w => y w.2), fin]
  by_cases s24 : sgX (tp p) = 24
  · rw [if_pos (show nI (sgX (tp p)) = (24 : Int32) from (k24 24 (by omega)).mpr s24), tail 24 36 (Or.inl ⟨rfl, rfl⟩) s24]
    by_cases y : p + 1 < L ∧ tp (p + 1) = 61
    · rw [if_pos y, if_pos ⟨Or.inl s24, y⟩, s24]
    · rw [if_neg y, if_neg (fun w => y w.2), s24]
  · rw [if_neg (show ¬ nI (sgX (tp p)) = (24 : Int32) from fun w => s24 ((k24 24 (by omega)).mp w))]
    by_cases s25 : sgX (tp p) = 25
    · have := tail 25 37 (Or.inr ⟨rfl, rfl⟩) s25
      rw [if_pos (show nI (sgX (tp p)) = (25 : Int32) from (k24 25 (by omega)).mpr s25), this]
      by_cases y : p + 1 < L ∧ tp (p + 1) = 61
      · rw [if_pos y, if_pos ⟨Or.inr s25, y⟩, s25]
      · rw [if_neg y, if_neg (fun w => y w.2), s25]
    · rw [if_neg (show ¬ nI (sgX (tp p)) = (25 : Int32) from fun w => s25 ((k24 25 (by omega)).mp w)), if_neg (fun w => by omega), e1]
      exact fin _ _
end CT
