/-! THE CLASS PUTS THE BONES IN ORDER -/
section PU
variable {n z t W H M o : Nat} {I : Nat → Nat → Int32} {J : Nat → Nat → Int64} {u : Option Nat} {T : TP}
def stA (rk : Nat → Nat) (b r : Nat) : Nat := if r = 0 then 0 else cnt (fun j => decide (rk j = r - 1)) b
/-- ranks and starts of the class -/
def s2 (z : Nat) (I : Nat → Nat → Int32) (ra st : Nat → Int32) : Nat → Nat → Int32 := upr (upr I (z + 27) ra) (z + 28) st
theorem s2_ne {ra st : Nat → Int32} {q : Nat} (h1 : q ≠ z + 27) (h2 : q ≠ z + 28) : s2 z I ra st q = I q := by unfold s2; rw [upr_ne h2, upr_ne h1]
theorem s2_27 {ra st : Nat → Int32} : s2 z I ra st (z + 27) = ra := by unfold s2; rw [upr_ne (by omega), upr_at]
theorem s2_28 {ra st : Nat → Int32} : s2 z I ra st (z + 28) = st := by unfold s2; rw [upr_at]
theorem s2_u27 {ra st : Nat → Int32} {k : Nat} {v : Int32} : up2 (s2 z I ra st) (z + 27) k v = s2 z I (ur ra k v) st := by
  unfold s2
  funext b j
  simp only [up2, upr, ur]
  by_cases h : b = z + 27
  · subst h; simp
  · by_cases h2 : b = z + 28
    · subst h2; simp
    · simp [h, h2]
theorem s2_u28 {ra st : Nat → Int32} {k : Nat} {v : Int32} : up2 (s2 z I ra st) (z + 28) k v = s2 z I ra (ur st k v) := by
  unfold s2; exact up2_upr _ _ _ _ _
theorem put_1 (hD : dims W H) (ho : isP o) (hW : TW (W * H) M T) (hT : ClsT z (W * H) o I J T) {dx dy : Int32} (hx : st1 dx) (hy : st1 dy) (K : MS → Option MS) :
    ∀ (d b k : Nat) (ra st : Nat → Int32), b + d = tk T → d < k → (∀ j, j < b → ra j = nI (rkT W T dx.toInt dy.toInt j)) → (∀ r, r < 26 → st r = nI (stA (rkT W T dx.toInt dy.toInt) b r)) →
    ∃ ra' st', f_X9_putInOrder_L20 n (z + 26) (z + o) dx dy (nI W) K k (nI b) (mk z (W * H) (s2 z I ra st) J t u) = K (mk z (W * H) (s2 z I ra' st') J t u) ∧ (∀ j, j < tk T → ra' j = nI (rkT W T dx.toInt dy.toInt j)) ∧ (∀ r, r < 26 → st' r = nI (stA (rkT W T dx.toInt dy.toInt) (tk T) r)) := by
  have hC := hD.C
  have h24 := hW.1
  have ho2 := isP_ge ho
  have hw1 := hD.1
  have hw2 := hD.2.1
  intro d
  induction d with
  | zero =>
    intro b k ra st hb hk h1 h2
    obtain ⟨k, rfl⟩ : ∃ m, k = m + 1 := ⟨k - 1, by omega⟩
    obtain rfl : b = tk T := by omega
    refine ⟨ra, st, ?_, h1, h2⟩
    rw [f_X9_putInOrder_L20]
    simp only [jn]
    rw [mI_mk, s2_ne (by omega) (by omega), hT.1, if_pos ((nI_le' (by omega) (by omega)).mpr (Nat.le_refl _))]
  | succ d ih =>
    intro b k ra st hb hk h1 h2
    obtain ⟨k, rfl⟩ : ∃ m, k = m + 1 := ⟨k - 1, by omega⟩
    have hbT : b < tk T := by omega
    obtain ⟨v1, v2, v3⟩ := rk_val hD hW hx hy hbT
    have hci := (hW.2.2.1 b hbT).1
    have hce : mI (mk z (W * H) (s2 z I ra st) J t u) (z + (o + 1)) b = nI (tc T b) := by rw [mI_mk, s2_ne (by omega) (by omega)]; exact (hT.2.2.1 b hbT).1
    have m7 : mI (mk z (W * H) (s2 z I ra st) J t u) (z + o) 7 = nI (tk T) := by rw [mI_mk, s2_ne (by omega) (by omega)]; exact hT.1
    have hold := h2 (rkT W T dx.toInt dy.toInt b + 1) (by omega)
    have hst : stA (rkT W T dx.toInt dy.toInt) b (rkT W T dx.toInt dy.toInt b + 1) ≤ b := by
      unfold stA
      rw [if_neg (by omega)]; exact cnt_le _ _
    have hone : nI (stA (rkT W T dx.toInt dy.toInt) b (rkT W T dx.toInt dy.toInt b + 1)) + (1 : Int32) = nI (stA (rkT W T dx.toInt dy.toInt) (b + 1) (rkT W T dx.toInt dy.toInt b + 1)) := by
      rw [show (1 : Int32) = nI 1 from rfl, nI_pl]
      unfold stA
      rw [if_neg (by omega), if_neg (by omega), cnt, if_pos (by simp)]
    obtain ⟨ra', st', e, g1, g2⟩ := ih (b + 1) k (ur ra b (nI (rkT W T dx.toInt dy.toInt b))) (ur st (rkT W T dx.toInt dy.toInt b + 1) (nI (stA (rkT W T dx.toInt dy.toInt) (b + 1) (rkT W T dx.toInt dy.toInt b + 1)))) (by omega) (by omega) (fun j hj => by
        by_cases hjb : j = b
        · subst hjb; rw [ur_at]
        · rw [ur_ne _ _ hjb]; exact h1 j (by omega)) (fun r hr => by
        by_cases hrr : r = rkT W T dx.toInt dy.toInt b + 1
        · subst hrr; rw [ur_at]
        · rw [ur_ne _ _ hrr, h2 r hr]
          unfold stA
          by_cases h0 : r = 0
          · rw [if_pos h0, if_pos h0]
          · rw [if_neg h0, if_neg h0, cnt, if_neg (by simp; omega), Nat.add_zero])
    refine ⟨ra', st', ?_, g1, g2⟩
    rw [f_X9_putInOrder_L20]
    simp only [jn, bd]
    rw [m7, if_neg (show ¬ nI (tk T) ≤ nI b by rw [nI_le' (by omega) (by omega)]; omega), gP_1 ho, nP_1 ho, ck_t (inb_nI (by omega) (by omega)), cl_nI (show b < 1000000 by omega), hce, dv_n (by omega) (by omega), dv_n (by omega) (by omega), nI_md (by omega) (by omega) (by omega), nI_dv (by omega) (by omega) (by omega), v1, g26_3, n27, ck_t (inb_nI (by omega) (by omega)), sI_mk, s2_u27, g26_4, n28, show nI (rkT W T dx.toInt dy.toInt b) + (1 : Int32) = nI (rkT W T dx.toInt dy.toInt b + 1) from nI_pl _ 1, ck_t (inb_nI (by omega) (by omega)), ck_t (inb_nI (by omega) (by omega)), cl_nI (by omega), mI_mk, s2_28, hold, hone, sI_mk, s2_u28, show nI b + (1 : Int32) = nI (b + 1) from nI_pl b 1]
    exact e
theorem put_2 (rk : Nat → Nat) {c : Nat} (hc : c ≤ 24) (ra : Nat → Int32) (a1 : Nat) (K : MS → Option MS) :
    ∀ (d r k : Nat) (st : Nat → Int32), 1 ≤ r → r + d = 26 → d < k → (∀ q, q < r → st q = nI (cnt (fun j => decide (rk j < q)) c)) → (∀ q, r ≤ q → q < 26 → st q = nI (stA rk c q)) →
    ∃ st', f_X9_putInOrder_L89 n (z + 26) a1 K k (nI r) (mk z (W * H) (s2 z I ra st) J t u) = K (mk z (W * H) (s2 z I ra st') J t u) ∧ (∀ q, q < 26 → st' q = nI (cnt (fun j => decide (rk j < q)) c)) := by
  intro d
  induction d with
  | zero =>
    intro r k st h1 hr hk g1 g2
    obtain ⟨k, rfl⟩ : ∃ m, k = m + 1 := ⟨k - 1, by omega⟩
    obtain rfl : r = 26 := by omega
    refine ⟨st, ?_, g1⟩
    rw [f_X9_putInOrder_L89]
    simp only [jn]
    rw [g26_4, n28, if_pos (by decide)]
  | succ d ih =>
    intro r k st h1 hr hk g1 g2
    obtain ⟨k, rfl⟩ : ∃ m, k = m + 1 := ⟨k - 1, by omega⟩
    have hs1 := g1 (r - 1) (by omega)
    have hs2 := g2 r (Nat.le_refl _) (by omega)
    have hsum : nI (stA rk c r) + nI (cnt (fun j => decide (rk j < r - 1)) c) = nI (cnt (fun j => decide (rk j < r)) c) := by
      rw [nI_pl]
      congr 1
      unfold stA
      rw [if_neg (by omega), Nat.add_comm]
      refine (cnt_or c (fun i _ => ?_) (fun i _ a b => ?_)).symm
      · rw [Bool.eq_iff_iff]; simp; omega
      · simp at a b; omega
    obtain ⟨st', e, g3⟩ := ih (r + 1) k (ur st r (nI (cnt (fun j => decide (rk j < r)) c))) (by omega) (by omega) (by omega) (fun q hq => by
        by_cases hqr : q = r
        · subst hqr; rw [ur_at]
        · rw [ur_ne _ _ hqr]; exact g1 q (by omega)) (fun q hq1 hq2 => by rw [ur_ne _ _ (by omega)]; exact g2 q (by omega) hq2)
    refine ⟨st', ?_, g3⟩
    rw [f_X9_putInOrder_L89]
    simp only [jn, bd]
    rw [g26_4, n28, if_neg (show ¬ Int32.ofNat 26 ≤ nI r from fun w => by have := (nI_le' (a := 26) (b := r) (by omega) (by omega)).mp w; omega), g26_4, n28, ck_t (inb_nI (by omega) (by omega)), g26_4, n28, nI_s1 h1, ck_t (inb_nI (by omega) (by omega)), ck_t (inb_nI (by omega) (by omega)), cl_nI (show r < 1000000 by omega), cl_nI (show r - 1 < 1000000 by omega), mI_mk, mI_mk, s2_28, hs1, hs2, hsum, sI_mk, s2_u28, show nI r + (1 : Int32) = nI (r + 1) from nI_pl r 1]
    exact e
theorem put_3 (hD : dims W H) (ho : isP o) (hW : TW (W * H) M T) (hT : ClsT z (W * H) o I J T) {dx dy : Int32} (hx : st1 dx) (hy : st1 dy) {ra : Nat → Int32} (hra : ∀ j, j < tk T → ra j = nI (rkT W T dx.toInt dy.toInt j)) :
    ∀ (d b k : Nat) (st od : Nat → Int32), b + d = tk T → d < k → (∀ r, r < 26 → st r = nI (cnt (fun j => decide (rkT W T dx.toInt dy.toInt j < r)) (tk T) + cnt (fun j => decide (rkT W T dx.toInt dy.toInt j = r)) b)) → (∀ j, j < b → od (pos (kyT W T dx.toInt dy.toInt) (tk T) j) = nI j) →
    ∃ st' od', f_X9_putInOrder_L127 n (z + 26) (z + o) k (nI b) (mk z (W * H) (upr (s2 z I ra st) (z + 29) od) J t u) = some (mk z (W * H) (upr (s2 z I ra st') (z + 29) od') J t u) ∧ ∀ j, j < tk T → od' (pos (kyT W T dx.toInt dy.toInt) (tk T) j) = nI j := by
  have hC := hD.C
  have h24 := hW.1
  have ho2 := isP_ge ho
  intro d
  induction d with
  | zero =>
    intro b k st od hb hk h1 h2
    obtain ⟨k, rfl⟩ : ∃ m, k = m + 1 := ⟨k - 1, by omega⟩
    obtain rfl : b = tk T := by omega
    refine ⟨st, od, ?_, h2⟩
    rw [f_X9_putInOrder_L127]
    simp only [jn]
    rw [mI_mk, upr_ne (by omega), s2_ne (by omega) (by omega), hT.1, if_pos ((nI_le' (by omega) (by omega)).mpr (Nat.le_refl _))]
  | succ d ih =>
    intro b k st od hb hk h1 h2
    obtain ⟨k, rfl⟩ : ∃ m, k = m + 1 := ⟨k - 1, by omega⟩
    have hbT : b < tk T := by omega
    obtain ⟨v1, v2, v3⟩ := rk_val hD hW hx hy hbT
    have hst := h1 (rkT W T dx.toInt dy.toInt b) (by omega)
    have hpb := pos_lt (kf := kyT W T dx.toInt dy.toInt) hbT
    have hp : cnt (fun j => decide (rkT W T dx.toInt dy.toInt j < rkT W T dx.toInt dy.toInt b)) (tk T) + cnt (fun j => decide (rkT W T dx.toInt dy.toInt j = rkT W T dx.toInt dy.toInt b)) b = pos (kyT W T dx.toInt dy.toInt) (tk T) b := by
      unfold pos
      have hb2 : cnt (fun j => decide (rkT W T dx.toInt dy.toInt j = rkT W T dx.toInt dy.toInt b)) b = cnt (fun j => decide (rkT W T dx.toInt dy.toInt j = rkT W T dx.toInt dy.toInt b) && decide (j < b)) (tk T) := by
        have := cnt_stop (f := fun j => decide (rkT W T dx.toInt dy.toInt j = rkT W T dx.toInt dy.toInt b) && decide (j < b)) (m := b) (fun i hi => by simp; omega) (tk T - b)
        rw [show b + (tk T - b) = tk T by omega] at this
        rw [this]
        exact cnt_congr b (fun i hi => by simp [hi])
      rw [hb2]
      refine (cnt_or (tk T) (fun i hi => ?_) (fun i hi a c => ?_)).symm
      · rw [Bool.eq_iff_iff, bef_iff]
        have q := rk_lt hD hW hx hy hi hbT
        simp only [Bool.or_eq_true, Bool.and_eq_true, decide_eq_true_eq]
        rw [← q.1, ← q.2]
      · simp at a c; omega
    rw [hp] at hst
    have hnext : nI (pos (kyT W T dx.toInt dy.toInt) (tk T) b) + (1 : Int32) = nI (pos (kyT W T dx.toInt dy.toInt) (tk T) b + 1) := nI_pl _ 1
    obtain ⟨st', od', e, g⟩ := ih (b + 1) k (ur st (rkT W T dx.toInt dy.toInt b) (nI (pos (kyT W T dx.toInt dy.toInt) (tk T) b + 1))) (ur od (pos (kyT W T dx.toInt dy.toInt) (tk T) b) (nI b)) (by omega) (by omega) (fun r hr => by
        by_cases hrr : r = rkT W T dx.toInt dy.toInt b
        · subst hrr; rw [ur_at, cnt, if_pos (by simp), ← hp]; congr 1
        · rw [ur_ne _ _ hrr, h1 r hr, cnt, if_neg (by simp; omega), Nat.add_zero]) (fun j hj => by
        by_cases hjb : j = b
        · subst hjb; rw [ur_at]
        · rw [ur_ne _ _ (fun w => hjb (pos_inj (by omega) hbT w))]; exact h2 j (by omega))
    refine ⟨st', od', ?_, g⟩
    rw [f_X9_putInOrder_L127]
    simp only [jn, bd]
    have m7 : mI (mk z (W * H) (upr (s2 z I ra st) (z + 29) od) J t u) (z + o) 7 = nI (tk T) := by rw [mI_mk, upr_ne (by omega), s2_ne (by omega) (by omega)]; exact hT.1
    have rb : mI (mk z (W * H) (upr (s2 z I ra st) (z + 29) od) J t u) (z + 27) b = nI (rkT W T dx.toInt dy.toInt b) := by rw [mI_mk, upr_ne (by omega), s2_27]; exact hra b hbT
    have sb : mI (mk z (W * H) (upr (s2 z I ra st) (z + 29) od) J t u) (z + 28) (rkT W T dx.toInt dy.toInt b) = nI (pos (kyT W T dx.toInt dy.toInt) (tk T) b) := by rw [mI_mk, upr_ne (by omega), s2_28]; exact hst
    have comm : ∀ (od2 : Nat → Int32) (k2 : Nat) (v : Int32), up2 (upr (s2 z I ra st) (z + 29) od2) (z + 28) k2 v = upr (s2 z I ra (ur st k2 v)) (z + 29) od2 := by
      intro od2 k2 v
      rw [← s2_u28]
      funext x y
      simp only [up2, upr]
      by_cases hx9 : x = z + 29
      · subst hx9; simp
      · by_cases hx8 : x = z + 28
        · subst hx8; simp
        · simp [hx9, hx8]
    have rb2 : mI (mk z (W * H) (upr (s2 z I ra st) (z + 29) (ur od (pos (kyT W T dx.toInt dy.toInt) (tk T) b) (nI b))) J t u) (z + 27) b = nI (rkT W T dx.toInt dy.toInt b) := by rw [mI_mk, upr_ne (by omega), s2_27]; exact hra b hbT
    have sb2 : mI (mk z (W * H) (upr (s2 z I ra st) (z + 29) (ur od (pos (kyT W T dx.toInt dy.toInt) (tk T) b) (nI b))) J t u) (z + 28) (rkT W T dx.toInt dy.toInt b) = nI (pos (kyT W T dx.toInt dy.toInt) (tk T) b) := by rw [mI_mk, upr_ne (by omega), s2_28]; exact hst
    rw [m7, if_neg (show ¬ nI (tk T) ≤ nI b by rw [nI_le' (by omega) (by omega)]; omega), g26_5, g26_4, g26_3, n27, ck_t (inb_nI (by omega) (by omega)), cl_nI (show b < 1000000 by omega), rb, n28, ck_t (inb_nI (by omega) (by omega)), cl_nI (show rkT W T dx.toInt dy.toInt b < 1000000 by omega), sb, n29, ck_t (inb_nI (by omega) (by omega)), cl_nI (show pos (kyT W T dx.toInt dy.toInt) (tk T) b < 1000000 by omega), sI_mk, up2_upr, g26_4, g26_3, n27, ck_t (inb_nI (by omega) (by omega)), rb2, n28, ck_t (inb_nI (by omega) (by omega)), ck_t (inb_nI (by omega) (by omega)), cl_nI (show rkT W T dx.toInt dy.toInt b < 1000000 by omega), sb2, hnext, sI_mk, comm, show nI b + (1 : Int32) = nI (b + 1) from nI_pl b 1]
    exact e
/-- putInOrder: row 29 holds the order -/
theorem s_put (hn : 100000 ≤ n) (hD : dims W H) (hG0 : I (z + 30) 0 = nI W) (ho : isP o) (hW : TW (W * H) M T) (hT : ClsT z (W * H) o I J T) {dx dy : Int32} (hx : st1 dx) (hy : st1 dy) :
    ∃ I', f_X9_putInOrder n (z + 26) (z + o) dx dy (mk z (W * H) I J t u) = some (mk z (W * H) I' J t u) ∧ (∀ q, q ≠ z + 27 → q ≠ z + 28 → q ≠ z + 29 → I' q = I q) ∧ ∀ p, p < tk T → I' (z + 29) p = nI (ordT (kyT W T dx.toInt dy.toInt) (tk T) p) := by
  have h24 := hW.1
  have ho2 := isP_ge ho
  obtain ⟨g0, e0, -, f0⟩ := fill_L (n := n) (z := z) (C := W * H) (I := I) (J := J) (t := t) (u := u) (a := z + 28) (N := 26) (by omega) (fun _ => n28) 0 26 0 n (I (z + 28)) rfl (by omega)
  rw [upr_self] at e0
  have es2 : upr I (z + 28) g0 = s2 z I (I (z + 27)) g0 := by unfold s2; rw [upr_self]
  rw [es2] at e0
  obtain ⟨ra, st1', e1, r1, r2⟩ := put_1 (n := n) (t := t) (u := u) hD ho hW hT hx hy (fun (S11 : MS) => f_X9_putInOrder_L89 n (z + 26) (z + o) (fun (S14 : MS) => f_X9_putInOrder_L127 n (z + 26) (z + o) n (0 : Int32) S14) n (1 : Int32) S11) (tk T) 0 n (I (z + 27)) g0 (by omega) (by omega) (fun j hj => by omega) (fun r hr => by
    rw [f0 r (Nat.zero_le _) hr]
    unfold stA
    split <;> rfl)
  obtain ⟨st2, e2, r3⟩ := put_2 (n := n) (z := z) (W := W) (H := H) (I := I) (J := J) (t := t) (u := u) (rkT W T dx.toInt dy.toInt) h24 ra (z + o) (fun (S14 : MS) => f_X9_putInOrder_L127 n (z + 26) (z + o) n (0 : Int32) S14) 25 1 n st1' (by omega) rfl (by omega) (fun q hq => by
    obtain rfl : q = 0 := by omega
    rw [r2 0 (by omega), cnt_zero _ (fun i _ => by simp)]; rfl) (fun q h1 h2 => r2 q h2)
  obtain ⟨st3, od, e3, r4⟩ := put_3 (n := n) (t := t) (u := u) hD ho hW hT hx hy r1 (tk T) 0 n st2 (I (z + 29)) (by omega) (by omega) (fun r hr => by rw [r3 r hr]; rfl) (fun j hj => by omega)
  have es3 : upr (s2 z I ra st2) (z + 29) (I (z + 29)) = s2 z I ra st2 := by
    have : s2 z I ra st2 (z + 29) = I (z + 29) := s2_ne (by omega) (by omega)
    rw [← this, upr_self]
  rw [es3] at e3
  refine ⟨upr (s2 z I ra st3) (z + 29) od, ?_, fun q w1 w2 w3 => by rw [upr_ne w3, s2_ne w1 w2], fun p hp => ?_⟩
  · unfold f_X9_putInOrder
    simp only [bd, jn]
    rw [gP_0 ho, mI_mk, hG0, g26_4]
    unfold f_J7_fill_53178
    simp only [bd]
    have e0' : f_J7_fill_53178_L5 n (z + 28) 0 (Int32.ofNat 26) n (0 : Int32) (mk z (W * H) I J t u) = some (mk z (W * H) (s2 z I (I (z + 27)) g0) J t u) := e0
    rw [n28, e0', cv_some]
    exact e1.trans (e2.trans e3)
  · rw [upr_at]
    obtain ⟨a, b⟩ := ordT_ok (kf := kyT W T dx.toInt dy.toInt) hp
    have := r4 _ a
    rw [b] at this
    exact this
end PU
