/-! THE REFERENCE'S TOKENS: words -/
section RM
variable {n z C t : Nat} {u : Option Nat} {L : Nat} {tp : Nat → Nat}
def pkR : List Nat → Nat
  | [] => 0
  | x :: l => 256 * pkR l + x
def pkN (l : List Nat) : Nat := pkR l.reverse
theorem pkR_lt : ∀ l : List Nat, (∀ x, x ∈ l → x < 256) → pkR l < 256 ^ l.length
  | [], _ => by decide
  | x :: l, h => by
    have h1 := pkR_lt l (fun y hy => h y (List.mem_cons_of_mem _ hy))
    have h2 := h x List.mem_cons_self
    rw [List.length_cons, Nat.pow_succ]
    show 256 * pkR l + x < _
    omega
theorem pkR_inj : ∀ l m : List Nat, (∀ x, x ∈ l → 0 < x ∧ x < 256) → (∀ x, x ∈ m → 0 < x ∧ x < 256) → pkR l = pkR m → l = m
  | [], [], _, _, _ => rfl
  | [], y :: m, _, h, e => by
    have := h y List.mem_cons_self
    have e : 0 = 256 * pkR m + y := e
    omega
  | x :: l, [], h, _, e => by
    have := h x List.mem_cons_self
    have e : 256 * pkR l + x = 0 := e
    omega
  | x :: l, y :: m, h, g, e => by
    have h1 := h x List.mem_cons_self
    have g1 := g y List.mem_cons_self
    have e : 256 * pkR l + x = 256 * pkR m + y := e
    rw [pkR_inj l m (fun a ha => h a (List.mem_cons_of_mem _ ha)) (fun a ha => g a (List.mem_cons_of_mem _ ha)) (by omega), show x = y by omega]
theorem pkN_inj {l m : List Nat} (h : ∀ x, x ∈ l → 0 < x ∧ x < 256) (g : ∀ x, x ∈ m → 0 < x ∧ x < 256) (e : pkN l = pkN m) : l = m := by
  have := pkR_inj l.reverse m.reverse (fun x hx => h x (List.mem_reverse.mp hx)) (fun x hx => g x (List.mem_reverse.mp hx)) e
  rw [← List.reverse_reverse l, this, List.reverse_reverse]
theorem pkN_s (l : List Nat) (x : Nat) : pkN (l ++ [x]) = 256 * pkN l + x := by
  unfold pkN
  rw [List.reverse_append]; rfl
theorem pkN_lt {l : List Nat} (h : ∀ x, x ∈ l → x < 256) : pkN l < 256 ^ l.length := by
  have := pkR_lt l.reverse (fun x hx => h x (List.mem_reverse.mp hx))
  rw [List.length_reverse] at this
  exact this
theorem byL_s : ∀ d s, byL tp (d + 1) s = byL tp d s ++ [tp (s + d)]
  | 0, s => rfl
  | d + 1, s => by
    rw [byL, byL_s d (s + 1), byL, List.cons_append, show s + 1 + d = s + (d + 1) by omega]
theorem byL_m : ∀ d s x, x ∈ byL tp d s → ∃ j, s ≤ j ∧ j < s + d ∧ x = tp j
  | 0, s, x, h => by cases h
  | d + 1, s, x, h => by
    rcases List.mem_cons.mp h with e | w
    · exact ⟨s, by omega, by omega, e⟩
    · obtain ⟨j, a, b, c⟩ := byL_m d (s + 1) x w
      exact ⟨j, by omega, by omega, c⟩
theorem nJ_bv (v : Nat) : (nJ v).toBitVec = BitVec.ofNat 64 v := by
  unfold nJ jI
  rw [Int64.toBitVec_ofInt, BitVec.ofInt_natCast]
theorem nJ_inj {a b : Nat} (ha : a < 2 ^ 60) (hb : b < 2 ^ 60) (e : nJ a = nJ b) : a = b := by
  have := congrArg (fun x => x.toBitVec.toNat) e
  simp only [nJ_bv, BitVec.toNat_ofNat] at this
  rw [Nat.mod_eq_of_lt (by omega), Nat.mod_eq_of_lt (by omega)] at this
  exact this
theorem nJ_sh {v b : Nat} (hv : v < 2 ^ 48) (hb : b < 256) : lsh (nJ v) (8 : Int32) ||| nJ b = nJ (256 * v + b) := by
  apply Int64.toBitVec_inj.mp
  apply BitVec.eq_of_toNat_eq
  show ((nJ v).toBitVec <<< (((nI 8).toInt64 &&& 63).toBitVec.smod 64) ||| (nJ b).toBitVec).toNat = _
  rw [BitVec.shiftLeft_eq', lsh_k 8 (by omega), nJ_bv, nJ_bv, nJ_bv, BitVec.toNat_or, BitVec.toNat_shiftLeft, BitVec.toNat_ofNat, BitVec.toNat_ofNat, BitVec.toNat_ofNat, Nat.mod_eq_of_lt (show v < 2 ^ 64 by omega), Nat.mod_eq_of_lt (show b < 2 ^ 64 by omega), Nat.mod_eq_of_lt (show 256 * v + b < 2 ^ 64 by omega)]
  have h1 : v <<< 8 = v * 256 := by rw [Nat.shiftLeft_eq]
  rw [Nat.mod_eq_of_lt (by rw [h1]; omega), ← Nat.shiftLeft_add_eq_or_of_lt (show b < 2 ^ 8 by omega), h1]
  omega
theorem wdJ_pk : ∀ q, q < 24 → 12 ≤ q → wdJ q = nJ (pkN (WDS.getD q [])) := by decide +kernel
def OnJ (z : Nat) (J J' : Nat → Nat → Int64) : Prop := ∀ q j, ¬ (q = z + 83 ∧ j = 14) → J' q j = J q j
theorem OnJ.up {J J1 : Nat → Nat → Int64} (h : OnJ z J J1) {v : Int64} : OnJ z J (up2 J1 (z + 83) 14 v) := fun q j w => by rw [up2_x w]; exact h q j w
theorem q_L161 {K : MS → Option MS} {s : Nat} : ∀ k p (I : Nat → Nat → Int32) (J : Nat → Nat → Int64), L - p < k → p ≤ L → s ≤ p → TpR z L tp I → I (z + 83) 10 = nI p → I (z + 83) 11 = nI s → J (z + 83) 14 = nJ (pkN (byL tp (min (p - s) 7) s)) → ∃ I' J', f_X11_nextToken_L161 n (z + 83) K k (mk z C I J t u) = K (mk z C I' J' t u) ∧ OnF z (fun j => j = 10) I I' ∧ OnJ z J J' ∧ I' (z + 83) 10 = nI (runE L tp ltB p) ∧ J' (z + 83) 14 = nJ (pkN (byL tp (min (runE L tp ltB p - s) 7) s)) := by
  intro k
  induction k with
  | zero => intro p I J h; omega
  | succ k ih =>
    intro p I J hk hp hs hT h10 h11 h14
    obtain ⟨h1, h2, h3⟩ := id hT
    have hb : ∀ j, j < L → tp j < 256 := fun j hj => (h3 j hj).2
    have m10 : mI (mk z C I J t u) (z + 83) 10 = nI p := h10
    have m11 : mI (mk z C I J t u) (z + 83) 11 = nI s := h11
    have m14 : mJ (mk z C I J t u) (z + 83) 14 = nJ (pkN (byL tp (min (p - s) 7) s)) := h14
    rw [f_X11_nextToken_L161]
    simp only [jn, bd]
    rw [m10, q_by hT (by omega), cl_some, q_ltr hb, cl_some]
    by_cases q : p < L ∧ ltB (tp p) = true
    · have hT2 : TpR z L tp (up2 I (z + 83) 10 (nI (p + 1))) := hT.on (P := fun j => j = 10) (OnF.ro.up rfl) (by decide)
      rw [decide_eq_true q.1, q.2, Bool.true_and, if_neg (by decide), m10, m11, nI_sb hs, q_by hT (by omega), cl_some, sI_mk, sJ_mk, show nI p + (1 : Int32) = nI (p + 1) from nI_pl p 1]
      rw [runE_s q.1 q.2]
      by_cases y : 7 ≤ p - s
      · rw [if_pos (show (7 : Int32) ≤ nI (p - s) from (nI_le' (a := 7) (by omega) (by omega)).mpr y)]
        obtain ⟨I', J', e, a, b, c, d⟩ := ih (p + 1) (up2 I (z + 83) 10 (nI (p + 1))) J (by omega) (by omega) (by omega) hT2 up2_v (by rw [up2_x (by omega)]; exact h11) (by rw [h14, Nat.min_eq_right (by omega), Nat.min_eq_right (by omega)])
        exact ⟨I', J', e, OnF.to (P := fun j => j = 10) (OnF.ro.up rfl) a, b, c, d⟩
      · rw [if_neg (show ¬ (7 : Int32) ≤ nI (p - s) from fun w => y ((nI_le' (a := 7) (by omega) (by omega)).mp w))]
        have hv : lsh (nJ (pkN (byL tp (min (p - s) 7) s))) (8 : Int32) ||| (byV L tp p).toInt64 = nJ (pkN (byL tp (min (p + 1 - s) 7) s)) := by
          rw [show byV L tp p = nI (tp p) from if_pos q.1, nI_64 (by have := hb p q.1; omega), Nat.min_eq_left (by omega), Nat.min_eq_left (by omega)]
          have hlt : pkN (byL tp (p - s) s) < 256 ^ (p - s) := by
            have := pkN_lt (l := byL tp (p - s) s) (fun x hx => by
              obtain ⟨j, a, b, c⟩ := byL_m _ _ _ hx
              rw [c]; exact hb j (by omega))
            rw [byL_len] at this; exact this
          have hpw : 256 ^ (p - s) ≤ 256 ^ 6 := Nat.pow_le_pow_right (by omega) (by omega)
          rw [nJ_sh (by omega) (hb p q.1), show p + 1 - s = p - s + 1 by omega, byL_s, pkN_s, show s + (p - s) = p by omega]
        obtain ⟨I', J', e, a, b, c, d⟩ := ih (p + 1) (up2 I (z + 83) 10 (nI (p + 1))) (up2 J (z + 83) 14 (nJ (pkN (byL tp (min (p + 1 - s) 7) s)))) (by omega) (by omega) (by omega) hT2 up2_v (by rw [up2_x (by omega)]; exact h11) up2_v
        refine ⟨I', J', ?_, OnF.to (P := fun j => j = 10) (OnF.ro.up rfl) a, fun x j w => (b x j w).trans (up2_x w), c, d⟩
        rw [m14, hv, sI_mk, show mI (mk z C I (up2 J (z + 83) 14 (nJ (pkN (byL tp (min (p + 1 - s) 7) s)))) t u) (z + 83) 10 = nI p from h10, show nI p + (1 : Int32) = nI (p + 1) from nI_pl p 1]
        exact e
    · have : (decide (p < L) && ltB (tp p)) = false := by
        by_cases e : p < L
        · rw [decide_eq_true e, Bool.true_and]; exact Bool.not_eq_true _ ▸ (fun w => q ⟨e, w⟩)
        · rw [decide_eq_false e, Bool.false_and]
      rw [this, if_pos (show bWC false = 0 from rfl), runE_e q]
      exact ⟨I, J, rfl, OnF.ro, fun _ _ _ => rfl, h10, h14⟩
end RM
