/-! BONE AND STAKE -/
section BN
variable {n z C t : Nat} {I : Nat → Nat → Int32} {J : Nat → Nat → Int64} {u : Option Nat}
/-- the class's cells behind a bone on the plain at z + o -/
def cBone (z o : Nat) (I : Nat → Nat → Int32) (k c v : Nat) : Nat → Nat → Int32 := up2 (up2 (up2 (up2 (up2 I (z + o) 7 (nI (k + 1))) (z + (o + 1)) k (nI c)) (z + (o + 2)) k (nI v)) (z + (o + 3)) k 0) (z + (o + 6)) c (-1)
/-- the reference's row behind a bone -/
def rBone (I : Nat → Nat → Int32) (a k c v : Nat) : Nat → Nat → Int32 := up2 (up2 (up2 (up2 (up2 (up2 I a (10 + 3 * k) (nI c)) a (11 + 3 * k) (nI v)) a (12 + 3 * k) 0) a 1 (nI (k + 1))) a (290 + c) (nI (k + 1))) a (240 + c) (-1)
theorem s_addBone_yes {o : Nat} (ho : isP o) (hg : I (z + 30) 2 = nI C) (hC : C ≤ 48) {k c v : Nat} (hk : k < 24) (hob : I (z + o) 7 = nI k) (hc : c < C) (h1 : 1 ≤ v) (h2 : v ≤ 99) (hb : bt (J (z + o) 10) c = false) (hs : bt (J (z + o) 11) c = false) :
    f_X3_addBone n (z + o) (nI c) (nI v) (mk z C I J t u) = some (nI k, mk z C (cBone z o I k c v) (up2 J (z + o) 10 (J (z + o) 10 ||| lsh 1 (nI c))) t u) := by
  unfold f_X3_addBone
  rw [if_neg (show ¬ nI v < (1 : Int32) by rw [show (1 : Int32) = nI 1 from rfl, nI_lt' (by omega) (by omega)]; omega), if_neg (show ¬ (99 : Int32) < nI v by rw [show (99 : Int32) = nI 99 from rfl, nI_lt' (by omega) (by omega)]; omega), mI_mk, hob, if_neg (show ¬ (24 : Int32) ≤ nI k by rw [show (24 : Int32) = nI 24 from rfl, nI_le' (by omega) (by omega)]; omega)]
  rcases s_isOpen (n := n) (J := J) (t := t) (u := u) ho hg hC (nI c) with ⟨q, -⟩ | ⟨d, hd, e, q⟩
  · exact absurd ⟨nI_pos (by omega), fun w => by rw [nI_le' (by omega) (by omega)] at w; omega⟩ q
  · obtain rfl : c = d := (nI_inj (by omega) (by omega)).mp e
    rw [q, cl_some, ite_bI, if_pos ⟨hb, hs⟩]
    simp only [bd, mI_mk, sI_mk, gP_1 ho, gP_2 ho, gP_3 ho, gP_6 ho, nP_1 ho, nP_2 ho, nP_3 ho, nP_6 ho, hob, ck_t (inb_nI (show k < 24 from hk) (by omega)), ck_t (inb_nI hc (by omega)), cl_nI (show k < 1000000 by omega), cl_nI (show c < 1000000 by omega), sJ_mk, mJ_mk, show nI k + (1 : Int32) = nI (k + 1) from nI_pl k 1]
    rfl
theorem s_addBone_no {o : Nat} (ho : isP o) (hg : I (z + 30) 2 = nI C) (hC : C ≤ 48) {k : Nat} (hk : k ≤ 24) (hob : I (z + o) 7 = nI k) (a b : Int32) (hno : ¬ (∃ c v, a = nI c ∧ b = nI v ∧ c < C ∧ 1 ≤ v ∧ v ≤ 99 ∧ k < 24 ∧ bt (J (z + o) 10) c = false ∧ bt (J (z + o) 11) c = false)) :
    f_X3_addBone n (z + o) a b (mk z C I J t u) = some (-1, mk z C I J t u) := by
  unfold f_X3_addBone
  by_cases c1 : b < (1 : Int32)
  · rw [if_pos c1]
  by_cases c2 : (99 : Int32) < b
  · rw [if_neg c1, if_pos c2]
  rw [if_neg c1, if_neg c2, mI_mk, hob]
  by_cases c3 : (24 : Int32) ≤ nI k
  · rw [if_pos c3]
  rw [if_neg c3]
  have hk2 : k < 24 := by
    rw [show (24 : Int32) = nI 24 from rfl, nI_le' (by omega) (by omega)] at c3; omega
  obtain ⟨v, hv, rfl⟩ := nI_nm (a := b) (N := 100) (by rw [i32_lt] at c1 ⊢; have : (1 : Int32).toInt = 1 := rfl; have : (0 : Int32).toInt = 0 := rfl; omega) (by rw [i32_lt] at c2; rw [i32_le, nI_t (by omega)]; have : (99 : Int32).toInt = 99 := rfl; omega) (by omega)
  have hv1 : 1 ≤ v := by
    rw [show (1 : Int32) = nI 1 from rfl, nI_lt' (by omega) (by omega)] at c1; omega
  rcases s_isOpen (n := n) (J := J) (t := t) (u := u) ho hg hC a with ⟨-, q⟩ | ⟨d, hd, rfl, q⟩
  · rw [q, cl_some, if_pos rfl]
  · rw [q, cl_some, ite_bI, if_neg (fun w => hno ⟨d, v, rfl, rfl, hd, hv1, by omega, hk2, w.1, w.2⟩)]
/-- the reference's bone() -/
theorem s_boneR_yes (hn : 100000 ≤ n) (hm : I (z + 83) 3 = nI C) (h4 : I (z + 83) 4 = 0) (hC : C ≤ 48) {k c v : Nat} (hk : k < 24) (hob : I (z + 84) 1 = nI k) (hc : c < C) (h1 : 1 ≤ v) (h2 : v ≤ 99) (hb : I (z + 84) (290 + c) = 0) (hs : ∀ g, g < 6 → I (z + 84) (85 + g) ≠ nI c) :
    f_X11_bone n (z + 83) (nI c) (nI v) (mk z C I J t u) = some (nI k, mk z C (rBone I (z + 84) k c v) J t u) := by
  unfold f_X11_bone
  rw [s_isCellR _ hm (by omega), cl_some, ite_bI, if_pos ⟨nI_pos (by omega), fun w => by rw [nI_le' (by omega) (by omega)] at w; omega⟩, s_isIn, cl_some, ite_bI, if_pos (show (1 : Int32) ≤ nI v ∧ nI v ≤ 99 by
    rw [show (1 : Int32) = nI 1 from rfl, show (99 : Int32) = nI 99 from rfl, nI_le' (by omega) (by omega), nI_le' (by omega) (by omega)]; omega), g83_0, n84, ck_t (by decide), if_neg (show ¬ mI (mk z C I J t u) (z + 84) (1 : Int32).toNatClampNeg = (24 : Int32) by
    rw [mI_mk, show (1 : Int32).toNatClampNeg = 1 from rfl, hob, show (24 : Int32) = nI 24 from rfl, nI_inj (by omega) (by omega)]; omega)]
  obtain ⟨r, e1, e2⟩ := s_isFree (n := n) (C := C) (J := J) (t := t) (u := u) (c := c) (by omega) hn h4
  rcases e2 with ⟨rfl, -⟩ | ⟨rfl, e2⟩
  · rw [e1, cl_some, if_neg (by decide)]
    have x1 : (10 : Int32) + (3 : Int32) * nI k = nI (10 + 3 * k) := by
      rw [show (3 : Int32) * nI k = nI (3 * k) from (Int32.ofNat_mul 3 k).symm]; exact nI_pl 10 (3 * k)
    have x2 : nI (10 + 3 * k) + (1 : Int32) = nI (11 + 3 * k) := by rw [show (1 : Int32) = nI 1 from rfl, nI_pl]; congr 1; omega
    have x3 : nI (10 + 3 * k) + (2 : Int32) = nI (12 + 3 * k) := by rw [show (2 : Int32) = nI 2 from rfl, nI_pl]; congr 1; omega
    have x4 : (290 : Int32) + nI c = nI (290 + c) := nI_pl 290 c
    have x5 : (240 : Int32) + nI c = nI (240 + c) := nI_pl 240 c
    have x6 : nI k + (1 : Int32) = nI (k + 1) := nI_pl k 1
    have x7 : nI (k + 1) - (1 : Int32) = nI k := by rw [← x6]; exact Int32.add_sub_cancel _ _
    simp only [bd, g83_0, n84, mI_mk, sI_mk, show (1 : Int32).toNatClampNeg = 1 from rfl, ck_t (show inb (1 : Int32) 2720 = true by decide), hob, x1, x2, x3, x4, x5,
      ck_t (inb_nI (show 10 + 3 * k < 2720 by omega) (by omega)), ck_t (inb_nI (show 11 + 3 * k < 2720 by omega) (by omega)), ck_t (inb_nI (show 12 + 3 * k < 2720 by omega) (by omega)), ck_t (inb_nI (show 290 + c < 2720 by omega) (by omega)), ck_t (inb_nI (show 240 + c < 2720 by omega) (by omega)),
      cl_nI (show 10 + 3 * k < 1000000 by omega), cl_nI (show 11 + 3 * k < 1000000 by omega), cl_nI (show 12 + 3 * k < 1000000 by omega), cl_nI (show 290 + c < 1000000 by omega), cl_nI (show 240 + c < 1000000 by omega)]
    simp only [up2_at, if_neg (show ¬ 1 = 10 + 3 * k by omega), if_neg (show ¬ 1 = 11 + 3 * k by omega), if_neg (show ¬ 1 = 12 + 3 * k by omega), if_neg (show ¬ 1 = 290 + c by omega), if_neg (show ¬ 1 = 240 + c by omega), hob, x6, if_true, x7]
    rfl
  · exact absurd ⟨hb, hs⟩ e2
theorem s_boneR_no (hn : 100000 ≤ n) (hm : I (z + 83) 3 = nI C) (h4 : I (z + 83) 4 = 0) (hC : C ≤ 48) {k : Nat} (hk : k ≤ 24) (hob : I (z + 84) 1 = nI k) (a b : Int32) (hno : ¬ (∃ c v, a = nI c ∧ b = nI v ∧ c < C ∧ 1 ≤ v ∧ v ≤ 99 ∧ k < 24 ∧ I (z + 84) (290 + c) = 0 ∧ ∀ g, g < 6 → I (z + 84) (85 + g) ≠ nI c)) :
    f_X11_bone n (z + 83) a b (mk z C I J t u) = some (-1, mk z C I J t u) := by
  unfold f_X11_bone
  rw [s_isCellR _ hm (by omega), cl_some, ite_bI]
  by_cases c1 : ¬ a < 0 ∧ ¬ nI C ≤ a
  · rw [if_pos c1, s_isIn, cl_some, ite_bI]
    obtain ⟨c, hc, rfl⟩ := nI_nm c1.1 c1.2 (by omega)
    by_cases c2 : (1 : Int32) ≤ b ∧ b ≤ 99
    · rw [if_pos c2, g83_0, n84, ck_t (by decide)]
      obtain ⟨v, hv, rfl⟩ := nI_nm (a := b) (N := 100) (by have := c2.1; rw [i32_le] at this; rw [i32_lt]; have : (1 : Int32).toInt = 1 := rfl; have : (0 : Int32).toInt = 0 := rfl; omega) (by have := c2.2; rw [i32_le] at this; rw [i32_le, nI_t (by omega)]; have : (99 : Int32).toInt = 99 := rfl; omega) (by omega)
      have hv1 : 1 ≤ v := by
        have := c2.1
        rw [show (1 : Int32) = nI 1 from rfl, nI_le' (by omega) (by omega)] at this; exact this
      by_cases c3 : k = 24
      · rw [if_pos (show mI (mk z C I J t u) (z + 84) (1 : Int32).toNatClampNeg = (24 : Int32) by rw [mI_mk, show (1 : Int32).toNatClampNeg = 1 from rfl, hob, c3]; rfl)]
      · rw [if_neg (show ¬ mI (mk z C I J t u) (z + 84) (1 : Int32).toNatClampNeg = (24 : Int32) by
          rw [mI_mk, show (1 : Int32).toNatClampNeg = 1 from rfl, hob, show (24 : Int32) = nI 24 from rfl, nI_inj (by omega) (by omega)]; exact c3)]
        obtain ⟨r, e1, e2⟩ := s_isFree (n := n) (C := C) (J := J) (t := t) (u := u) (c := c) (by omega) hn h4
        rcases e2 with ⟨rfl, e2, e3⟩ | ⟨rfl, e2⟩
        · exact absurd ⟨c, v, rfl, rfl, hc, hv1, by omega, by omega, e2, e3⟩ hno
        · rw [e1, cl_some, if_pos rfl]
    · rw [if_neg c2]
  · rw [if_neg c1]
end BN
