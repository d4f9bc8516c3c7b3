/-! THE CLASS'S VALUE of a clause, run to its end -/
section VR
variable {n z C t k : Nat} {I : Nat → Nat → Int32} {J : Nat → Nat → Int64} {u : Option Nat}
theorem v_one {e f i : Nat} {K : Int32 → MS → Option (Int32 × MS)} {st : Nat → Int32} {nm : Nat → Int} {c : Nat × Nat} {s : AS} (hk : k < t) (hi : i < e) (he : e ≤ 300) (hok : okA c s.1 s.2.2.1) (hm : s.1 + s.2.2.1 ≤ 60) (hc : I (z + (97 + 6 * k + 1 + 4)) i = nI (c.2 * 64 + sg c.1)) (hc0 : 2 ≤ c.1 → c.2 = 0) (hn : c.1 = 1 → small (nm c.2) ∧ I (z + 24) c.2 = iI (nm c.2)) (hb : bdA s) (hs : CRs st s) :
    ∃ st', vL n z k e K (f + 1) (s.1 + s.2.2.1) i (mk z C (upr I (z + 25) st) J t u) = vL n z k e K f ((stepA nm c s).1 + (stepA nm c s).2.2.1) (i + 1) (mk z C (upr I (z + 25) st') J t u) ∧ CRs st' (stepA nm c s) := by
  have hz : z + (97 + 6 * k + 1 + 4) ≠ z + 25 := by omega
  obtain ⟨a, V, b, B⟩ := s
  obtain ⟨o, v⟩ := c
  obtain ⟨s1, s2⟩ := hs
  unfold okA at hok
  simp only at hok hm hc hc0 hn s1 s2
  show ∃ st', vL n z k e K (f + 1) (a + b) i (mk z C (upr I (z + 25) st) J t u) = vL n z k e K f ((stepA nm (o, v) (a, V, b, B)).1 + (stepA nm (o, v) (a, V, b, B)).2.2.1) (i + 1) (mk z C (upr I (z + 25) st') J t u) ∧ CRs st' (stepA nm (o, v) (a, V, b, B))
  rcases hok with ⟨h0, hv, h1⟩ | ⟨h0, hv, h1⟩ | ⟨h0, h1⟩ | ⟨⟨h0, h0'⟩, h1⟩ | ⟨⟨h0, h0'⟩, h1⟩ | ⟨h0, h1, h2⟩ | ⟨h0, h1, h2⟩
  · subst h0
    refine ⟨ur st (a + b) (nI v), v_push hk hi he (by omega) hv hc hz |>.trans ?_, ?_, ?_⟩
    · rw [show (stepA nm (0, v) (a, V, b, B)).1 + (stepA nm (0, v) (a, V, b, B)).2.2.1 = a + b + 1 by show a + 1 + b = _; omega]
    · intro j hj
      show ur st (a + b) (nI v) j = _
      have hj : j < b := hj
      rw [ur_ne _ _ (by omega)]; exact s1 j hj
    · intro j hj
      show ur st (a + b) (nI v) (b + j) = iI (ur V a (v : Int) j)
      have hj : j < a + 1 := hj
      by_cases hja : j = a
      · subst hja; rw [Nat.add_comm b j, ur_at, ur_at, nI_iI (by omega)]
      · rw [ur_ne _ _ (by omega), ur_ne _ _ hja]; exact s2 j (by omega)
  · subst h0
    refine ⟨ur st (a + b) (I (z + 24) v), v_name hk hi he (by omega) hv hc hz |>.trans ?_, ?_, ?_⟩
    · rw [show (stepA nm (1, v) (a, V, b, B)).1 + (stepA nm (1, v) (a, V, b, B)).2.2.1 = a + b + 1 by show a + 1 + b = _; omega]
    · intro j hj
      show ur st (a + b) (I (z + 24) v) j = _
      have hj : j < b := hj
      rw [ur_ne _ _ (by omega)]; exact s1 j hj
    · intro j hj
      show ur st (a + b) (I (z + 24) v) (b + j) = iI (ur V a (nm v) j)
      have hj : j < a + 1 := hj
      by_cases hja : j = a
      · subst hja; rw [Nat.add_comm b j, ur_at, ur_at]; exact (hn rfl).2
      · rw [ur_ne _ _ (by omega), ur_ne _ _ hja]; exact s2 j (by omega)
  · subst h0
    have hv0 := hc0 (by omega)
    subst hv0
    have hsm := hb (a - 1) (show a - 1 < a by omega)
    have hsm : small (V (a - 1)) := hsm
    unfold small at hsm
    have sx := s2 (a - 1) (by omega)
    refine ⟨ur st (a + b - 1) (-(st (a + b - 1))), v_neg hk hi he (by omega) (by omega) hc hz |>.trans ?_, ?_, ?_⟩
    · rfl
    · intro j hj
      show ur st (a + b - 1) _ j = _
      have hj : j < b := hj
      rw [ur_ne _ _ (by omega)]; exact s1 j hj
    · intro j hj
      show ur st (a + b - 1) (-(st (a + b - 1))) (b + j) = iI (ur V (a - 1) (-(V (a - 1))) j)
      have hj : j < a := hj
      by_cases hja : j = a - 1
      · subst hja
        rw [show b + (a - 1) = a + b - 1 by omega, ur_at, ur_at, show a + b - 1 = b + (a - 1) by omega, sx, iI_neg (by omega) (by omega)]
      · rw [ur_ne _ _ (by omega), ur_ne _ _ hja]; exact s2 j hj
  · have hv0 := hc0 (by omega)
    subst hv0
    rw [Nat.zero_mul, Nat.zero_add] at hc
    have e : stepA nm (o, 0) (a, V, b, B) = (a - 1, ur V (a - 2) (twoA o (V (a - 2)) (V (a - 1))), b, B) := by unfold stepA; simp [show ¬ o = 0 by omega, show ¬ o = 1 by omega, show ¬ o = 2 by omega, show o < 10 by omega]
    have hx : small (V (a - 2)) := hb (a - 2) (show a - 2 < a by omega)
    have hy : small (V (a - 1)) := hb (a - 1) (show a - 1 < a by omega)
    have sx : st (a + b - 2) = iI (V (a - 2)) := by rw [show a + b - 2 = b + (a - 2) by omega]; exact s2 _ (by omega)
    have sy : st (a + b - 1) = iI (V (a - 1)) := by rw [show a + b - 1 = b + (a - 1) by omega]; exact s2 _ (by omega)
    rw [e]
    have fin : CRs (ur st (a + b - 2) (iI (twoA o (V (a - 2)) (V (a - 1))))) (a - 1, ur V (a - 2) (twoA o (V (a - 2)) (V (a - 1))), b, B) := by
      refine ⟨?_, ?_⟩
      · intro j hj
        have hj : j < b := hj
        show ur st (a + b - 2) _ j = _
        rw [ur_ne _ _ (by omega)]; exact s1 j hj
      · intro j hj
        have hj : j < a - 1 := hj
        show ur st (a + b - 2) _ (b + j) = iI (ur V (a - 2) _ j)
        by_cases hja : j = a - 2
        · subst hja
          rw [show b + (a - 2) = a + b - 2 by omega, ur_at, ur_at]
        · rw [ur_ne _ _ (by omega), ur_ne _ _ hja]; exact s2 j (by omega)
    by_cases h6 : o ≤ 6
    · refine ⟨_, (v_step hk hi he (by omega) (by omega) ⟨h0, h6⟩ hc hz hx hy sx sy).trans ?_, fin⟩
      rw [show a + b - 1 = a - 1 + b by omega]
    · have ho : o = 7 ∨ o = 8 := by omega
      refine ⟨_, (v_join (o := o) hk hi he (by omega) (by omega) (by omega) hc hz).trans ?_, fin⟩
      rw [show a + b - 1 = a - 1 + b by omega, show st (a - 1 + b) = iI (V (a - 1)) by rw [← sy]; congr 1; omega, sx, joA_num ho hx hy]
  · have hv0 := hc0 (by omega)
    subst hv0
    subst h1
    rw [Nat.zero_mul, Nat.zero_add] at hc
    have e : stepA nm (o, 0) (2, V, b, B) = (0, V, b + 1, ur B b (askA o (V 0) (V 1))) := by unfold stepA; simp [show ¬ o = 0 by omega, show ¬ o = 1 by omega, show ¬ o = 2 by omega, show ¬ o < 10 by omega, show o < 20 by omega]
    have hx : small (V 0) := hb 0 (show 0 < 2 by omega)
    have hy : small (V 1) := hb 1 (show 1 < 2 by omega)
    have sx : st b = iI (V 0) := s2 0 (by omega)
    have sy : st (b + 1) = iI (V 1) := s2 1 (by omega)
    rw [e]
    refine ⟨ur st (2 + b - 2) (joA o (st (2 + b - 2)) (st (2 + b - 1))), (v_join (o := o) hk hi he (by omega) (by omega) (by omega) hc hz).trans ?_, ?_, ?_⟩
    · rw [show 2 + b - 1 = 0 + (b + 1) by omega]
    · intro j hj
      have hj : j < b + 1 := hj
      show ur st (2 + b - 2) (joA o (st (2 + b - 2)) (st (2 + b - 1))) j = if ur B b (askA o (V 0) (V 1)) j = true then 1 else 0
      rw [show 2 + b - 2 = b by omega, show 2 + b - 1 = b + 1 by omega, sx, sy, joA_ask ⟨h0, h0'⟩ hx hy]
      by_cases hjb : j = b
      · subst hjb; rw [ur_at, ur_at]
      · rw [ur_ne _ _ hjb, ur_ne _ _ hjb]; exact s1 j (by omega)
    · intro j hj
      have : j < 0 := hj
      omega
  · have hv0 := hc0 (by omega)
    subst hv0
    subst h0
    subst h1
    refine ⟨ur st (0 + b - 1) (1 - st (0 + b - 1)), v_not hk hi he (by omega) (by omega) hc hz |>.trans ?_, ?_, ?_⟩
    · rfl
    · intro j hj
      have hj : j < b := hj
      show ur st (0 + b - 1) (1 - st (0 + b - 1)) j = if ur B (b - 1) (!B (b - 1)) j = true then 1 else 0
      rw [show 0 + b - 1 = b - 1 by omega, s1 (b - 1) (by omega), bb_not]
      by_cases hjb : j = b - 1
      · subst hjb; rw [ur_at, ur_at]
      · rw [ur_ne _ _ hjb, ur_ne _ _ hjb]; exact s1 j hj
    · intro j hj
      have : j < 0 := hj
      omega
  · have hv0 := hc0 (by omega)
    subst hv0
    subst h1
    rw [Nat.zero_mul, Nat.zero_add] at hc
    have e : stepA nm (o, 0) (0, V, b, B) = (0, V, b - 1, ur B (b - 2) (if o = 21 then B (b - 2) && B (b - 1) else B (b - 2) || B (b - 1))) := by
      unfold stepA
      simp [show ¬ o = 0 by omega, show ¬ o = 1 by omega, show ¬ o = 2 by omega, show ¬ o < 10 by omega, show ¬ o < 20 by omega, show ¬ o = 20 by omega]
    rw [e]
    refine ⟨ur st (0 + b - 2) (joA o (st (0 + b - 2)) (st (0 + b - 1))), (v_join (o := o) hk hi he (by omega) (by omega) (by omega) hc hz).trans ?_, ?_, ?_⟩
    · rw [show 0 + b - 1 = 0 + (b - 1) by omega]
    · intro j hj
      have hj : j < b - 1 := hj
      show ur st (0 + b - 2) (joA o (st (0 + b - 2)) (st (0 + b - 1))) j = if ur B (b - 2) (if o = 21 then B (b - 2) && B (b - 1) else B (b - 2) || B (b - 1)) j = true then 1 else 0
      have hjo : joA o (st (b - 2)) (st (b - 1)) = if (if o = 21 then B (b - 2) && B (b - 1) else B (b - 2) || B (b - 1)) = true then 1 else 0 := by
        rw [s1 (b - 2) (by omega), s1 (b - 1) (by omega)]
        unfold joA
        rcases h0 with rfl | rfl
        · simp only [show ¬ (21 : Nat) = 7 by omega, show ¬ (21 : Nat) = 8 by omega, show ¬ (21 : Nat) = 10 by omega, show ¬ (21 : Nat) = 11 by omega, show ¬ (21 : Nat) = 12 by omega, show ¬ (21 : Nat) = 13 by omega, show ¬ (21 : Nat) = 14 by omega, show ¬ (21 : Nat) = 15 by omega, if_false, if_true]
          exact bb_and _ _
        · simp only [show ¬ (22 : Nat) = 7 by omega, show ¬ (22 : Nat) = 8 by omega, show ¬ (22 : Nat) = 10 by omega, show ¬ (22 : Nat) = 11 by omega, show ¬ (22 : Nat) = 12 by omega, show ¬ (22 : Nat) = 13 by omega, show ¬ (22 : Nat) = 14 by omega, show ¬ (22 : Nat) = 15 by omega, show ¬ (22 : Nat) = 21 by omega, if_false]
          exact bb_or _ _
      rw [show 0 + b - 2 = b - 2 by omega, show 0 + b - 1 = b - 1 by omega, hjo]
      by_cases hjb : j = b - 2
      · subst hjb; rw [ur_at, ur_at]
      · rw [ur_ne _ _ hjb, ur_ne _ _ hjb]; exact s1 j (by omega)
    · intro j hj
      have : j < 0 := hj
      omega
theorem okA_room {nm : Nat → Int} {c : Nat × Nat} {s : AS} (hok : okA c s.1 s.2.2.1) (hm : s.1 + s.2.2.1 ≤ 60) : (stepA nm c s).1 + (stepA nm c s).2.2.1 ≤ 60 := by
  obtain ⟨h1, h2⟩ := stepA_nk nm c s
  rw [h1, h2]
  unfold okA at hok
  unfold nxN nxK
  rcases hok with ⟨h0, hv, h1⟩ | ⟨h0, hv, h1⟩ | ⟨h0, h1⟩ | ⟨⟨h0, h0'⟩, h1⟩ | ⟨⟨h0, h0'⟩, h1⟩ | ⟨h0, h1, h2⟩ | ⟨h0, h1, h2⟩
  · rw [if_pos (by omega), if_pos (by omega)]; omega
  · rw [if_pos (by omega), if_pos (by omega)]; omega
  · rw [if_neg (by omega), if_pos (by omega), if_pos (by omega)]; omega
  · rw [if_neg (by omega), if_neg (by omega), if_pos (by omega), if_pos (by omega)]; omega
  · rw [if_neg (by omega), if_neg (by omega), if_neg (by omega), if_pos (by omega), if_neg (by omega), if_pos (by omega)]; omega
  · rw [if_neg (by omega), if_neg (by omega), if_neg (by omega), if_neg (by omega), if_neg (by omega), if_neg (by omega), if_pos h0]; omega
  · rw [if_neg (by omega), if_neg (by omega), if_neg (by omega), if_neg (by omega), if_neg (by omega), if_neg (by omega), if_neg (by omega)]; omega
/-- the codes from i to e as the class holds them -/
def cCode (z k : Nat) (I : Nat → Nat → Int32) (cd : Nat → Nat × Nat) (i e : Nat) : Prop := ∀ j, i ≤ j → j < e → I (z + (97 + 6 * k + 1 + 4)) j = nI ((cd j).2 * 64 + sg (cd j).1) ∧ (2 ≤ (cd j).1 → (cd j).2 = 0)
def cName (r : Nat → Int32) (nm : Nat → Int) (cd : Nat → Nat × Nat) (i e : Nat) : Prop := ∀ j, i ≤ j → j < e → (cd j).1 = 1 → small (nm (cd j).2) ∧ r (cd j).2 = iI (nm (cd j).2)
theorem v_run {e : Nat} {K : Int32 → MS → Option (Int32 × MS)} {nm : Nat → Int} {cd : Nat → Nat × Nat} (hk : k < t) (he : e ≤ 300) {n' k' : Nat} :
    ∀ (d i f : Nat) (s : AS) (st : Nat → Int32), i + d = e → d < f → shpA cd d i s.1 s.2.2.1 n' k' → s.1 + s.2.2.1 ≤ 60 → cCode z k I cd i e → cName (I (z + 24)) nm cd i e → bdA s → CRs st s →
    ∃ st', vL n z k e K f (s.1 + s.2.2.1) i (mk z C (upr I (z + 25) st) J t u) = K (nI (n' + k')) (mk z C (upr I (z + 25) st') J t u) ∧ CRs st' (runA nm cd d i s) ∧ bdA (runA nm cd d i s) ∧ (runA nm cd d i s).1 = n' ∧ (runA nm cd d i s).2.2.1 = k' := by
  intro d
  induction d with
  | zero =>
    intro i f s st hi hf hs hm hc hn hb hr
    obtain ⟨f, rfl⟩ : ∃ m, f = m + 1 := ⟨f - 1, by omega⟩
    obtain ⟨e1, e2⟩ := hs
    refine ⟨st, ?_, hr, hb, e1, e2⟩
    unfold vL
    rw [f_X5_value_L25]
    simp only [jn]
    rw [if_pos (show nI e ≤ nI i by rw [nI_le' (by omega) (by omega)]; omega), e1, e2]
  | succ d ih =>
    intro i f s st hi hf hs hm hc hn hb hr
    obtain ⟨f, rfl⟩ : ∃ m, f = m + 1 := ⟨f - 1, by omega⟩
    obtain ⟨hok, hs2⟩ := hs
    obtain ⟨st1, e1, hr1⟩ := v_one (n := n) (C := C) (J := J) (u := u) (K := K) (f := f) (e := e) (i := i) hk (by omega) he hok hm (hc i (Nat.le_refl _) (by omega)).1 (hc i (Nat.le_refl _) (by omega)).2 (fun h => hn i (Nat.le_refl _) (by omega) h) hb hr
    have hnk := stepA_nk nm (cd i) s
    obtain ⟨st2, e2, r1, r2, r3, r4⟩ := ih (i + 1) f (stepA nm (cd i) s) st1 (by omega) (by omega) (by rw [hnk.1, hnk.2]; exact hs2) (okA_room hok hm) (fun j h1 h2 => hc j (by omega) h2) (fun j h1 h2 => hn j (by omega) h2) (stepA_small hok hb (fun h => (hn i (Nat.le_refl _) (by omega) h).1)) hr1
    exact ⟨st2, e1.trans e2, r1, r2, r3, r4⟩
/-- nothing yet -/
def aS0 : AS := (0, fun _ => 0, 0, fun _ => false)
theorem s_valueC (hn : 100000 ≤ n) {nm : Nat → Int} {cd : Nat → Nat × Nat} (hk : k < t) {cl0 a e sz : Nat} (hcl : cl0 < 20) (hae : a ≤ e) (hes : e ≤ sz) (hsz : sz ≤ 300) (hs0 : I (z + (97 + 6 * k)) 6 = nI sz) (h1 : I (z + (97 + 6 * k + 1 + 1)) cl0 = nI a) (h2 : I (z + (97 + 6 * k + 1 + 2)) cl0 = nI e) (hc : cCode z k I cd a e) (hnm : cName (I (z + 24)) nm cd a e) {n' k' : Nat} (hs : shpA cd (e - a) a 0 0 n' k') (hnk : 0 < n' + k') (hnk2 : n' + k' ≤ 60) :
    ∃ st, f_X5_value n (z + 23) (some (z + (97 + 6 * k))) (nI cl0) (mk z C I J t u) = some (st 0, mk z C (upr I (z + 25) st) J t u) ∧ CRs st (runA nm cd (e - a) a aS0) ∧ bdA (runA nm cd (e - a) a aS0) ∧ (runA nm cd (e - a) a aS0).1 = n' ∧ (runA nm cd (e - a) a aS0).2.2.1 = k' := by
  have hmin : imin (nI sz) (nI e) = nI e := by
    unfold imin
    by_cases h : nI e < nI sz
    · rw [if_pos h]
    · rw [if_neg h]
      rw [nI_lt' (by omega) (by omega)] at h
      rw [show sz = e by omega]
  obtain ⟨st, e1, r1, r2, r3, r4⟩ := v_run (n := n) (z := z) (C := C) (I := I) (J := J) (u := u) (nm := nm) (cd := cd) (K := fun (x17 : Int32) (S18 : MS) => (if x17 ≤ 0 then some ((0 : Int32), S18) else gR S18 (mR S18 (z + 23) 1) 12 fun q19 => ck (inb (0 : Int32) (mN S18 q19)) (some ((mI S18 q19 (0 : Int32).toNatClampNeg), S18)))) hk (e := e) (by omega) (e - a) a n aS0 (I (z + 25)) (by omega) (by omega) hs (by decide) hc hnm (fun j hj => absurd hj (Nat.not_lt_zero j)) ⟨fun j hj => absurd hj (Nat.not_lt_zero j), fun j hj => absurd hj (Nat.not_lt_zero j)⟩
  refine ⟨st, ?_, r1, r2, r3, r4⟩
  rw [upr_self] at e1
  unfold f_X5_value
  simp only [nn, jn, bd]
  rw [gT hk (by omega), gT hk (by omega), nT hk (by omega), nT hk (by omega), ck_t (inb_nI hcl (by omega)), ck_t (inb_nI hcl (by omega)), cl_nI (by omega), mI_mk, mI_mk, mI_mk, hs0, h1, h2, hmin]
  refine Eq.trans e1 ?_
  show (if nI (n' + k') ≤ 0 then _ else _) = _
  rw [if_neg (show ¬ nI (n' + k') ≤ 0 by rw [show (0 : Int32) = nI 0 from rfl, nI_le' (by omega) (by omega)]; omega), g23_1, n25, ck_t (by decide), mI_mk, upr_at]
  rfl
end VR
