/-! THE CLASS'S BLOW WHOLE; THE REFERENCE'S BLOW -/
/-- what the class's blow may change beside the plain at o -/
def SbW (z o : Nat) (I I' : Nat → Nat → Int32) (J J' : Nat → Nat → Int64) : Prop := (∀ q, (q < z + 24 ∨ (z + 30 ≤ q ∧ q < z + o) ∨ z + (o + 7) ≤ q) → I' q = I q) ∧ (∀ q, q ≠ z + o → J' q = J q) ∧ J' (z + o) 9 = J (z + o) 9 ∧ I' (z + (o + 5)) = I (z + (o + 5))
theorem SbW.tr {z o : Nat} {I I' I2 : Nat → Nat → Int32} {J J' J2 : Nat → Nat → Int64} (h : SbW z o I I' J J') (h2 : SbW z o I' I2 J' J2) : SbW z o I I2 J J2 := ⟨fun q a => (h2.1 q a).trans (h.1 q a), fun q a => (h2.2.1 q a).trans (h.2.1 q a), h2.2.2.1.trans h.2.2.1, h2.2.2.2.trans h.2.2.2⟩
section BW
variable {n z t W H M o B : Nat} {I : Nat → Nat → Int32} {J : Nat → Nat → Int64} {u : Option Nat} {T : TP} {L : Option XT}
theorem gN_none {α : Type} {S : MS} {c : Nat} {F : Option Nat → Option α} : gN S none c F = F none := rfl
theorem gN_some {α : Type} {C r : Nat} (hr : r < t) {F : Option Nat → Option α} : gN (mk z C I J t u) (some (z + (97 + 6 * r))) 7 F = F (some (z + (97 + 6 * r))) := by
  show (if z + (97 + 6 * r) ∈ mL (mk z C I J t u) ∧ mK (mk z C I J t u) (z + (97 + 6 * r)) = 7 then _ else none) = _
  rw [if_pos ⟨mL_mk (by omega), by
    rw [mK_mk]
    unfold kO
    rw [if_neg (by omega), if_pos (by omega), if_pos (by omega)]⟩]
/-- the law, as the class has it -/
theorem s_lawC {C : Nat} (hL : LawR z t I L) : ∃ la, LwC z t I L la ∧ f_X9_law n (z + 26) (mk z C I J t u) = some (la, mk z C I J t u) ∧ ∀ {α : Type} {I' : Nat → Nat → Int32} {J' : Nat → Nat → Int64} {F : Option Nat → Option α}, gN (mk z C I' J' t u) la 7 F = F la := by
  rcases s_law (n := n) (C := C) (J := J) (u := u) hL with ⟨e, h⟩ | ⟨r, X, e, hr, hr4, hX, hC, hR, h4, h⟩
  · exact ⟨none, Or.inl ⟨e, rfl⟩, h, fun {_ _ _ _} => rfl⟩
  · exact ⟨_, Or.inr ⟨r, X, e, rfl, hr, hr4, hX, hC⟩, h, fun {_ _ _ _} => gN_some hr⟩
theorem s_blowC (hn : 100000 ≤ n) (hM : M < 100000) (hD : dims W H) (hG : GeoR W H (I (z + 30)) (J (z + 30)) (J (z + 31))) (ho : isP o) (hW : TW (W * H) M T) (hT : ClsT z (W * H) o I J T) (hL : LawR z t I L) {w str : Nat} {dx dy : Int32} (hwn : WnC z I w dx dy str) :
    ∃ I' J', f_X9_blow n (z + 26) (z + o) (nI w) (mk z (W * H) I J t u) = some (nI (blT W H L dx.toInt dy.toInt str T).2, mk z (W * H) I' J' t u) ∧ ClsT z (W * H) o I' J' (blT W H L dx.toInt dy.toInt str T).1 ∧ SbW z o I I' J J' := by
  have h24 := hW.1
  have ho2 := isP_ge ho
  obtain ⟨w1, w2, w3, w4, w5, w6, w7⟩ := id hwn
  obtain ⟨la, hla, ela, hgn⟩ := s_lawC (n := n) (C := W * H) (J := J) (u := u) hL
  obtain ⟨I1, e1, k1, k2⟩ := s_put (n := n) (t := t) (u := u) hn hD hG.1 ho hW hT w2 w3
  have run : ∀ still : Int32, ((still = 1 ∧ dx = 0 ∧ dy = 0) ∨ (still = 0 ∧ ¬ (dx = 0 ∧ dy = 0))) → ∃ I' J', (cl (f_X9_law n (z + 26) (mk z (W * H) I J t u)) fun q20 S17 => gN S17 q20 7 fun q20 => cv (f_X9_putInOrder n (z + 26) (z + o) dx dy S17) fun S21 => f_X9_blow_L57 n (z + 26) (z + o) (nI w) dx dy still q20 n (0 : Int32) (0 : Int32) S21) = some (nI (blT W H L dx.toInt dy.toInt str T).2, mk z (W * H) I' J' t u) ∧ ClsT z (W * H) o I' J' (blT W H L dx.toInt dy.toInt str T).1 ∧ SbW z o I I' J J' := by
    intro still hs
    obtain ⟨I', J', e, r1, r2⟩ := blow_L (n := n) (z := z) (t := t) (u := u) (L := L) (la := la) (w := w) (str := str) hn hM hD ho hW hs (tk T) 0 n I1 J (by omega) (by omega) (by rw [k1 _ (by omega) (by omega) (by omega)]; exact hG) (hT.keep (fun i _ => k1 _ (by omega) (by omega) (by omega)) rfl) (hla.congr (fun q hq => k1 q (by omega) (by omega) (by omega))) ⟨w1, w2, w3, w4, by rw [k1 _ (by omega) (by omega) (by omega)]; exact w5, by rw [k1 _ (by omega) (by omega) (by omega)]; exact w6, by rw [k1 _ (by omega) (by omega) (by omega)]; exact w7⟩ k2
    refine ⟨I', J', ?_, r1, ?_⟩
    · rw [ela, cl_some, hgn, e1, cv_some]
      exact e
    · refine ⟨fun q hq => ?_, r2.2.1, r2.2.2.1, ?_⟩
      · rw [r2.1 q (by omega) (by omega) (by omega), k1 q (by omega) (by omega) (by omega)]
      · rw [r2.2.2.2, k1 _ (by omega) (by omega) (by omega)]
  unfold f_X9_blow
  simp only [jn, bd]
  rw [g26_0, g1_0, n2, ck_t (inb_nI w1 (by omega)), cl_nI (by omega), mI_mk, w5, g26_0, g1_1, n3, ck_t (inb_nI w1 (by omega)), mI_mk, w6]
  by_cases c1 : dx = 0
  · by_cases c2 : dy = 0
    · rw [if_pos c1, if_pos c2]; exact run 1 (Or.inl ⟨rfl, c1, c2⟩)
    · rw [if_pos c1, if_neg c2]; exact run 0 (Or.inr ⟨rfl, fun w => c2 w.2⟩)
  · rw [if_neg c1]; exact run 0 (Or.inr ⟨rfl, fun w => c1 w.1⟩)
/-- what the reference's blow may change -/
def SgB (z B : Nat) (I I' : Nat → Nat → Int32) (J J' : Nat → Nat → Int64) : Prop := (∀ q, (q < z + 84 ∨ (z + 85 ≤ q ∧ q < z + 88) ∨ q = z + 89 ∨ z + 93 ≤ q) → I' q = I q) ∧ (∀ q, q ≠ z + 89 → J' q = J q) ∧ Q84 B (I (z + 84)) (I' (z + 84))
theorem SgB.rf (z B : Nat) (I : Nat → Nat → Int32) (J : Nat → Nat → Int64) : SgB z B I I J J := ⟨fun _ _ => rfl, fun _ _ => rfl, Q84.rf _ _⟩
theorem SgB.tr {I I' I2 : Nat → Nat → Int32} {J J' J2 : Nat → Nat → Int64} (h : SgB z B I I' J J') (h2 : SgB z B I' I2 J' J2) : SgB z B I I2 J J2 := ⟨fun q a => (h2.1 q a).trans (h.1 q a), fun q a => (h2.2.1 q a).trans (h.2.1 q a), h.2.2.tr h2.2.2⟩
theorem SgB.of {I I' : Nat → Nat → Int32} {J J' : Nat → Nat → Int64} (h : Sg z B I I' J J') : SgB z B I I' J J' := ⟨fun q hq => h.1 q (by omega) (by omega) (by omega), h.2.1, h.2.2⟩
theorem SgB.mod {I I' : Nat → Nat → Int32} {J J' : Nat → Nat → Int64} (h : SgB z B I I' J J') (hM : ModR z W H B I) : ModR z W H B I' := by
  unfold ModR
  rw [h.1 (z + 83) (by omega)]; exact hM
theorem SgB.law {I I' : Nat → Nat → Int32} {J J' : Nat → Nat → Int64} (hB : B = 0 ∨ 340 ≤ B) (h : SgB z B I I' J J') (hL : LawR z t I L) : LawR z t I' L :=
  hL.congr (fun j _ => by rw [h.1 (z + 1) (by omega)]) (h.2.2.out hB (by decide) (by omega)) (h.1 _ (by omega)) (fun q hq => h.1 q (by omega))
theorem SgB.wn {I I' : Nat → Nat → Int32} {J J' : Nat → Nat → Int64} (hB : B = 0 ∨ 340 ≤ B) (h : SgB z B I I' J J') {w str : Nat} {dx dy : Int32} (hw : WnR (I (z + 84)) w dx dy str) : WnR (I' (z + 84)) w dx dy str := by
  obtain ⟨a1, a2, a3, a4, a5, a6, a7⟩ := hw
  refine ⟨a1, a2, a3, a4, ?_, ?_, ?_⟩
  · rw [h.2.2.out hB (plj_w (by omega) (by omega)) (by omega)]; exact a5
  · rw [h.2.2.out hB (plj_w (by omega) (by omega)) (by omega)]; exact a6
  · rw [h.2.2.out hB (plj_w (by omega) (by omega)) (by omega)]; exact a7
/-- the selection of the next bone -/
theorem sel_L (hM' : ModR z W H B I) (hB : B ≤ 2380) {C : Nat} {T' : TP} (hT : RefT z C B I T') {kf : Nat → Int} {k0 p : Nat} (hk0 : tk T' = k0) (hk24 : k0 ≤ 24) (hkf : ∀ j, j < k0 → -1000 ≤ kf j ∧ kf j ≤ 1000) (ha : ∀ j, j < k0 → I (z + 91) j = iI (kf j)) (hg : ∀ j, j < k0 → I (z + 92) j = if pos kf k0 j < p then 1 else 0) (hp : p < k0) (a1 x7 x8 : Int32) (K : Int32 → MS → Option (Int32 × MS)) :
    ∀ (d m k : Nat) (x : Option Nat), m + d = k0 → d < k → ((x = none ∧ ∀ j, j < m → pos kf k0 j < p) ∨ ∃ b, x = some b ∧ b < m ∧ ¬ pos kf k0 b < p ∧ ∀ j, j < m → ¬ pos kf k0 j < p → pos kf k0 b ≤ pos kf k0 j) →
    f_X11_blow_L93 n (z + 83) a1 x7 x8 K k (oI x) (nI m) (mk z C I J t u) = K (nI (ordT kf k0 p)) (mk z C I J t u) := by
  intro d
  induction d with
  | zero =>
    intro m k x hm hk hx
    obtain ⟨k, rfl⟩ : ∃ q, k = q + 1 := ⟨k - 1, by omega⟩
    obtain rfl : m = k0 := by omega
    rw [f_X11_blow_L93]
    simp only [jn]
    rw [s_bones hM' hB hT, cl_some, hk0, if_pos ((nI_le' (by omega) (by omega)).mpr (Nat.le_refl _))]
    obtain ⟨o1, o2⟩ := ordT_ok (kf := kf) hp
    rcases hx with ⟨-, h⟩ | ⟨b, rfl, hb, hnb, hmin⟩
    · have := h _ o1; omega
    · have h1 := hmin _ o1 (by omega)
      rw [ordT_eq (i := b) hp hb (by omega)]; rfl
  | succ d ih =>
    intro m k x hm hk hx
    obtain ⟨k, rfl⟩ : ∃ q, k = q + 1 := ⟨k - 1, by omega⟩
    have hm0 : m < k0 := by omega
    have hgm := hg m hm0
    have ham := ha m hm0
    have hkm := hkf m hm0
    rw [f_X11_blow_L93]
    simp only [jn, bd]
    rw [s_bones hM' hB hT, cl_some, hk0, if_neg (show ¬ nI k0 ≤ nI m by rw [nI_le' (by omega) (by omega)]; omega), g83_29, n92, ck_t (inb_nI (by omega) (by omega)), cl_nI (show m < 1000000 by omega), show nI m + (1 : Int32) = nI (m + 1) from nI_pl m 1]
    by_cases hgo : pos kf k0 m < p
    · rw [if_pos hgo] at hgm
      rw [if_neg (show ¬ mI (mk z C I J t u) (z + 92) m = 0 by rw [mI_mk, hgm]; decide)]
      refine ih (m + 1) k x (by omega) (by omega) ?_
      rcases hx with ⟨e, h⟩ | ⟨b, e, hb, hnb, hmin⟩
      · refine Or.inl ⟨e, fun j hj => ?_⟩
        by_cases hjm : j = m
        · subst hjm; exact hgo
        · exact h j (by omega)
      · refine Or.inr ⟨b, e, by omega, hnb, fun j hj hnj => ?_⟩
        by_cases hjm : j = m
        · subst hjm; exact absurd hgo hnj
        · exact hmin j (by omega) hnj
    · rw [if_neg hgo] at hgm
      rw [if_pos (show mI (mk z C I J t u) (z + 92) m = 0 by rw [mI_mk, hgm])]
      rcases hx with ⟨e, h⟩ | ⟨b, e, hb, hnb, hmin⟩
      · subst e
        rw [if_pos (show oI none < 0 by decide)]
        refine ih (m + 1) k (some m) (by omega) (by omega) (Or.inr ⟨m, rfl, by omega, hgo, fun j hj hnj => ?_⟩)
        by_cases hjm : j = m
        · subst hjm; exact Nat.le_refl _
        · exact absurd (h j (by omega)) hnj
      · subst e
        have hab := ha b (by omega)
        have hkb := hkf b (by omega)
        rw [show oI (some b) = nI b from rfl, if_neg (nI_pos (by omega)), g83_28, n91, ck_t (inb_nI (by omega) (by omega)), g83_28, n91, ck_t (inb_nI (by omega) (by omega)), cl_nI (show b < 1000000 by omega)]
        by_cases hle : kf m ≤ kf b
        · rw [if_pos (show mI (mk z C I J t u) (z + 91) m ≤ mI (mk z C I J t u) (z + 91) b by rw [mI_mk, mI_mk, ham, hab, i32_le, iI_t (by omega) (by omega), iI_t (by omega) (by omega)]; exact hle)]
          refine ih (m + 1) k (some b) (by omega) (by omega) (Or.inr ⟨b, rfl, by omega, hnb, fun j hj hnj => ?_⟩)
          by_cases hjm : j = m
          · subst hjm
            have := pos_mono (kf := kf) (k := k0) (i := b) (j := j) (by omega) (by rw [bef_iff]; omega)
            omega
          · exact hmin j (by omega) hnj
        · rw [if_neg (show ¬ mI (mk z C I J t u) (z + 91) m ≤ mI (mk z C I J t u) (z + 91) b by rw [mI_mk, mI_mk, ham, hab, i32_le, iI_t (by omega) (by omega), iI_t (by omega) (by omega)]; exact hle)]
          refine ih (m + 1) k (some m) (by omega) (by omega) (Or.inr ⟨m, rfl, by omega, hgo, fun j hj hnj => ?_⟩)
          have hmb := pos_mono (kf := kf) (k := k0) (i := m) (j := b) (by omega) (by rw [bef_iff]; omega)
          by_cases hjm : j = m
          · subst hjm; exact Nat.le_refl _
          · have := hmin j (by omega) hnj; omega
/-- the reference's lies of a bone -/
theorem RefT.lieU {C : Nat} (hB : B ≤ 2380) (hW : TW C M T) (h : RefT z C B I T) (hC : C ≤ 48) {i y : Nat} (hi : i < tk T) : RefT z C B (up2 I (z + 84) (B + 12 + 3 * i) (nI y)) (lieT T i y) ∧ Q84 B (I (z + 84)) (ur (I (z + 84)) (B + 12 + 3 * i) (nI y)) := by
  have h24 := hW.1
  have p12 : plj (12 + 3 * i) = true := by have := plj_10 (i := 2 + 3 * i) (by omega); rwa [show 10 + (2 + 3 * i) = 12 + 3 * i by omega] at this
  constructor
  · obtain ⟨b1, b2, b3, b4, b5, b6⟩ := h
    unfold RefT
    rw [up2_r, show B + 12 + 3 * i = B + (12 + 3 * i) by omega, pa_ur p12]
    refine ⟨?_, ?_, fun j hj => ?_, fun f hf => ?_, fun c hc => ?_, fun c hc hb => ?_⟩
    · rw [ur_ne _ _ (by omega)]; exact b1
    · rw [ur_ne _ _ (by omega)]; exact b2
    · have hj : j < tk T := hj
      obtain ⟨e1, e2, e3, e4⟩ := b3 j hj
      have hcj := (hW.2.2.1 j hj).1
      refine ⟨?_, ?_, ?_, ?_⟩
      · rw [ur_ne _ _ (by omega)]; exact e1
      · rw [ur_ne _ _ (by omega)]; exact e2
      · show ur _ (12 + 3 * i) (nI y) (12 + 3 * j) = nI (ur (tl T) i y j)
        by_cases hji : j = i
        · subst hji; rw [ur_at, ur_at]
        · rw [ur_ne _ _ (by omega), ur_ne _ _ hji]; exact e3
      · show ur _ (12 + 3 * i) (nI y) (290 + tc T j) = nI (j + 1)
        rw [ur_ne _ _ (by omega)]; exact e4
    · rw [ur_ne _ _ (by omega)]; exact b4 f hf
    · rw [ur_ne _ _ (by omega)]; exact b5 c hc
    · rw [ur_ne _ _ (by omega)]; exact b6 c hc hb
  · refine ⟨fun j hj => ur_ne _ _ (by omega), fun j hj => ur_ne _ _ (fun e => ?_), fun j hj => ur_ne _ _ (by omega), fun j hj => ur_ne _ _ (by omega)⟩
    have : j = 12 + 3 * i := by omega
    rw [this, p12] at hj; cases hj
theorem RefT.hrU {C : Nat} (hW : TW C M T) (h : RefT z C B I T) (hC : C ≤ 48) : RefT z C B (up2 I (z + 84) B (nI (th T + 1))) (hrT T) ∧ Q84 B (I (z + 84)) (ur (I (z + 84)) B (nI (th T + 1))) := by
  have h24 := hW.1
  constructor
  · obtain ⟨b1, b2, b3, b4, b5, b6⟩ := h
    unfold RefT
    have this : pa (ur (I (z + 84)) B (nI (th T + 1))) B = ur (pa (I (z + 84)) B) 0 (nI (th T + 1)) := pa_ur (a := I (z + 84)) (B := B) (m := 0) (v := nI (th T + 1)) (by decide)
    rw [up2_r, this]
    refine ⟨?_, ur_at _ _ _, fun j hj => ?_, fun f hf => ?_, fun c hc => ?_, fun c hc hb => ?_⟩
    · rw [ur_ne _ _ (by omega)]; exact b1
    · rw [ur_ne _ _ (by omega), ur_ne _ _ (by omega), ur_ne _ _ (by omega), ur_ne _ _ (by omega)]; exact b3 j hj
    · rw [ur_ne _ _ (by omega)]; exact b4 f hf
    · rw [ur_ne _ _ (by omega)]; exact b5 c hc
    · rw [ur_ne _ _ (by omega)]; exact b6 c hc hb
  · refine ⟨fun j hj => ur_ne _ _ (by omega), fun j hj => ur_ne _ _ (fun e => ?_), fun j hj => ur_ne _ _ (by omega), fun j hj => ur_ne _ _ (by omega)⟩
    have : j = 0 := by omega
    rw [this] at hj; exact absurd hj (by decide)
end BW
