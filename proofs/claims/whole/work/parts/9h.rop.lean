/-! REAP keeps the relation -/
section RQ
variable {n z t W H M C : Nat} {u : Option Nat} {T : TP} {L : Option XT}
/-- the plain and the sum behind the first c cells -/
noncomputable def rpT (W : Nat) (L : Option XT) (F : Nat → Prop) (ar wa : Nat) (T : TP) : Nat → TP × Nat
  | 0 => (T, 0)
  | c + 1 => if dec (F c ∧ tr (rpT W L F ar wa T c).1 c ≠ -1) = true then (crT (rpT W L F ar wa T c).1 c, (rpT W L F ar wa T c).2 + hvT W L (rpT W L F ar wa T c).1 ar wa c) else rpT W L F ar wa T c
theorem rpT_y {F : Nat → Prop} {ar wa c : Nat} (h : F c) (h2 : tr (rpT W L F ar wa T c).1 c ≠ -1) : rpT W L F ar wa T (c + 1) = (crT (rpT W L F ar wa T c).1 c, (rpT W L F ar wa T c).2 + hvT W L (rpT W L F ar wa T c).1 ar wa c) := by
  rw [rpT, if_pos (dec_t.mpr ⟨h, h2⟩)]
theorem rpT_n {F : Nat → Prop} {ar wa c : Nat} (h : ¬ (F c ∧ tr (rpT W L F ar wa T c).1 c ≠ -1)) : rpT W L F ar wa T (c + 1) = rpT W L F ar wa T c := by
  rw [rpT, if_neg (fun w => h (dec_t.mp w))]
theorem rpT_W {F : Nat → Prop} {ar wa : Nat} (hW : TW C M T) : ∀ c, TW C M (rpT W L F ar wa T c).1 ∧ (rpT W L F ar wa T c).2 ≤ 999 * c
  | 0 => ⟨hW, Nat.le_refl _⟩
  | c + 1 => by
    obtain ⟨h1, h2⟩ := rpT_W (F := F) (ar := ar) (wa := wa) hW c
    by_cases h : F c ∧ tr (rpT W L F ar wa T c).1 c ≠ -1
    · rw [rpT_y h.1 h.2]
      have : hvT W L (rpT W L F ar wa T c).1 ar wa c ≤ 999 := c09_le _ _
      exact ⟨h1.crp, by show (rpT W L F ar wa T c).2 + hvT W L (rpT W L F ar wa T c).1 ar wa c ≤ _; omega⟩
    · rw [rpT_n h]
      exact ⟨h1, by omega⟩
theorem reap_C {r : Int64} {J : Nat → Nat → Int64} (hn : 100000 ≤ n) (hM : M < 100000) (hD : dims W H) (hW : TW (W * H) M T) {F : Nat → Prop} (hF : ∀ c, c < W * H → (bt r c = true ↔ F c)) {ar wa : Nat} (har : bits r = ar) (hwa : bits (r &&& J (z + 32) 9) = wa) :
    ∀ (d c k : Nat) (I : Nat → Nat → Int32), c + d = W * H → d < k → GeoR W H (I (z + 30)) (J (z + 30)) (J (z + 31)) → ClsT z (W * H) 32 I J (rpT W L F ar wa T c).1 → LawR z t I L →
      ∃ I', f_X10_reap_L49 n z r k (nI (rpT W L F ar wa T c).2) (nI c) (mk z (W * H) I J t u) = some (nI (rpT W L F ar wa T (W * H)).2, mk z (W * H) I' J t u) ∧ ClsT z (W * H) 32 I' J (rpT W L F ar wa T (W * H)).1 ∧ ∀ q, q ≠ z + 24 → q ≠ z + 25 → q ≠ z + 38 → I' q = I q := by
  have hC := hD.C
  intro d
  induction d with
  | zero =>
    intro c k I hcd hk hG hT hL
    obtain ⟨k, rfl⟩ : ∃ m, k = m + 1 := ⟨k - 1, by omega⟩
    obtain rfl : c = W * H := by omega
    refine ⟨I, ?_, hT, fun _ _ _ _ => rfl⟩
    rw [f_X10_reap_L49]
    simp only [jn]
    rw [g0z_0, if_pos (show mI (mk z (W * H) I J t u) (z + 30) 2 ≤ nI (W * H) by rw [mI_mk, hG.2.2.1]; exact (nI_le' (by omega) (by omega)).mpr (Nat.le_refl _))]
  | succ d ih =>
    intro c k I hcd hk hG hT hL
    obtain ⟨k, rfl⟩ : ∃ m, k = m + 1 := ⟨k - 1, by omega⟩
    have hc : c < W * H := by omega
    obtain ⟨hWc, hsc⟩ := rpT_W (W := W) (L := L) (F := F) (ar := ar) (wa := wa) hW c
    have e2 : nI c + (1 : Int32) = nI (c + 1) := nI_pl c 1
    have mc : mI (mk z (W * H) I J t u) (z + (32 + 6)) c = tr (rpT W L F ar wa T c).1 c := hT.2.2.2.2.1 c hc
    rw [f_X10_reap_L49]
    simp only [jn, bd]
    rw [g0z_0, if_neg (show ¬ mI (mk z (W * H) I J t u) (z + 30) 2 ≤ nI c by rw [mI_mk, hG.2.2.1, nI_le' (by omega) (by omega)]; omega), e2]
    have no : ¬ (F c ∧ tr (rpT W L F ar wa T c).1 c ≠ -1) → ∃ I', f_X10_reap_L49 n z r k (nI (rpT W L F ar wa T c).2) (nI (c + 1)) (mk z (W * H) I J t u) = some (nI (rpT W L F ar wa T (W * H)).2, mk z (W * H) I' J t u) ∧ ClsT z (W * H) 32 I' J (rpT W L F ar wa T (W * H)).1 ∧ ∀ q, q ≠ z + 24 → q ≠ z + 25 → q ≠ z + 38 → I' q = I q := by
      intro h
      have := ih (c + 1) k I (by omega) (by omega) hG (by rw [rpT_n h]; exact hT) hL
      rw [rpT_n h] at this
      exact this
    by_cases hf : F c
    · rw [if_neg (show ¬ lg_cmp (lush r (nI c) &&& 1) 0 = 0 from fun w => by rw [bit_0 r (by omega), (hF c hc).mpr hf] at w; cases w), g0z_1, gP_6 (Or.inl rfl), nP_6 (Or.inl rfl), ck_t (inb_nI hc (by omega)), cl_nI (by omega)]
      by_cases h1 : tr (rpT W L F ar wa T c).1 c = -1
      · rw [if_pos (mc.trans h1)]
        exact no (fun w => w.2 h1)
      · obtain ⟨g, hgh, hg⟩ := (hWc.2.2.2.2.2 c hc).resolve_left h1
        obtain ⟨la, hla, ela, hgn⟩ := s_lawC (n := n) (C := W * H) (J := J) (u := u) hL
        obtain ⟨I1, e1, s1⟩ := s_harv (n := n) (u := u) hn hM hD hG.1 (Or.inl rfl) hWc hT hla hc hg hgh r
        have hT1 : ClsT z (W * H) 32 (up2 I1 (z + (32 + 6)) c (-1)) J (crT (rpT W L F ar wa T c).1 c) := ClsT.crp (hT.sc (Or.inl rfl) s1)
        have hI : ∀ q, q ≠ z + 24 → q ≠ z + 25 → q ≠ z + 38 → up2 I1 (z + (32 + 6)) c (-1) q = I q := fun q a b c' => by rw [up2_ne (by omega), s1 q a b]
        obtain ⟨I', e3, r3, f3⟩ := ih (c + 1) k (up2 I1 (z + (32 + 6)) c (-1)) (by omega) (by omega) (by rw [hI _ (by omega) (by omega) (by omega)]; exact hG) (by rw [rpT_y hf h1]; exact hT1) (hL.congr (fun j _ => by rw [hI _ (by omega) (by omega) (by omega)]) (by rw [hI _ (by omega) (by omega) (by omega)]) (hI _ (by omega) (by omega) (by omega)) (fun q hq => hI q (by omega) (by omega) (by omega)))
        refine ⟨I', ?_, r3, fun q a b c' => (f3 q a b c').trans (hI q a b c')⟩
        rw [har, hwa] at e1
        rw [rpT_y hf h1] at e3
        rw [if_neg (fun w => h1 (mc.symm.trans w)), g0z_8, g0z_1, g0z_9, ela, cl_some, hgn, e1, cl_some, g0z_1, gP_6 (Or.inl rfl), nP_6 (Or.inl rfl), ck_t (inb_nI hc (by omega)), sI_mk, nI_pl]
        exact e3
    · rw [if_pos (show lg_cmp (lush r (nI c) &&& 1) 0 = 0 from (bit_0 r (by omega)).mpr (by
        cases h : bt r c with
        | false => rfl
        | true => exact absurd ((hF c hc).mp h) hf))]
      exact no (fun w => hf w.1)
theorem Q84.crpU {a : Nat → Int32} {c : Nat} (hc : c < 48) : Q84 0 a (ur a (240 + c) (-1)) := by
  refine ⟨fun j hj => ur_ne _ _ (by omega), fun j hj => ?_, fun j hj => ur_ne _ _ (by omega), fun j hj => ur_ne _ _ (by omega)⟩
  refine ur_ne _ _ (fun e => ?_)
  have p240 : plj (240 + c) = true := by have := plj_190 (i := 50 + c) (by omega); rwa [show 190 + (50 + c) = 240 + c by omega] at this
  rw [show j = 240 + c by omega, p240] at hj
  cases hj
theorem reap_R {v : Int32} {G : Nat → Int32} (hn : 100000 ≤ n) (hM : M < 100000) (hD : dims W H) (hW : TW (W * H) M T) {F : Nat → Prop} (hF : ∀ c, c < W * H → (G c = v ↔ F c)) {ar wa : Nat} (har : cnt (fun c => decide (G c = v)) (W * H) = ar) :
    ∀ (d c k : Nat) (I : Nat → Nat → Int32) (J : Nat → Nat → Int64), c + d = W * H → d < k → I (z + 93) = G → cnt (fun c => decide (G c = v) && decide (I (z + 84) (0 + 190 + c) = 1)) (W * H) = wa → ModR z W H 0 I → RefT z (W * H) 0 I (rpT W L F ar wa T c).1 → LawR z t I L →
      ∃ I' J', f_X11_reap_L43 n (z + 83) v k (nI (rpT W L F ar wa T c).2) (nI c) (mk z (W * H) I J t u) = some (nI (rpT W L F ar wa T (W * H)).2, mk z (W * H) I' J' t u) ∧ RefT z (W * H) 0 I' (rpT W L F ar wa T (W * H)).1 ∧ Sg z 0 I I' J J' := by
  have hC := hD.C
  intro d
  induction d with
  | zero =>
    intro c k I J hcd hk h93 hwa hM' hT hL
    obtain ⟨k, rfl⟩ : ∃ m, k = m + 1 := ⟨k - 1, by omega⟩
    obtain rfl : c = W * H := by omega
    refine ⟨I, J, ?_, hT, Sg.of (Sr.rf z I J)⟩
    rw [f_X11_reap_L43]
    simp only [jn]
    rw [if_pos (show mI (mk z (W * H) I J t u) (z + 83) 3 ≤ nI (W * H) by rw [mI_mk, hM'.2.2.1]; exact (nI_le' (by omega) (by omega)).mpr (Nat.le_refl _))]
  | succ d ih =>
    intro c k I J hcd hk h93 hwa hM' hT hL
    obtain ⟨k, rfl⟩ : ∃ m, k = m + 1 := ⟨k - 1, by omega⟩
    have hc : c < W * H := by omega
    obtain ⟨hWc, hsc⟩ := rpT_W (W := W) (L := L) (F := F) (ar := ar) (wa := wa) hW c
    have e2 : nI c + (1 : Int32) = nI (c + 1) := nI_pl c 1
    have x1 : (240 : Int32) + nI c = nI (240 + c) := nI_pl 240 c
    have mc : mI (mk z (W * H) I J t u) (z + 84) (240 + c) = tr (rpT W L F ar wa T c).1 c := by
      have := hT.crp hC hc
      rw [show 0 + 240 + c = 240 + c by omega] at this
      exact this
    have mg : mI (mk z (W * H) I J t u) (z + 93) c = G c := by rw [mI_mk, h93]
    rw [f_X11_reap_L43]
    simp only [jn, bd]
    rw [if_neg (show ¬ mI (mk z (W * H) I J t u) (z + 83) 3 ≤ nI c by rw [mI_mk, hM'.2.2.1, nI_le' (by omega) (by omega)]; omega), g83_30, n93, ck_t (inb_nI (by omega) (by omega)), cl_nI (by omega), e2]
    have no : ¬ (F c ∧ tr (rpT W L F ar wa T c).1 c ≠ -1) → ∃ I' J', f_X11_reap_L43 n (z + 83) v k (nI (rpT W L F ar wa T c).2) (nI (c + 1)) (mk z (W * H) I J t u) = some (nI (rpT W L F ar wa T (W * H)).2, mk z (W * H) I' J' t u) ∧ RefT z (W * H) 0 I' (rpT W L F ar wa T (W * H)).1 ∧ Sg z 0 I I' J J' := by
      intro h
      have := ih (c + 1) k I J (by omega) (by omega) h93 hwa hM' (by rw [rpT_n h]; exact hT) hL
      rw [rpT_n h] at this
      exact this
    by_cases hf : F c
    · rw [if_pos (mg.trans ((hF c hc).mpr hf)), g83_0, n84, x1, ck_t (inb_nI (by omega) (by omega)), cl_nI (by omega)]
      by_cases h1 : tr (rpT W L F ar wa T c).1 c = -1
      · rw [if_neg (show ¬ (0 : Int32) ≤ mI (mk z (W * H) I J t u) (z + 84) (240 + c) by rw [mc, h1]; decide)]
        exact no (fun w => w.2 h1)
      · obtain ⟨g, hgh, hg⟩ := (hWc.2.2.2.2.2 c hc).resolve_left h1
        have hh := hWc.2.1
        obtain ⟨I1, J1, e1, s1⟩ := s_cropR (n := n) (J := J) (u := u) hn hM hD hM' hWc hT hL hc hg hgh v (ar := ar) (wa := wa) (by rw [h93]; exact har) (by rw [h93]; exact hwa)
        have r84 : I1 (z + 84) = I (z + 84) := s1.1 _ (by omega) (by omega)
        have hT1 : RefT z (W * H) 0 (up2 I1 (z + 84) (240 + c) (-1)) (crT (rpT W L F ar wa T c).1 c) := by
          have := RefT.crpU (I := I1) hWc (by unfold RefT; rw [r84]; exact hT) hC hc
          rw [show 0 + 240 + c = 240 + c by omega] at this
          exact this
        have s2 : Sg z 0 I (up2 I1 (z + 84) (240 + c) (-1)) J J1 := by
          refine ⟨fun q a b c' => by rw [up2_ne a, s1.1 q b c'], s1.2, ?_⟩
          rw [up2_r, r84]
          exact Q84.crpU (by omega)
        obtain ⟨I', J', e3, r3, f3⟩ := ih (c + 1) k (up2 I1 (z + 84) (240 + c) (-1)) J1 (by omega) (by omega) (by rw [s2.1 _ (by omega) (by omega) (by omega)]; exact h93) (by
          rw [← hwa]
          refine cnt_congr _ (fun j hj => ?_)
          have := s2.2.2.2.2.1 j (by omega)
          rw [this]) (s2.mod hM') (by rw [rpT_y hf h1]; exact hT1) (s2.law (Or.inl rfl) hL)
        refine ⟨I', J', ?_, r3, s2.tr f3⟩
        rw [rpT_y hf h1] at e3
        rw [if_pos (show (0 : Int32) ≤ mI (mk z (W * H) I J t u) (z + 84) (240 + c) by rw [mc, hg, show (0 : Int32) = nI 0 from rfl, nI_le' (by omega) (by omega)]; omega), e1, cl_some, g83_0, n84, ck_t (inb_nI (by omega) (by omega)), sI_mk, nI_pl]
        exact e3
    · rw [if_neg (fun w => hf ((hF c hc).mp (mg.symm.trans w)))]
      exact no (fun w => hf w.1)
theorem Op_reap_ok {Q : Nat} : Op_reap z (Rel z (TXx z) Q) := by
  intro n hn S a hR
  obtain ⟨W, H, I, J, t, u, V, L, T, rfl, hD, hRI, hXC, hXR, hW, hTc, hTr⟩ := hR.op
  have hC := hD.C
  have ho : isP 32 := Or.inl rfl
  have no : ∀ S2, (f_X10_reap n z a (mk z (W * H) I J t u) = some (-1, mk z (W * H) I J t u)) → (f_X11_reap n (z + 83) a (mk z (W * H) I J t u) = some (-1, S2)) → Rel z (TXx z) Q S2 → ∃ (x : Int32) (S1 S2 : MS), f_X10_reap n z a (mk z (W * H) I J t u) = some (x, S1) ∧ f_X11_reap n (z + 83) a S1 = some (x, S2) ∧ Rel z (TXx z) Q S2 := fun S2 e1 e2 h => ⟨_, _, _, e1, e2, h⟩
  by_cases c1 : ¬ a < 0 ∧ ¬ (6 : Int32) ≤ a
  rotate_left
  · refine no (mk z (W * H) I J t u) ?_ ?_ (Rel.cl hD hRI)
    · unfold f_X10_reap
      simp only [jn]
      rw [s_isFarmerC, cl_some, ite_bI, if_neg c1, if_pos ((lg_0 0).mpr rfl)]
    · unfold f_X11_reap; rw [s_isFarmerR, cl_some, ite_bI, if_neg c1]
  obtain ⟨f, hf, rfl⟩ := nI_nm (N := 6) c1.1 c1.2 (by omega)
  obtain ⟨r, er, hr⟩ := s_fieldHad (n := n) (t := t) (u := u) hn hD hXC.1 ho hW hTc hf
  cases e : ts T f with
  | none =>
    have hr0 : ∀ q, bt r q = false := fun q => by
      cases h : bt r q with
      | false => rfl
      | true => obtain ⟨s, w, -⟩ := (hr q).mp h; rw [e] at w; cases w
    refine no (mk z (W * H) I J t u) ?_ ?_ (Rel.cl hD hRI)
    · unfold f_X10_reap
      simp only [jn]
      rw [s_isFarmerC, cl_some, ite_bI, if_pos c1, g0z_1, er, cl_some, if_pos ((lg_0 r).mpr (bt_z hr0))]
    · unfold f_X11_reap
      rw [s_isFarmerR, cl_some, ite_bI, if_pos c1, s_stakeOf hXR.1 (by omega) hTr hf, e, cl_some, if_neg (by decide)]
  | some s =>
    have hs := hW.2.2.2.2.1 f hf s e
    have hrs : ∀ q, bt r q = true ↔ Rch W (Ft (W * H) T) s q := fun q => (hr q).trans ⟨fun ⟨s', w, h⟩ => by rw [e] at w; cases w; exact h, fun h => ⟨s, e, h⟩⟩
    have hrne : ¬ lg_cmp r 0 = 0 := fun w => by
      have := (hrs s).mpr (Rch.rf hs)
      rw [(lg_0 r).mp w, bt_0] at this; cases this
    have hs0 : (0 : Int32) ≤ oI (some s) := by
      show (0 : Int32) ≤ nI s
      rw [show (0 : Int32) = nI 0 from rfl, nI_le' (by omega) (by have := hs.1; omega)]; omega
    have ehol := s_holders (n := n) (t := t) (u := u) hn hD ho hW hTc r (hv := havT W (W * H) T s) (fun f _ => hav_iff hrs f)
    have hcnt6 : cnt (havT W (W * H) T s) 6 ≤ 6 := cnt_le _ _
    -- the reference up to its loop
    have ref : ∀ (I2 : Nat → Nat → Int32) (J2 : Nat → Nat → Int64), (∀ q, (z + 83 ≤ q) → I2 q = I q) → ∃ g, LabR W (W * H) (Ft (W * H) T) g ∧ f_X11_reap n (z + 83) (nI f) (mk z (W * H) I2 J2 t u) = (if nI (cnt (havT W (W * H) T s) 6) ≤ (1 : Int32) then f_X11_reap_L43 n (z + 83) (g s) n (0 : Int32) (0 : Int32) (mk z (W * H) (upr I2 (z + 93) g) J2 t u) else some ((-1 : Int32), mk z (W * H) (upr I2 (z + 93) g) J2 t u)) := by
      intro I2 J2 hI
      have h84 := hI (z + 84) (by omega)
      have hM2 : ModR z W H 0 I2 := by unfold ModR; rw [hI (z + 83) (by omega)]; exact hXR.1
      have hT2 : RefT z (W * H) 0 I2 T := by unfold RefT; rw [h84]; exact hTr
      obtain ⟨g, eg, hg⟩ := s_find (n := n) (J := J2) (t := t) (u := u) hn hD hM2 (by omega) hW hT2
      have g93 : upr I2 (z + 93) g (z + 93) = g := upr_at _ _ _
      have hfo : fo T g f = g s := by unfold fo; rw [e]
      have ehv := s_havers (n := n) (J := J2) (t := t) (u := u) hn (hM2.upr (a := z + 93) (g := g) (by omega)) (by omega) hC hW (hT2.upr93 g) (g s)
      rw [g93, cnt_congr 6 (hav_lab hC hW hg hs)] at ehv
      have efo := s_fieldOf (n := n) (J := J2) (t := t) (u := u) (hM2.upr (a := z + 93) (g := g) (by omega)) (by omega) hC hW (hT2.upr93 g) hf
      rw [g93, hfo] at efo
      refine ⟨g, hg, ?_⟩
      unfold f_X11_reap
      rw [s_isFarmerR, cl_some, ite_bI, if_pos c1, s_stakeOf hM2 (by omega) hT2 hf, e, cl_some, if_pos hs0, eg, cv_some, efo, cl_some, ehv, cl_some]
    have cls : f_X10_reap n z (nI f) (mk z (W * H) I J t u) = (if nI (cnt (havT W (W * H) T s) 6) ≤ (1 : Int32) then f_X10_reap_L49 n z r n (0 : Int32) (0 : Int32) (mk z (W * H) I J t u) else some ((-1 : Int32), mk z (W * H) I J t u)) := by
      unfold f_X10_reap
      simp only [jn]
      rw [s_isFarmerC, cl_some, ite_bI, if_pos c1, g0z_1, er, cl_some, if_neg hrne, g0z_1, ehol, cl_some, s_bitCount6 (msk64 _), cl_some, pc_msk]
    by_cases h1 : nI (cnt (havT W (W * H) T s) 6) ≤ (1 : Int32)
    · rw [if_pos h1] at cls
      obtain ⟨kk, hq, q1, q2, q3, q4, q5, q6, q7, q8, q9, q10, q11, q12, q13, -⟩ := hRI.2.2.2.2.2.2.1
      obtain ⟨I1, e1, k1, f1⟩ := reap_C (n := n) (z := z) (t := t) (u := u) (L := L) (r := r) (J := J) hn (by omega) hD hW (F := fun c => Rch W (Ft (W * H) T) s c) (fun c _ => hrs c) rfl rfl (W * H) 0 n I (by omega) (by omega) hXC.1 hTc hXC.2.1
      obtain ⟨g, hg, e2⟩ := ref I1 J (fun q hq => f1 q (by omega) (by omega) (by omega))
      rw [if_pos h1] at e2
      have hI1 : ∀ q, q ≠ z + 24 → q ≠ z + 25 → q ≠ z + 38 → q ≠ z + 93 → upr I1 (z + 93) g q = I q := fun q a b c d => (upr_ne d).trans (f1 q a b c)
      have r84 := hI1 (z + 84) (by omega) (by omega) (by omega) (by omega)
      have hsz : cnt (fun c => decide (g c = g s)) (W * H) = bits r := (siz_lab hC hg hs).trans (bits_siz hC hrs).symm
      have hwl : cnt (fun c => decide (g c = g s) && decide (upr I1 (z + 93) g (z + 84) (0 + 190 + c) = 1)) (W * H) = bits (r &&& J (z + 32) 9) := by
        refine (wells_eq hC hg hs hrs (a := fun c => upr I1 (z + 93) g (z + 84) (0 + 190 + c)) (fun c hc => ?_)).symm
        have := q12 c hc
        rw [pa0 _ (plj_190 (by omega))] at this
        rw [r84, Nat.zero_add]; exact this
      obtain ⟨I3, J3, e3, k3, f3⟩ := reap_R (n := n) (z := z) (t := t) (u := u) (L := L) (v := g s) (G := g) (wa := bits (r &&& J (z + 32) 9)) hn (by omega) hD hW (F := fun c => Rch W (Ft (W * H) T) s c) (fun c hc => lab_eq hC FtC hg hs hc) hsz (W * H) 0 n (upr I1 (z + 93) g) J (by omega) (by omega) (upr_at _ _ _) hwl (by unfold ModR; rw [hI1 _ (by omega) (by omega) (by omega) (by omega)]; exact hXR.1) (by unfold RefT; rw [r84]; exact hTr) (hXR.2.1.congr (fun j _ => by rw [hI1 _ (by omega) (by omega) (by omega) (by omega)]) (by rw [r84]) (hI1 _ (by omega) (by omega) (by omega) (by omega)) (fun q hq => hI1 q (by omega) (by omega) (by omega) (by omega)))
      refine ⟨_, _, _, cls.trans e1, e2.trans e3, Rel.cl hD (hRI.after (TXx_ok z) hC (rpT_W hW _).1 (k1.keep (fun i hi => (f3.1 _ (by omega) (by omega) (by omega)).trans (upr_ne (by omega))) (f3.2.1 _ (by omega))) k3 (fun q hq => (f3.1 q (by omega) (by omega) (by omega)).trans (hI1 q (by omega) (by omega) (by omega) (by omega))) (fun q hq => f3.2.1 q (by omega)) (by rw [f3.2.1 _ (by omega)]) (by have := f3.2.2; rw [r84] at this; exact this))⟩
    · rw [if_neg h1] at cls
      obtain ⟨g, hg, e2⟩ := ref I J (fun q _ => rfl)
      rw [if_neg h1] at e2
      exact ⟨_, _, _, cls, e2, Rel.cl hD (hRI.row93 (TXx_ok z) g)⟩
end RQ
