/-! HOW MANY FIELDS; HOW MANY CROPS -/
theorem ex_low {P : Nat → Bool} : ∀ (k c : Nat), c < k → P c = true → ∃ m, P m = true ∧ ∀ j, j < m → P j = false
  | 0, _, h, _ => by omega
  | k + 1, c, h, hc => by
    by_cases hq : ∃ j, j < c ∧ P j = true
    · obtain ⟨j, h1, h2⟩ := hq
      exact ex_low k j (by omega) h2
    · refine ⟨c, hc, fun j hj => ?_⟩
      cases hb : P j with
      | false => rfl
      | true => exact absurd ⟨j, hj, hb⟩ hq
theorem bt_ex {x : Int64} (h : x ≠ 0) : ∃ m, bt x m = true ∧ ∀ j, j < m → bt x j = false := by
  have : ∃ c, bt x c = true := Classical.byContradiction fun w => h (bt_z (fun c => by
    cases hb : bt x c with
    | false => rfl
    | true => exact absurd ⟨c, hb⟩ w))
  obtain ⟨c, hc⟩ := this
  exact ex_low (c + 1) c (by omega) hc
/-- c is the lowest of its field -/
def isL (W C : Nat) (T : TP) (c : Nat) : Prop := Ft C T c ∧ ∀ d, Rch W (Ft C T) c d → c ≤ d
noncomputable def fldT (W C : Nat) (T : TP) : Nat := cnt (fun c => dec (isL W C T c)) C
section FS
variable {n z t W H M B o : Nat} {I : Nat → Nat → Int32} {J : Nat → Nat → Int64} {u : Option Nat} {T : TP}
theorem fields_LC (hn : 100000 ≤ n) (hD : dims W H) (hG : GeoR W H (I (z + 30)) (J (z + 30)) (J (z + 31))) (ho : isP o) :
    ∀ (d i k : Nat) (x : Int64), d < k → i + d = fldT W (W * H) T → d = cnt (fun c => bt x c && dec (isL W (W * H) T c)) (W * H) → (∀ c, bt x c = true → Ft (W * H) T c) → (∀ a b, bt x a = true → Rch W (Ft (W * H) T) a b → bt x b = true) →
    f_X3_fields_L22 n (z + o) k x (nI i) (nI i) (mk z (W * H) I J t u) = some (nI (fldT W (W * H) T), mk z (W * H) I J t u) := by
  have hC := hD.C
  have hN := cnt_le (fun c => dec (isL W (W * H) T c)) (W * H)
  have hN' : fldT W (W * H) T ≤ W * H := hN
  intro d
  induction d with
  | zero =>
    intro i k x hk hi hd h1 h2
    obtain ⟨k, rfl⟩ : ∃ m, k = m + 1 := ⟨k - 1, by omega⟩
    have hx : x = 0 := Classical.byContradiction fun w => by
      obtain ⟨m, m1, m2⟩ := bt_ex w
      have hF := h1 m m1
      have := cnt_lt (f := fun _ => false) (g := fun c => bt x c && dec (isL W (W * H) T c)) (W * H) (fun _ _ w => by cases w) ⟨m, hF.1, rfl, by
        have : isL W (W * H) T m := ⟨hF, fun d hd => Classical.byContradiction fun q => by have := m2 d (by omega); rw [h2 m d m1 hd] at this; cases this⟩
        simp [m1, dec_t.mpr this]⟩
      omega
    subst hx
    rw [f_X3_fields_L22]
    simp only [jn]
    rw [gP_0 ho, show i = fldT W (W * H) T by omega]
    split
    · rfl
    · rw [if_pos ((lg_0 0).mpr rfl)]
  | succ d ih =>
    intro i k x hk hi hd h1 h2
    obtain ⟨k, rfl⟩ : ∃ m, k = m + 1 := ⟨k - 1, by omega⟩
    have e2 : nI i + (1 : Int32) = nI (i + 1) := nI_pl i 1
    have hx : x ≠ 0 := fun w => by
      subst w
      rw [cnt_zero _ (fun c _ => by simp [bt_0])] at hd; omega
    obtain ⟨m, m1, m2⟩ := bt_ex hx
    have hF := h1 m m1
    have hL : isL W (W * H) T m := ⟨hF, fun d hd => Classical.byContradiction fun q => by have := m2 d (by omega); rw [h2 m d m1 hd] at this; cases this⟩
    have hmC := hF.1
    obtain ⟨r, er, hr⟩ := s_spread1 (n := n) (C := W * H) (t := t) (u := u) hn hD.1 hD.2.1 hD.2.2.2 hG x (c := m) hmC
    have hr2 : ∀ q, bt r q = true ↔ Rch W (Ft (W * H) T) m q := by
      intro q
      rw [hr q]
      constructor
      · intro h
        exact ⟨hF, fun S a b => h.2 S a (fun x y hx hy ha => b x y hx (h1 y hy.2) ha)⟩
      · intro h
        refine (h.2 (fun q => Rch W (Fb (W * H) x) m q ∧ bt x q = true) ⟨Rch.rf ⟨hmC, m1⟩, m1⟩ ?_).1
        rintro a b ⟨ha, hxa⟩ hb hab
        have hbx := h2 a b hxa ((Rch.rf (h1 a hxa)).st hb hab)
        exact ⟨ha.st ⟨hb.1, hbx⟩ hab, hbx⟩
    rw [f_X3_fields_L22]
    simp only [jn, bd]
    rw [gP_0 ho, gP_0 ho, mI_mk, hG.2.2.1, if_neg (show ¬ nI (W * H) ≤ nI i by rw [nI_le' (by omega) (by omega)]; omega), if_neg (fun w => hx ((lg_0 x).mp w)), low_and m1 m2, er, cl_some, e2]
    have hb : ∀ c, c < 64 → (bt (x &&& (r ^^^ (-1))) c = true ↔ bt x c = true ∧ ¬ Rch W (Ft (W * H) T) m c) := fun c hc => by
      rw [bt_and, Bool.and_eq_true, bt_not r hc, ← hr2 c]; simp
    refine ih (i + 1) k _ (by omega) (by omega) ?_ ?_ ?_
    · have := cnt_rm (Q := fun c => bt x c && dec (isL W (W * H) T c)) (j := m) (by simp [m1, dec_t.mpr hL]) (W * H) hmC
      rw [← hd] at this
      have hcc : cnt (fun c => bt (x &&& (r ^^^ (-1))) c && dec (isL W (W * H) T c)) (W * H) = cnt (fun c => (bt x c && dec (isL W (W * H) T c)) && !decide (c = m)) (W * H) := by
        refine cnt_congr _ (fun c hc => ?_)
        by_cases hLc : isL W (W * H) T c
        · have : bt (x &&& (r ^^^ (-1))) c = (bt x c && !decide (c = m)) := by
            rw [Bool.eq_iff_iff, hb c (by omega), Bool.and_eq_true]
            refine and_congr Iff.rfl ?_
            simp only [Bool.not_eq_true', decide_eq_false_iff_not]
            refine not_congr ⟨fun w => Nat.le_antisymm (hLc.2 m w.sm) (hL.2 c w), fun w => by rw [w]; exact Rch.rf hF⟩
          rw [this, dec_t.mpr hLc]; simp
        · rw [dec_f.mpr hLc]; simp
      rw [hcc]; omega
    · intro c hc
      rw [bt_and, Bool.and_eq_true] at hc
      exact h1 c hc.1
    · intro a b ha hab
      have ha64 : a < 64 := Classical.byContradiction fun w => by rw [bt_big _ (by omega)] at ha; cases ha
      have := hab.en.1
      rw [hb a ha64] at ha
      rw [hb b (by omega)]
      exact ⟨h2 a b ha.1 hab, fun w => ha.2 (w.tr hab.sm)⟩
theorem s_fieldsC (hn : 100000 ≤ n) (hD : dims W H) (hG : GeoR W H (I (z + 30)) (J (z + 30)) (J (z + 31))) (ho : isP o) (hT : ClsT z (W * H) o I J T) : f_X3_fields n (z + o) (mk z (W * H) I J t u) = some (nI (fldT W (W * H) T), mk z (W * H) I J t u) := by
  have hC := hD.C
  have hN' : fldT W (W * H) T ≤ W * H := cnt_le _ _
  unfold f_X3_fields
  simp only [bd]
  rw [gP_0 ho, mJ_mk, mJ_mk]
  have hb : ∀ c, bt ((J (z + o) 10 ^^^ (-1)) &&& J (z + 30) 3) c = true ↔ Ft (W * H) T c := by
    intro c
    rw [bt_and, Bool.and_eq_true, hG.2.2.2.1, decide_eq_true_eq, ← Fb_Ft hC hT.2.2.2.2.2.1 c]
    unfold Fb
    exact and_comm
  refine fields_LC hn hD hG ho (fldT W (W * H) T) 0 n _ (by omega) (by omega) ?_ (fun c => (hb c).mp) (fun a b ha hab => (hb b).mpr hab.en)
  refine cnt_congr _ (fun c _ => ?_)
  rw [eq_dec (hb c)]
  by_cases h : isL W (W * H) T c
  · rw [dec_t.mpr h, dec_t.mpr h.1]; rfl
  · rw [dec_f.mpr h]; simp
theorem fields_LR (hD : dims W H) (hM : ModR z W H B I) : ∀ (d i k : Nat), i + d = W * H → d < k → f_X11_fields_L8 n (z + 83) k (nI (cnt (fun c => decide (I (z + 93) c = nI c)) i)) (nI i) (mk z (W * H) I J t u) = some (nI (cnt (fun c => decide (I (z + 93) c = nI c)) (W * H)), mk z (W * H) I J t u) := by
  have hC := hD.C
  intro d
  induction d with
  | zero =>
    intro i k hi hk
    obtain ⟨k, rfl⟩ : ∃ m, k = m + 1 := ⟨k - 1, by omega⟩
    obtain rfl : i = W * H := by omega
    rw [f_X11_fields_L8]
    simp only [jn]
    rw [mI_mk, hM.2.2.1, if_pos ((nI_le' (by omega) (by omega)).mpr (Nat.le_refl _))]
  | succ d ih =>
    intro i k hi hk
    obtain ⟨k, rfl⟩ : ∃ m, k = m + 1 := ⟨k - 1, by omega⟩
    have e2 : nI i + (1 : Int32) = nI (i + 1) := nI_pl i 1
    have hi2 := ih (i + 1) k (by omega) (by omega)
    rw [cnt] at hi2
    rw [f_X11_fields_L8]
    simp only [jn, bd]
    have m3' : mI (mk z (W * H) I J t u) (z + 83) 3 = nI (W * H) := hM.2.2.1
    rw [m3', if_neg (show ¬ nI (W * H) ≤ nI i by rw [nI_le' (by omega) (by omega)]; omega), g83_30, n93, ck_t (inb_nI (by omega) (by omega)), cl_nI (show i < 1000000 by omega), e2]
    by_cases h : I (z + 93) i = nI i
    · rw [if_pos (show mI (mk z (W * H) I J t u) (z + 93) i = nI i from h), show (1 : Int32) = nI 1 from rfl, nI_pl]
      rw [if_pos (by simpa using h)] at hi2
      exact hi2
    · rw [if_neg (show ¬ mI (mk z (W * H) I J t u) (z + 93) i = nI i from h), show (0 : Int32) = nI 0 from rfl, nI_pl]
      rw [if_neg (by simpa using h)] at hi2
      exact hi2
theorem fld_eq (hC : W * H ≤ 48) {g : Nat → Int32} (hg : LabR W (W * H) (Ft (W * H) T) g) : cnt (fun c => decide (g c = nI c)) (W * H) = fldT W (W * H) T := by
  refine cnt_congr _ (fun c hc => eq_dec ?_)
  rw [decide_eq_true_eq]
  constructor
  · intro e
    have hF : Ft (W * H) T c := Classical.byContradiction fun w => by
      rw [(hg c hc).2 w] at e; exact nI_nm1 (by omega) e.symm
    obtain ⟨m, em, h1, h2⟩ := (hg c hc).1 hF
    have hm := h1.en.1
    rw [em, nI_inj (by omega) (by omega)] at e
    subst e
    exact ⟨hF, h2⟩
  · rintro ⟨hF, h⟩
    obtain ⟨m, em, h1, h2⟩ := (hg c hc).1 hF
    rw [em, show m = c from Nat.le_antisymm (h2 c (Rch.rf hF)) (h m h1)]
theorem s_fieldsR (hn : 100000 ≤ n) (hD : dims W H) (hM : ModR z W H B I) (hB : B ≤ 2380) (hW : TW (W * H) M T) (hT : RefT z (W * H) B I T) : ∃ g, f_X11_fields n (z + 83) (mk z (W * H) I J t u) = some (nI (fldT W (W * H) T), mk z (W * H) (upr I (z + 93) g) J t u) := by
  have hC := hD.C
  obtain ⟨g, e, hg⟩ := s_find (n := n) (J := J) (t := t) (u := u) hn hD hM hB hW hT
  refine ⟨g, ?_⟩
  unfold f_X11_fields
  rw [e, cv_some]
  have := fields_LR (n := n) (J := J) (t := t) (u := u) hD (hM.upr (a := z + 93) (g := g) (by omega)) (W * H) 0 n (by omega) (by omega)
  rw [upr_at, fld_eq hC hg] at this
  exact this
/-- how many crops -/
theorem sown_LC {C : Nat} (hC : C ≤ 48) (ho : isP o) : ∀ (d i k : Nat), i + d = C → d < k → f_X3_sown_L4 n (z + o) k (nI (cnt (fun c => !decide (I (z + (o + 6)) c = -1)) i)) (nI i) (mk z C I J t u) = some (nI (cnt (fun c => !decide (I (z + (o + 6)) c = -1)) C), mk z C I J t u) := by
  intro d
  induction d with
  | zero =>
    intro i k hi hk
    obtain ⟨k, rfl⟩ : ∃ m, k = m + 1 := ⟨k - 1, by omega⟩
    obtain rfl : i = C := by omega
    rw [f_X3_sown_L4]
    simp only [jn]
    rw [gP_6 ho, nP_6 ho, if_pos (show Int32.ofNat i ≤ nI i from (nI_le' (by omega) (by omega)).mpr (Nat.le_refl _))]
  | succ d ih =>
    intro i k hi hk
    obtain ⟨k, rfl⟩ : ∃ m, k = m + 1 := ⟨k - 1, by omega⟩
    have e2 : nI i + (1 : Int32) = nI (i + 1) := nI_pl i 1
    have hi2 := ih (i + 1) k (by omega) (by omega)
    rw [cnt] at hi2
    rw [f_X3_sown_L4]
    simp only [jn, bd]
    rw [gP_6 ho, gP_6 ho, nP_6 ho, if_neg (show ¬ Int32.ofNat C ≤ nI i from fun w => by have := (nI_le' (a := C) (b := i) (by omega) (by omega)).mp w; omega), ck_t (inb_nI (by omega) (by omega)), cl_nI (show i < 1000000 by omega), e2]
    by_cases h : I (z + (o + 6)) i = -1
    · rw [if_pos (show mI (mk z C I J t u) (z + (o + 6)) i = -1 from h), show (0 : Int32) = nI 0 from rfl, nI_pl]
      rw [if_neg (by simp [h])] at hi2
      exact hi2
    · rw [if_neg (show ¬ mI (mk z C I J t u) (z + (o + 6)) i = -1 from h), show (1 : Int32) = nI 1 from rfl, nI_pl]
      rw [if_pos (by simp [h])] at hi2
      exact hi2
theorem crops_LR (hC : W * H ≤ 48) (hM : ModR z W H B I) : ∀ (d i k : Nat), i + d = W * H → d < k → f_X11_crops_L4 n (z + 83) k (nI (cnt (fun c => !decide (I (z + 84) (240 + c) < 0)) i)) (nI i) (mk z (W * H) I J t u) = some (nI (cnt (fun c => !decide (I (z + 84) (240 + c) < 0)) (W * H)), mk z (W * H) I J t u) := by
  intro d
  induction d with
  | zero =>
    intro i k hi hk
    obtain ⟨k, rfl⟩ : ∃ m, k = m + 1 := ⟨k - 1, by omega⟩
    obtain rfl : i = W * H := by omega
    rw [f_X11_crops_L4]
    simp only [jn]
    rw [mI_mk, hM.2.2.1, if_pos ((nI_le' (by omega) (by omega)).mpr (Nat.le_refl _))]
  | succ d ih =>
    intro i k hi hk
    obtain ⟨k, rfl⟩ : ∃ m, k = m + 1 := ⟨k - 1, by omega⟩
    have e1 : (240 : Int32) + nI i = nI (240 + i) := nI_pl 240 i
    have e2 : nI i + (1 : Int32) = nI (i + 1) := nI_pl i 1
    have hi2 := ih (i + 1) k (by omega) (by omega)
    rw [cnt] at hi2
    rw [f_X11_crops_L4]
    simp only [jn, bd]
    have m3' : mI (mk z (W * H) I J t u) (z + 83) 3 = nI (W * H) := hM.2.2.1
    rw [m3', if_neg (show ¬ nI (W * H) ≤ nI i by rw [nI_le' (by omega) (by omega)]; omega), g83_0, n84, e1, ck_t (inb_nI (by omega) (by omega)), cl_nI (by omega), e2]
    by_cases h : I (z + 84) (240 + i) < 0
    · rw [if_pos (show mI (mk z (W * H) I J t u) (z + 84) (240 + i) < 0 from h), show (0 : Int32) = nI 0 from rfl, nI_pl]
      rw [if_neg (by simp [h])] at hi2
      exact hi2
    · rw [if_neg (show ¬ mI (mk z (W * H) I J t u) (z + 84) (240 + i) < 0 from h), show (1 : Int32) = nI 1 from rfl, nI_pl]
      rw [if_pos (by simp [h])] at hi2
      exact hi2
end FS
