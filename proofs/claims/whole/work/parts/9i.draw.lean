/-! DRAW: what is laid and cleared off, both -/
def bnT (T : TP) (c v : Nat) : TP := (tk T + 1, th T, ur (tc T) (tk T) c, ur (tw T) (tk T) v, ur (tl T) (tk T) 0, ts T, ur (tr T) c (-1))
def skT (T : TP) (f c : Nat) : TP := (tk T, th T, tc T, tw T, tl T, ur (ts T) f (some c), tr T)
def clT (T : TP) : TP := (0, th T, tc T, tw T, tl T, fun _ => none, fun _ => -1)
section DW
variable {n z t W H M C o : Nat} {I : Nat → Nat → Int32} {J : Nat → Nat → Int64} {u : Option Nat} {T : TP}
theorem Bn_bn {c v d : Nat} : Bn (bnT T c v) d ↔ Bn T d ∨ d = c := by
  constructor
  · rintro ⟨i, hi, e⟩
    have hi : i < tk T + 1 := hi
    have e : ur (tc T) (tk T) c i = d := e
    by_cases hk : i = tk T
    · subst hk; rw [ur_at] at e; exact Or.inr e.symm
    · rw [ur_ne _ _ hk] at e; exact Or.inl ⟨i, by omega, e⟩
  · rintro (⟨i, hi, e⟩ | rfl)
    · exact ⟨i, by show i < tk T + 1; omega, by show ur (tc T) (tk T) c i = d; rw [ur_ne _ _ (by omega)]; exact e⟩
    · exact ⟨tk T, by show tk T < tk T + 1; omega, ur_at _ _ _⟩
theorem TW.bn (h : TW C M T) {c v : Nat} (hk : tk T < 24) (hc : c < C) (h1 : 1 ≤ v) (h2 : v ≤ 99) (ho : opn T c) : TW C M (bnT T c v) := by
  obtain ⟨a1, a2, a3, a4, a5, a6⟩ := h
  refine ⟨by show tk T + 1 ≤ 24; omega, a2, fun i hi => ?_, fun i j hi hj e => ?_, fun f hf d e => ?_, fun d hd => ?_⟩
  · have hi : i < tk T + 1 := hi
    show ur (tc T) (tk T) c i < C ∧ 1 ≤ ur (tw T) (tk T) v i ∧ ur (tw T) (tk T) v i ≤ 99 ∧ ur (tl T) (tk T) 0 i ≤ 99
    by_cases hk : i = tk T
    · subst hk; rw [ur_at, ur_at, ur_at]; exact ⟨hc, h1, h2, by omega⟩
    · rw [ur_ne _ _ hk, ur_ne _ _ hk, ur_ne _ _ hk]; exact a3 i (by omega)
  · have hi : i < tk T + 1 := hi
    have hj : j < tk T + 1 := hj
    have e : ur (tc T) (tk T) c i = ur (tc T) (tk T) c j := e
    by_cases k1 : i = tk T
    · by_cases k2 : j = tk T
      · omega
      · rw [k1, ur_at, ur_ne _ _ k2] at e
        exact absurd ⟨j, by omega, e.symm⟩ ho.1
    · by_cases k2 : j = tk T
      · rw [k2, ur_at, ur_ne _ _ k1] at e
        exact absurd ⟨i, by omega, e⟩ ho.1
      · rw [ur_ne _ _ k1, ur_ne _ _ k2] at e
        exact a4 i j (by omega) (by omega) e
  · have e : ts T f = some d := e
    obtain ⟨b1, b2⟩ := a5 f hf d e
    refine ⟨b1, fun w => ?_⟩
    rcases Bn_bn.mp w with w | w
    · exact b2 w
    · exact ho.2 f hf (by rw [e, w])
  · show ur (tr T) c (-1) d = -1 ∨ ∃ g, g ≤ th T ∧ ur (tr T) c (-1) d = nI g
    by_cases hdc : d = c
    · subst hdc; rw [ur_at]; exact Or.inl rfl
    · rw [ur_ne _ _ hdc]; exact a6 d hd
theorem TW.sk (h : TW C M T) {f c : Nat} (hc : c < C) (hb : ¬ Bn T c) : TW C M (skT T f c) := by
  obtain ⟨a1, a2, a3, a4, a5, a6⟩ := h
  refine ⟨a1, a2, a3, a4, fun g hg d e => ?_, a6⟩
  have e : ur (ts T) f (some c) g = some d := e
  by_cases k : g = f
  · rw [k, ur_at] at e
    cases e
    exact ⟨hc, hb⟩
  · rw [ur_ne _ _ k] at e
    exact a5 g hg d e
theorem TW.clr (h : TW C M T) : TW C M (clT T) := by
  refine ⟨by show 0 ≤ 24; omega, h.2.1, fun i hi => ?_, fun i j hi => ?_, fun f _ d e => ?_, fun d _ => Or.inl rfl⟩
  · have hi : i < 0 := hi
    omega
  · have hi : i < 0 := hi
    omega
  · have e : (none : Option Nat) = some d := e
    cases e
theorem opn_bt (hT : ClsT z C o I J T) (c : Nat) : opn T c ↔ (bt (J (z + o) 10) c = false ∧ bt (J (z + o) 11) c = false) := by
  obtain ⟨a1, a2, a3, a4, a5, a6, a7⟩ := hT
  constructor
  · rintro ⟨h1, h2⟩
    refine ⟨?_, ?_⟩
    · cases h : bt (J (z + o) 10) c with
      | false => rfl
      | true => exact absurd ((a6 c).mp h) h1
    · cases h : bt (J (z + o) 11) c with
      | false => rfl
      | true => obtain ⟨f, hf, e⟩ := (a7 c).mp h; exact absurd e (h2 f hf)
  · rintro ⟨h1, h2⟩
    refine ⟨fun w => ?_, fun f hf e => ?_⟩
    · rw [(a6 c).mpr w] at h1; cases h1
    · rw [(a7 c).mpr ⟨f, hf, e⟩] at h2; cases h2
/-- what drawing may change: of the class -/
def DwC (z : Nat) (I I' : Nat → Nat → Int32) (J J' : Nat → Nat → Int64) : Prop := (∀ q, (q < z + 32 ∨ z + 39 ≤ q ∨ q = z + 37) → I' q = I q) ∧ (∀ q, q ≠ z + 32 → J' q = J q) ∧ J' (z + 32) 9 = J (z + 32) 9
theorem DwC.rf (z : Nat) (I : Nat → Nat → Int32) (J : Nat → Nat → Int64) : DwC z I I J J := ⟨fun _ _ => rfl, fun _ _ => rfl, rfl⟩
theorem DwC.trn {I I' I2 : Nat → Nat → Int32} {J J' J2 : Nat → Nat → Int64} (h : DwC z I I' J J') (h2 : DwC z I' I2 J' J2) : DwC z I I2 J J2 := ⟨fun q hq => (h2.1 q hq).trans (h.1 q hq), fun q hq => (h2.2.1 q hq).trans (h.2.1 q hq), h2.2.2.trans h.2.2⟩
/-- a bone laid: the class -/
theorem s_addBoneT (hC : C ≤ 48) (hg : I (z + 30) 2 = nI C) (hW : TW C M T) (hT : ClsT z C 32 I J T) {c v : Nat} (hc : c < C) (h1 : 1 ≤ v) (h2 : v ≤ 99) (hk : tk T < 24) (hop : opn T c) :
    ∃ I' J', f_X3_addBone n (z + 32) (nI c) (nI v) (mk z C I J t u) = some (nI (tk T), mk z C I' J' t u) ∧ ClsT z C 32 I' J' (bnT T c v) ∧ DwC z I I' J J' := by
  have ho : isP 32 := Or.inl rfl
  obtain ⟨b1, b2⟩ := (opn_bt hT c).mp hop
  obtain ⟨a1, a2, a3, a4, a5, a6, a7⟩ := id hT
  refine ⟨_, _, s_addBone_yes ho hg hC hk a1 hc h1 h2 b1 b2, ?_, fun q hq => cB_ne (by omega) (by omega) (by omega) (by omega) (by omega), fun q hq => up2_ne hq, ?_⟩
  · unfold ClsT
    rw [cB_ob, cB_1, cB_2, cB_3, cB_ne (by omega) (by omega) (by omega) (by omega) (by omega), cB_6, up2_r]
    refine ⟨ur_at _ _ _, (ur_ne _ _ (by omega)).trans a2, fun i hi => ?_, a4, fun d hd => ?_, fun d => ?_, fun d => ?_⟩
    · have hi : i < tk T + 1 := hi
      show ur (I (z + (32 + 1))) (tk T) (nI c) i = nI (ur (tc T) (tk T) c i) ∧ ur (I (z + (32 + 2))) (tk T) (nI v) i = nI (ur (tw T) (tk T) v i) ∧ ur (I (z + (32 + 3))) (tk T) 0 i = nI (ur (tl T) (tk T) 0 i)
      by_cases k1 : i = tk T
      · subst k1; rw [ur_at, ur_at, ur_at, ur_at, ur_at, ur_at]; exact ⟨rfl, rfl, rfl⟩
      · rw [ur_ne _ _ k1, ur_ne _ _ k1, ur_ne _ _ k1, ur_ne _ _ k1, ur_ne _ _ k1, ur_ne _ _ k1]; exact a3 i (by omega)
    · show ur (I (z + (32 + 6))) c (-1) d = ur (tr T) c (-1) d
      by_cases k1 : d = c
      · subst k1; rw [ur_at, ur_at]
      · rw [ur_ne _ _ k1, ur_ne _ _ k1]; exact a5 d hd
    · rw [ur_at, bt_or, bt_lsh (by omega), Bn_bn, Bool.or_eq_true, decide_eq_true_eq, a6 d]
    · rw [ur_ne _ _ (by omega)]; exact a7 d
  · rw [up2_at, if_neg (by omega)]
theorem s_addBoneN (hC : C ≤ 48) (hg : I (z + 30) 2 = nI C) (hW : TW C M T) (hT : ClsT z C 32 I J T) {x : Option Nat} (hx : ∀ d, x = some d → d < C) (b : Int32) (hno : ∀ d, x = some d → ¬ (tk T < 24 ∧ opn T d)) :
    f_X3_addBone n (z + 32) (oI x) b (mk z C I J t u) = some (-1, mk z C I J t u) := by
  refine s_addBone_no (Or.inl rfl) hg hC hW.1 hT.1 _ _ ?_
  rintro ⟨c, v, e1, e2, e3, e4, e5, e6, e7, e8⟩
  have := (oI_some (fun d e => by have := hx d e; omega) (by omega)).mp e1
  exact hno c this ⟨e6, (opn_bt hT c).mpr ⟨e7, e8⟩⟩
/-- a stake set: the class -/
theorem s_setStakeT (hn : 100000 ≤ n) (hC : C ≤ 48) (hg : I (z + 30) 2 = nI C) (hW : TW C M T) (hT : ClsT z C 32 I J T) {f c : Nat} (hf : f < 6) (hc : c < C) (hb : ¬ Bn T c) :
    ∃ I' J', f_X3_setStake n (z + 32) (nI f) (nI c) (mk z C I J t u) = some (1, mk z C I' J' t u) ∧ ClsT z C 32 I' J' (skT T f c) ∧ DwC z I I' J J' := by
  have ho : isP 32 := Or.inl rfl
  obtain ⟨a1, a2, a3, a4, a5, a6, a7⟩ := id hT
  have hts : ∀ g, g < 6 → up2 I (z + 36) f (nI c) (z + (32 + 4)) g = oI (ur (ts T) f (some c) g) := by
    intro g hg2
    rw [up2_r]
    by_cases hgf : g = f
    · subst hgf; rw [ur_at, ur_at]; rfl
    · rw [ur_ne _ _ hgf, ur_ne _ _ hgf]; exact a4 g hg2
  have hlt : ∀ g, g < 6 → ∀ d, ur (ts T) f (some c) g = some d → d < C := by
    intro g hg2 d e
    by_cases hgf : g = f
    · rw [hgf, ur_at] at e; cases e; exact hc
    · rw [ur_ne _ _ hgf] at e; exact (hW.2.2.2.2.1 g hg2 d e).1
  have hsk : ∀ g, g < 6 → up2 I (z + 36) f (nI c) (z + (32 + 4)) g = -1 ∨ ∃ c', c' < C ∧ up2 I (z + 36) f (nI c) (z + (32 + 4)) g = nI c' := by
    intro g hg2
    rw [hts g hg2]
    cases e : ur (ts T) f (some c) g with
    | none => exact Or.inl rfl
    | some d => exact Or.inr ⟨d, hlt g hg2 d e, rfl⟩
  obtain ⟨x, e1, e2⟩ := stk_L (n := n) (z := z) (t := t) (u := u) ho hC hsk 6 0 n (up2 J (z + 32) 11 0) rfl (by omega)
  have hL : f_X3_setStake_L54 n (z + 32) n (0 : Int32) (mk z C (up2 I (z + (32 + 4)) f (nI c)) (up2 J (z + 32) 11 0) t u) = some (1, mk z C (up2 I (z + 36) f (nI c)) (up2 J (z + 32) 11 x) t u) := by
    refine e1.trans ?_
    congr 3
    funext b j
    simp only [up2]
    split
    · split <;> rfl
    · rfl
  refine ⟨up2 I (z + 36) f (nI c), up2 J (z + 32) 11 x, ?_, ?_, fun q hq => up2_ne (by omega), fun q hq => up2_ne hq, ?_⟩
  · unfold f_X3_setStake
    rw [s_isFarmerC, cl_some, ite_bI, if_pos (fn_ok hf)]
    simp only [jn, bd, gP_0 ho, gP_4 ho, nP_4 ho, sI_mk, sJ_mk, mJ_mk, ck_t (inb_nI (show f < 6 from hf) (by omega)), cl_nI (show f < 1000000 by omega)]
    rw [if_neg (nI_nm1 (by omega)), s_holds, cl_some, ite_bI, if_pos (show _ from by
        rw [mI_mk, hg]
        exact ⟨nI_pos (by omega), fun w => by rw [nI_le' (by omega) (by omega)] at w; omega⟩), mJ_mk, if_pos ((bit_0 _ (by omega)).mpr (by
        cases h : bt (J (z + 32) 10) c with
        | false => rfl
        | true => exact absurd ((a6 c).mp h) hb))]
    simp only [gP_4 ho, nP_4 ho, sI_mk, sJ_mk, ck_t (inb_nI (show f < 6 from hf) (by omega))]
    exact hL
  · unfold ClsT
    have Rn : ∀ q, q ≠ z + 36 → up2 I (z + 36) f (nI c) q = I q := fun q h => up2_ne h
    rw [Rn (z + 32) (by omega), Rn (z + (32 + 1)) (by omega), Rn (z + (32 + 2)) (by omega), Rn (z + (32 + 3)) (by omega), Rn (z + (32 + 6)) (by omega), up2_r J]
    refine ⟨a1, a2, a3, hts, a5, fun d => ?_, fun d => ?_⟩
    · rw [ur_ne _ _ (by omega)]; exact a6 d
    · rw [ur_at]
      by_cases hd : d < 64
      · have := e2 d hd
        rw [up2_at, if_pos rfl, bt_0] at this
        rw [this]
        constructor
        · rintro (w | ⟨g, -, g2, g3⟩)
          · cases w
          · rw [hts g g2] at g3
            exact ⟨g, g2, (oI_some (fun d e => by have := hlt g g2 d e; omega) (by omega)).mp g3⟩
        · rintro ⟨g, g2, g3⟩
          have g3 : ur (ts T) f (some c) g = some d := g3
          exact Or.inr ⟨g, Nat.zero_le _, g2, by rw [hts g g2, g3]; rfl⟩
      · rw [bt_big _ (by omega)]
        constructor
        · intro w; cases w
        · rintro ⟨g, g2, g3⟩
          have := hlt g g2 d g3
          omega
  · rw [up2_at, if_neg (by omega)]
theorem s_setStakeN (hC : C ≤ 48) (hg : I (z + 30) 2 = nI C) (hT : ClsT z C 32 I J T) {f c : Nat} (hf : f < 6) (hc : c < C) (hb : Bn T c) :
    f_X3_setStake n (z + 32) (nI f) (nI c) (mk z C I J t u) = some (0, mk z C I J t u) := by
  have ho : isP 32 := Or.inl rfl
  unfold f_X3_setStake
  rw [s_isFarmerC, cl_some, ite_bI, if_pos (fn_ok hf)]
  simp only [jn, gP_0 ho]
  rw [if_neg (nI_nm1 (by omega)), s_holds, cl_some, ite_bI, if_pos (show _ from by
        rw [mI_mk, hg]
        exact ⟨nI_pos (by omega), fun w => by rw [nI_le' (by omega) (by omega)] at w; omega⟩), mJ_mk, if_neg (fun w => by
        have := (bit_0 _ (by omega)).mp w
        rw [(hT.2.2.2.2.2.1 c).mpr hb] at this; cases this), zb_0]
/-- a bone laid: the reference -/
theorem RefT.cnt1 (hT : RefT z C 0 I T) : I (z + 84) 1 = nI (tk T) := by have := hT.cnt; rwa [Nat.zero_add] at this
theorem RefT.fre (hT : RefT z C 0 I T) (hC : C ≤ 48) (hW : TW C M T) {c : Nat} (hc : c < C) : opn T c ↔ (I (z + 84) (290 + c) = 0 ∧ ∀ g, g < 6 → I (z + 84) (85 + g) ≠ nI c) := by
  have hl := hT.lai hC hW hc
  rw [show 0 + 290 + c = 290 + c by omega] at hl
  have hs : ∀ g, g < 6 → (I (z + 84) (85 + g) = nI c ↔ ts T g = some c) := fun g hg => by
    have := hT.stk hg
    rw [show 0 + 85 + g = 85 + g by omega] at this
    rw [this]
    exact oI_some (fun d e => by have := (hW.2.2.2.2.1 g hg d e).1; omega) (by omega)
  constructor
  · rintro ⟨h1, h2⟩
    refine ⟨?_, fun g hg w => h2 g hg ((hs g hg).mp w)⟩
    rcases hl with ⟨w, -⟩ | ⟨-, w⟩
    · exact absurd w h1
    · exact w
  · rintro ⟨h1, h2⟩
    refine ⟨?_, fun g hg w => h2 g hg ((hs g hg).mpr w)⟩
    rcases hl with ⟨-, w⟩ | ⟨w, -⟩
    · rw [h1] at w; exact absurd (by decide) w
    · exact w
theorem s_boneRT (hn : 100000 ≤ n) (hC : C ≤ 48) (hm : I (z + 83) 3 = nI C) (h4 : I (z + 83) 4 = 0) (hW : TW C M T) (hT : RefT z C 0 I T) {c v : Nat} (hc : c < C) (h1 : 1 ≤ v) (h2 : v ≤ 99) (hk : tk T < 24) (hop : opn T c) :
    ∃ g, f_X11_bone n (z + 83) (nI c) (nI v) (mk z C I J t u) = some (nI (tk T), mk z C (upr I (z + 84) g) J t u) ∧ RefT z C 0 (upr I (z + 84) g) (bnT T c v) ∧ Q84 0 (I (z + 84)) g := by
  obtain ⟨b1, b2⟩ := (hT.fre hC hW hc).mp hop
  have e := s_boneR_yes (n := n) (J := J) (t := t) (u := u) hn hm h4 hC hk hT.cnt1 hc h1 h2 b1 b2
  have p290 : plj (290 + c) = true := plj_290 (by omega)
  have p240 : plj (240 + c) = true := by have := plj_190 (i := 50 + c) (by omega); rwa [show 190 + (50 + c) = 240 + c by omega] at this
  have p10 : plj (10 + 3 * tk T) = true := plj_10 (by omega)
  have p11 : plj (11 + 3 * tk T) = true := by have := plj_10 (i := 1 + 3 * tk T) (by omega); rwa [show 10 + (1 + 3 * tk T) = 11 + 3 * tk T by omega] at this
  have p12 : plj (12 + 3 * tk T) = true := by have := plj_10 (i := 2 + 3 * tk T) (by omega); rwa [show 10 + (2 + 3 * tk T) = 12 + 3 * tk T by omega] at this
  refine ⟨ur (ur (ur (ur (ur (ur (I (z + 84)) (10 + 3 * tk T) (nI c)) (11 + 3 * tk T) (nI v)) (12 + 3 * tk T) 0) 1 (nI (tk T + 1))) (290 + c) (nI (tk T + 1))) (240 + c) (-1), ?_, ?_, ?_⟩
  · rw [e]
    congr 3
    funext q
    by_cases hq : q = z + 84
    · subst hq; rw [rB_at, upr_at]
    · rw [rB_ne hq, upr_ne hq]
  · obtain ⟨b1, b2, b3, b4, b5, b6⟩ := id hT
    unfold RefT
    rw [upr_at, pa_ur0 p240, pa_ur0 p290, pa_ur0 (by decide), pa_ur0 p12, pa_ur0 p11, pa_ur0 p10]
    refine ⟨?_, ?_, fun i hi => ?_, fun f hf => ?_, fun d hd => ?_, fun d hd hb => ?_⟩
    · rw [ur_ne _ _ (by omega), ur_ne _ _ (by omega), ur_at]; rfl
    · rw [ur_ne _ _ (by omega), ur_ne _ _ (by omega), ur_ne _ _ (by omega), ur_ne _ _ (by omega), ur_ne _ _ (by omega), ur_ne _ _ (by omega)]; exact b2
    · have hi : i < tk T + 1 := hi
      by_cases k1 : i = tk T
      · subst k1
        refine ⟨?_, ?_, ?_, ?_⟩
        · rw [ur_ne _ _ (by omega), ur_ne _ _ (by omega), ur_ne _ _ (by omega), ur_ne _ _ (by omega), ur_ne _ _ (by omega), ur_at]
          show nI c = nI (ur (tc T) (tk T) c (tk T)); rw [ur_at]
        · rw [ur_ne _ _ (by omega), ur_ne _ _ (by omega), ur_ne _ _ (by omega), ur_ne _ _ (by omega), ur_at]
          show nI v = nI (ur (tw T) (tk T) v (tk T)); rw [ur_at]
        · rw [ur_ne _ _ (by omega), ur_ne _ _ (by omega), ur_ne _ _ (by omega), ur_at]
          show 0 = nI (ur (tl T) (tk T) 0 (tk T)); rw [ur_at]; rfl
        · rw [show tc (bnT T c v) (tk T) = c from ur_at _ _ _, ur_ne _ _ (by omega), ur_at]
      · obtain ⟨x1, x2, x3, x4⟩ := b3 i (by omega)
        have hci := (hW.2.2.1 i (by omega)).1
        have hne : tc T i ≠ c := fun w => hop.1 ⟨i, by omega, w⟩
        refine ⟨?_, ?_, ?_, ?_⟩
        · rw [show tc (bnT T c v) i = tc T i from ur_ne _ _ k1, ur_ne _ _ (by omega), ur_ne _ _ (by omega), ur_ne _ _ (by omega), ur_ne _ _ (by omega), ur_ne _ _ (by omega), ur_ne _ _ (by omega)]; exact x1
        · rw [show tw (bnT T c v) i = tw T i from ur_ne _ _ k1, ur_ne _ _ (by omega), ur_ne _ _ (by omega), ur_ne _ _ (by omega), ur_ne _ _ (by omega), ur_ne _ _ (by omega), ur_ne _ _ (by omega)]; exact x2
        · rw [show tl (bnT T c v) i = tl T i from ur_ne _ _ k1, ur_ne _ _ (by omega), ur_ne _ _ (by omega), ur_ne _ _ (by omega), ur_ne _ _ (by omega), ur_ne _ _ (by omega), ur_ne _ _ (by omega)]; exact x3
        · rw [show tc (bnT T c v) i = tc T i from ur_ne _ _ k1, ur_ne _ _ (by omega), ur_ne _ _ (by omega), ur_ne _ _ (by omega), ur_ne _ _ (by omega), ur_ne _ _ (by omega), ur_ne _ _ (by omega)]; exact x4
    · rw [ur_ne _ _ (by omega), ur_ne _ _ (by omega), ur_ne _ _ (by omega), ur_ne _ _ (by omega), ur_ne _ _ (by omega), ur_ne _ _ (by omega)]; exact b4 f hf
    · by_cases k1 : d = c
      · subst k1; rw [ur_at, show tr (bnT T d v) d = -1 from ur_at _ _ _]
      · rw [ur_ne _ _ (by omega), ur_ne _ _ (by omega), ur_ne _ _ (by omega), ur_ne _ _ (by omega), ur_ne _ _ (by omega), ur_ne _ _ (by omega), show tr (bnT T c v) d = tr T d from ur_ne _ _ k1]; exact b5 d hd
    · have k1 : d ≠ c := fun w => hb (Bn_bn.mpr (Or.inr w))
      rw [ur_ne _ _ (by omega), ur_ne _ _ (by omega), ur_ne _ _ (by omega), ur_ne _ _ (by omega), ur_ne _ _ (by omega), ur_ne _ _ (by omega)]
      exact b6 d hd (fun w => hb (Bn_bn.mpr (Or.inl w)))
  · have hne : ∀ j m, plj j = false → plj m = true → j ≠ m := fun j m h1 h2 e => by rw [e, h2] at h1; cases h1
    refine ⟨fun j hj => ?_, fun j hj => ?_, fun j hj => ?_, fun j hj => ?_⟩
    · rw [ur_ne _ _ (by omega), ur_ne _ _ (by omega), ur_ne _ _ (by omega), ur_ne _ _ (by omega), ur_ne _ _ (by omega), ur_ne _ _ (by omega)]
    · rw [Nat.zero_add, ur_ne _ _ (hne _ _ hj p240), ur_ne _ _ (hne _ _ hj p290), ur_ne _ _ (hne _ _ hj (by decide)), ur_ne _ _ (hne _ _ hj p12), ur_ne _ _ (hne _ _ hj p11), ur_ne _ _ (hne _ _ hj p10)]
    · rw [ur_ne _ _ (by omega), ur_ne _ _ (by omega), ur_ne _ _ (by omega), ur_ne _ _ (by omega), ur_ne _ _ (by omega), ur_ne _ _ (by omega)]
    · rw [ur_ne _ _ (by omega), ur_ne _ _ (by omega), ur_ne _ _ (by omega), ur_ne _ _ (by omega), ur_ne _ _ (by omega), ur_ne _ _ (by omega)]
theorem s_boneRN (hn : 100000 ≤ n) (hC : C ≤ 48) (hm : I (z + 83) 3 = nI C) (h4 : I (z + 83) 4 = 0) (hW : TW C M T) (hT : RefT z C 0 I T) {c : Nat} (hc : c < C) (b : Int32) (hno : ¬ (tk T < 24 ∧ opn T c)) :
    f_X11_bone n (z + 83) (nI c) b (mk z C I J t u) = some (-1, mk z C I J t u) := by
  refine s_boneR_no hn hm h4 hC hW.1 hT.cnt1 _ _ ?_
  rintro ⟨c', v, e1, e2, e3, e4, e5, e6, e7, e8⟩
  have := (nI_inj (by omega) (by omega)).mp e1
  subst this
  exact hno ⟨e6, (hT.fre hC hW e3).mpr ⟨e7, e8⟩⟩
/-- a stake set: the reference -/
theorem s_stakeRT (hC : C ≤ 48) (hm : I (z + 83) 3 = nI C) (hW : TW C M T) (hT : RefT z C 0 I T) {f c : Nat} (hf : f < 6) (hc : c < C) :
    (Bn T c ∧ f_X11_stake n (z + 83) (nI f) (nI c) (mk z C I J t u) = some (0, mk z C I J t u)) ∨ (¬ Bn T c ∧ ∃ g, f_X11_stake n (z + 83) (nI f) (nI c) (mk z C I J t u) = some (1, mk z C (upr I (z + 84) g) J t u) ∧ RefT z C 0 (upr I (z + 84) g) (skT T f c) ∧ Q84 0 (I (z + 84)) g) := by
  have x1 : (85 : Int32) + nI f = nI (85 + f) := nI_pl 85 f
  have x2 : (290 : Int32) + nI c = nI (290 + c) := nI_pl 290 c
  have hl := hT.lai hC hW hc
  rw [show 0 + 290 + c = 290 + c by omega] at hl
  have pre : f_X11_stake n (z + 83) (nI f) (nI c) (mk z C I J t u) = (if mI (mk z C I J t u) (z + 84) (290 + c) ≤ 0 then some (1, mk z C (up2 I (z + 84) (85 + f) (nI c)) J t u) else some (0, mk z C I J t u)) := by
    unfold f_X11_stake
    rw [s_isFarmerR, cl_some, ite_bI, if_pos (fn_ok hf), if_neg (nI_nm1 (by omega)), s_isCellR _ hm (by omega), cl_some, ite_bI, if_pos ⟨nI_pos (by omega), fun w => by rw [nI_le' (by omega) (by omega)] at w; omega⟩, g83_0, n84, x2, ck_t (inb_nI (by omega) (by omega)), cl_nI (by omega), g83_0, n84, x1, ck_t (inb_nI (by omega) (by omega)), cl_nI (by omega)]
    simp only [bd, sI_mk, zb_1, zb_0]
  rcases hl with ⟨w1, w2⟩ | ⟨w1, w2⟩
  · exact Or.inl ⟨w1, by rw [pre, if_neg (show ¬ mI (mk z C I J t u) (z + 84) (290 + c) ≤ 0 from w2)]⟩
  · refine Or.inr ⟨w1, ur (I (z + 84)) (85 + f) (nI c), ?_, ?_, ?_⟩
    · rw [pre, if_pos (show mI (mk z C I J t u) (z + 84) (290 + c) ≤ 0 by rw [mI_mk, w2]; decide), up2_upr1]
    · obtain ⟨b1, b2, b3, b4, b5, b6⟩ := id hT
      have h24 := hW.1
      unfold RefT
      rw [upr_at, pa_ur0 (plj_85 (by omega))]
      refine ⟨?_, ?_, fun i hi => ?_, fun g hg => ?_, fun d hd => ?_, fun d hd hb => ?_⟩
      · rw [ur_ne _ _ (by omega)]; exact b1
      · rw [ur_ne _ _ (by omega)]; exact b2
      · have hi : i < tk T := hi
        rw [ur_ne _ _ (by omega), ur_ne _ _ (by omega), ur_ne _ _ (by omega), ur_ne _ _ (by omega)]; exact b3 i hi
      · show ur _ (85 + f) (nI c) (85 + g) = oI (ur (ts T) f (some c) g)
        by_cases k : g = f
        · subst k; rw [ur_at, ur_at]; rfl
        · rw [ur_ne _ _ (by omega), ur_ne _ _ k]; exact b4 g hg
      · rw [ur_ne _ _ (by omega)]; exact b5 d hd
      · rw [ur_ne _ _ (by omega)]; exact b6 d hd hb
    · have p85 : plj (85 + f) = true := plj_85 (by omega)
      refine ⟨fun j hj => ur_ne _ _ (by omega), fun j hj => ur_ne _ _ (fun e => ?_), fun j hj => ur_ne _ _ (by omega), fun j hj => ur_ne _ _ (by omega)⟩
      rw [Nat.zero_add] at e
      rw [e, p85] at hj; cases hj
end DW
