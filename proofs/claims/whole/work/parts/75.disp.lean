/-! GATES, FIELDS, DISPUTES of both -/
theorem cnt_rm {Q : Nat → Bool} {j : Nat} (hQ : Q j = true) : ∀ m, j < m → cnt Q m = cnt (fun i => Q i && !decide (i = j)) m + 1
  | 0, h => by omega
  | m + 1, h => by
    rw [cnt, cnt]
    by_cases hjm : j = m
    · subst hjm
      have : cnt Q j = cnt (fun i => Q i && !decide (i = j)) j := cnt_congr _ (fun i hi => by simp [show ¬ i = j by omega])
      rw [this, hQ]; simp
    · rw [cnt_rm hQ m (by omega)]
      have : (Q m && !decide (m = j)) = Q m := by simp [show ¬ m = j by omega]
      rw [this]; omega
theorem cnt_inj {P : Nat → Bool} {m : Nat} (φ : Nat → Nat) : ∀ (k : Nat) (Q : Nat → Bool), (∀ i, i < k → P i = true → φ i < m ∧ Q (φ i) = true) → (∀ i j, i < k → j < k → P i = true → P j = true → φ i = φ j → i = j) → cnt P k ≤ cnt Q m
  | 0, _, _, _ => Nat.zero_le _
  | k + 1, Q, h1, h2 => by
    rw [cnt]
    by_cases hP : P k = true
    · obtain ⟨a1, a2⟩ := h1 k (by omega) hP
      have := cnt_inj φ k (fun i => Q i && !decide (i = φ k)) (fun i hi hPi => by
        obtain ⟨b1, b2⟩ := h1 i (by omega) hPi
        refine ⟨b1, ?_⟩
        have : φ i ≠ φ k := fun e => by have := h2 i k (by omega) (by omega) hPi hP e; omega
        simp [b2, this]) (fun i j hi hj => h2 i j (by omega) (by omega))
      rw [if_pos hP, cnt_rm a2 m a1]; omega
    · rw [if_neg hP]
      exact cnt_inj φ k Q (fun i hi => h1 i (by omega)) (fun i j hi hj => h2 i j (by omega) (by omega))
/-- the first of six -/
def lw (h : Nat → Bool) : Nat := if h 0 = true then 0 else if h 1 = true then 1 else if h 2 = true then 2 else if h 3 = true then 3 else if h 4 = true then 4 else 5
theorem lw_ok (h : Nat → Bool) {f : Nat} (hf : f < 6) (hh : h f = true) : lw h < 6 ∧ h (lw h) = true ∧ ∀ i, i < lw h → h i = false := by
  unfold lw
  by_cases h0 : h 0 = true
  · rw [if_pos h0]; exact ⟨by omega, h0, fun i hi => by omega⟩
  rw [if_neg h0]
  by_cases h1 : h 1 = true
  · rw [if_pos h1]
    refine ⟨by omega, h1, fun i hi => ?_⟩
    obtain rfl : i = 0 := by omega
    simpa using h0
  rw [if_neg h1]
  by_cases h2 : h 2 = true
  · rw [if_pos h2]
    refine ⟨by omega, h2, fun i hi => ?_⟩
    rcases (show i = 0 ∨ i = 1 by omega) with rfl | rfl
    · simpa using h0
    · simpa using h1
  rw [if_neg h2]
  by_cases h3 : h 3 = true
  · rw [if_pos h3]
    refine ⟨by omega, h3, fun i hi => ?_⟩
    rcases (show i = 0 ∨ i = 1 ∨ i = 2 by omega) with rfl | rfl | rfl
    · simpa using h0
    · simpa using h1
    · simpa using h2
  rw [if_neg h3]
  by_cases h4 : h 4 = true
  · rw [if_pos h4]
    refine ⟨by omega, h4, fun i hi => ?_⟩
    rcases (show i = 0 ∨ i = 1 ∨ i = 2 ∨ i = 3 by omega) with rfl | rfl | rfl | rfl
    · simpa using h0
    · simpa using h1
    · simpa using h2
    · simpa using h3
  rw [if_neg h4]
  have h5 : h 5 = true := by
    rcases (show f = 0 ∨ f = 1 ∨ f = 2 ∨ f = 3 ∨ f = 4 ∨ f = 5 by omega) with rfl | rfl | rfl | rfl | rfl | rfl
    · exact absurd hh h0
    · exact absurd hh h1
    · exact absurd hh h2
    · exact absurd hh h3
    · exact absurd hh h4
    · exact hh
  refine ⟨by omega, h5, fun i hi => ?_⟩
  rcases (show i = 0 ∨ i = 1 ∨ i = 2 ∨ i = 3 ∨ i = 4 by omega) with rfl | rfl | rfl | rfl | rfl
  · simpa using h0
  · simpa using h1
  · simpa using h2
  · simpa using h3
  · simpa using h4
theorem cnt_pos {h : Nat → Bool} : ∀ k, 0 < cnt h k → ∃ f, f < k ∧ h f = true
  | 0, w => absurd w (Nat.lt_irrefl _)
  | k + 1, w => by
    rw [cnt] at w
    by_cases hk : h k = true
    · exact ⟨k, by omega, hk⟩
    · rw [if_neg hk] at w
      obtain ⟨f, h1, h2⟩ := cnt_pos k (by omega)
      exact ⟨f, by omega, h2⟩
section DP
variable {n z t W H M B o : Nat} {I : Nat → Nat → Int32} {J : Nat → Nat → Int64} {u : Option Nat} {T : TP}
theorem gates_LR (hn : 100000 ≤ n) (hD : dims W H) (hM : ModR z W H B I) (hB : B ≤ 2380) (hW : TW (W * H) M T) (hT : RefT z (W * H) B I T) (hg : LabR W (W * H) (Ft (W * H) T) (I (z + 93))) {s : Nat} (hs : Ft (W * H) T s) :
    ∀ (d i k : Nat), i + d = tk T → d < k → f_X11_gates_L4 n (z + 83) (I (z + 93) s) k (nI (cnt (fun i => dec (gateT W (W * H) T s i)) i)) (nI i) (mk z (W * H) I J t u) = some (nI (cnt (fun i => dec (gateT W (W * H) T s i)) (tk T)), mk z (W * H) I J t u) := by
  have hC := hD.C
  have h24 := hW.1
  intro d
  induction d with
  | zero =>
    intro i k hi hk
    obtain ⟨k, rfl⟩ : ∃ m, k = m + 1 := ⟨k - 1, by omega⟩
    obtain rfl : i = tk T := by omega
    rw [f_X11_gates_L4]
    simp only [jn]
    rw [s_bones hM hB hT, cl_some, if_pos ((nI_le' (by omega) (by omega)).mpr (Nat.le_refl _))]
  | succ d ih =>
    intro i k hi hk
    obtain ⟨k, rfl⟩ : ∃ m, k = m + 1 := ⟨k - 1, by omega⟩
    have e2 : nI i + (1 : Int32) = nI (i + 1) := nI_pl i 1
    have hi2 := ih (i + 1) k (by omega) (by omega)
    rw [cnt] at hi2
    have hci := (hW.2.2.1 i (by omega)).1
    have a1 : (False ∨ ∃ r, 0 ≤ r ∧ r < 4 ∧ gh W H (tc T i) (I (z + 93)) (I (z + 93) s) r) ↔ ∃ d, d < W * H ∧ adj W (tc T i) d ∧ Rch W (Ft (W * H) T) s d := by
      rw [false_or]
      constructor
      · rintro ⟨r, -, hr, e, he, hv⟩
        have := (stp_side hD.1 hD.2.1 hci e).mp ⟨r, hr, he⟩
        exact ⟨e, this.1, this.2, (lab_eq hC FtC hg hs this.1).mp hv⟩
      · rintro ⟨e, he, ha, hr⟩
        obtain ⟨r, hr2, h2⟩ := (stp_side hD.1 hD.2.1 hci e).mpr ⟨he, ha⟩
        exact ⟨r, Nat.zero_le _, hr2, e, h2, (lab_eq hC FtC hg hs he).mpr hr⟩
    have a2 : (False ∨ ∃ r, 0 ≤ r ∧ r < 4 ∧ gq W H (tc T i) (I (z + 93)) (I (z + 93) s) r) ↔ ∃ d, d < W * H ∧ adj W (tc T i) d ∧ Ft (W * H) T d ∧ ¬ Rch W (Ft (W * H) T) s d := by
      rw [false_or]
      constructor
      · rintro ⟨r, -, hr, e, he, hv, hv2⟩
        have := (stp_side hD.1 hD.2.1 hci e).mp ⟨r, hr, he⟩
        exact ⟨e, this.1, this.2, Classical.byContradiction fun w => hv ((lab_nn hC FtC hg this.1).mpr w), fun w => hv2 ((lab_eq hC FtC hg hs this.1).mpr w)⟩
      · rintro ⟨e, he, ha, hF, hr⟩
        obtain ⟨r, hr2, h2⟩ := (stp_side hD.1 hD.2.1 hci e).mpr ⟨he, ha⟩
        exact ⟨r, Nat.zero_le _, hr2, e, h2, fun w => (lab_nn hC FtC hg he).mp w hF, fun w => hr ((lab_eq hC FtC hg hs he).mp w)⟩
    rw [f_X11_gates_L4]
    simp only [jn, bd]
    rw [s_bones hM hB hT, cl_some, if_neg (show ¬ nI (tk T) ≤ nI i by rw [nI_le' (by omega) (by omega)]; omega)]
    have := gates_side (n := n) (J := J) (t := t) (u := u) hD hM hB hW hT (I (z + 93) s) (nI (cnt (fun i => dec (gateT W (W * H) T s i)) i)) (i := i) (by omega) (fun (x12 : Int32) (x13 : Int32) (S14 : MS) => (if x12 = 0 then f_X11_gates_L4 n (z + 83) (I (z + 93) s) k (nI (cnt (fun i => dec (gateT W (W * H) T s i)) i) + 0) (nI i + 1) S14 else (if x13 = 0 then f_X11_gates_L4 n (z + 83) (I (z + 93) s) k (nI (cnt (fun i => dec (gateT W (W * H) T s i)) i) + 0) (nI i + 1) S14 else f_X11_gates_L4 n (z + 83) (I (z + 93) s) k (nI (cnt (fun i => dec (gateT W (W * H) T s i)) i) + 1) (nI i + 1) S14))) 4 0 n False False rfl (by omega)
    rw [bD_congr a1, bD_congr a2, bD_f (fun w => w : ¬ False)] at this
    refine Eq.trans this ?_
    show (if bD _ = 0 then _ else _) = _
    rw [e2]
    by_cases p1 : ∃ d, d < W * H ∧ adj W (tc T i) d ∧ Rch W (Ft (W * H) T) s d
    · by_cases p2 : ∃ d, d < W * H ∧ adj W (tc T i) d ∧ Ft (W * H) T d ∧ ¬ Rch W (Ft (W * H) T) s d
      · rw [if_neg (by rw [bD_t p1]; decide), if_neg (by rw [bD_t p2]; decide), show (1 : Int32) = nI 1 from rfl, nI_pl]
        rw [if_pos (dec_t.mpr ⟨p1, p2⟩)] at hi2; exact hi2
      · rw [if_neg (by rw [bD_t p1]; decide), if_pos (by rw [bD_f p2]), show (0 : Int32) = nI 0 from rfl, nI_pl]
        rw [if_neg (fun w => p2 (dec_t.mp w).2)] at hi2; exact hi2
    · rw [if_pos (by rw [bD_f p1]), show (0 : Int32) = nI 0 from rfl, nI_pl]
      rw [if_neg (fun w => p1 (dec_t.mp w).1)] at hi2; exact hi2
theorem s_gatesR (hn : 100000 ≤ n) (hD : dims W H) (hM : ModR z W H B I) (hB : B ≤ 2380) (hW : TW (W * H) M T) (hT : RefT z (W * H) B I T) (hg : LabR W (W * H) (Ft (W * H) T) (I (z + 93))) {s : Nat} (hs : Ft (W * H) T s) : f_X11_gates n (z + 83) (I (z + 93) s) (mk z (W * H) I J t u) = some (nI (cnt (fun i => dec (gateT W (W * H) T s i)) (tk T)), mk z (W * H) I J t u) :=
  gates_LR hn hD hM hB hW hT hg hs (tk T) 0 n (by omega) (by have := hW.1; omega)
theorem gates_LC (hD : dims W H) (hG : GeoR W H (I (z + 30)) (J (z + 30)) (J (z + 31))) (ho : isP o) (hW : TW (W * H) M T) (hT : ClsT z (W * H) o I J T) {r : Int64} {G : Nat → Prop} (hr : ∀ i, i < tk T → (G i ↔ (∃ d, d < W * H ∧ adj W (tc T i) d ∧ bt r d = true) ∧ (∃ d, d < W * H ∧ adj W (tc T i) d ∧ Ft (W * H) T d ∧ ¬ bt r d = true))) :
    ∀ (d i k : Nat), i + d = tk T → d < k → f_X3_gates_L21 n (z + o) r ((J (z + o) 10 ^^^ (-1)) &&& (r ^^^ (-1))) k (nI (cnt (fun i => dec (G i)) i)) (nI i) (mk z (W * H) I J t u) = some (nI (cnt (fun i => dec (G i)) (tk T)), mk z (W * H) I J t u) := by
  have hC := hD.C
  have h24 := hW.1
  intro d
  induction d with
  | zero =>
    intro i k hi hk
    obtain ⟨k, rfl⟩ : ∃ m, k = m + 1 := ⟨k - 1, by omega⟩
    obtain rfl : i = tk T := by omega
    rw [f_X3_gates_L21]
    simp only [jn]
    rw [mI_mk, hT.1, if_pos ((nI_le' (by omega) (by omega)).mpr (Nat.le_refl _))]
  | succ d ih =>
    intro i k hi hk
    obtain ⟨k, rfl⟩ : ∃ m, k = m + 1 := ⟨k - 1, by omega⟩
    have e2 : nI i + (1 : Int32) = nI (i + 1) := nI_pl i 1
    have hi2 := ih (i + 1) k (by omega) (by omega)
    rw [cnt] at hi2
    have hci := (hW.2.2.1 i (by omega)).1
    have hce := (hT.2.2.1 i (by omega)).1
    have a1 : (lg_cmp (J (z + 31) (tc T i) &&& r) 0 = 0) ↔ ¬ ∃ d, d < W * H ∧ adj W (tc T i) d ∧ bt r d = true := by
      rw [and_n0]
      constructor
      · rintro h ⟨d, h1, h2, h3⟩
        exact h d ((hG.2.2.2.2.2.2.2 _ hci d).mpr ⟨h1, h2⟩) h3
      · intro h c h1 h2
        have := (hG.2.2.2.2.2.2.2 _ hci c).mp h1
        exact h ⟨c, this.1, this.2, h2⟩
    have a2 : (lg_cmp (J (z + 31) (tc T i) &&& ((J (z + o) 10 ^^^ (-1)) &&& (r ^^^ (-1)))) 0 = 0) ↔ ¬ ∃ d, d < W * H ∧ adj W (tc T i) d ∧ Ft (W * H) T d ∧ ¬ bt r d = true := by
      have hx : ∀ c, c < W * H → (bt ((J (z + o) 10 ^^^ (-1)) &&& (r ^^^ (-1))) c = true ↔ Ft (W * H) T c ∧ ¬ bt r c = true) := by
        intro c hc
        rw [bt_and, Bool.and_eq_true, bt_not r (by omega), ← Fb_Ft hC hT.2.2.2.2.2.1 c]
        unfold Fb
        simp [hc]
      rw [and_n0]
      constructor
      · rintro h ⟨d, h1, h2, h3⟩
        exact h d ((hG.2.2.2.2.2.2.2 _ hci d).mpr ⟨h1, h2⟩) ((hx d h1).mpr h3)
      · intro h c h1 h2
        have := (hG.2.2.2.2.2.2.2 _ hci c).mp h1
        exact h ⟨c, this.1, this.2, (hx c this.1).mp h2⟩
    rw [f_X3_gates_L21]
    simp only [jn, bd]
    have m7 : mI (mk z (W * H) I J t u) (z + o) 7 = nI (tk T) := hT.1
    rw [m7, if_neg (show ¬ nI (tk T) ≤ nI i by rw [nI_le' (by omega) (by omega)]; omega), gP_0 ho, g30_5, gP_1 ho, nP_1 ho, ck_t (inb_nI (by omega) (by omega)), cl_nI (by omega), mI_mk, hce, n31, ck_t (inb_nI hci (by omega)), cl_nI (by omega), mJ_mk, e2]
    by_cases p1 : ∃ d, d < W * H ∧ adj W (tc T i) d ∧ bt r d = true
    · rw [if_neg (fun w => a1.mp w p1)]
      by_cases p2 : ∃ d, d < W * H ∧ adj W (tc T i) d ∧ Ft (W * H) T d ∧ ¬ bt r d = true
      · rw [if_neg (fun w => a2.mp w p2), show (1 : Int32) = nI 1 from rfl, nI_pl]
        rw [if_pos (dec_t.mpr ((hr i (by omega)).mpr ⟨p1, p2⟩))] at hi2; exact hi2
      · rw [if_pos (a2.mpr p2)]
        rw [if_neg (fun w => p2 ((hr i (by omega)).mp (dec_t.mp w)).2)] at hi2; exact hi2
    · rw [if_pos (a1.mpr p1)]
      rw [if_neg (fun w => p1 ((hr i (by omega)).mp (dec_t.mp w)).1)] at hi2; exact hi2
theorem s_gatesC (hn : 100000 ≤ n) (hD : dims W H) (hG : GeoR W H (I (z + 30)) (J (z + 30)) (J (z + 31))) (ho : isP o) (hW : TW (W * H) M T) (hT : ClsT z (W * H) o I J T) {r : Int64} {G : Nat → Prop} (hr : ∀ i, i < tk T → (G i ↔ (∃ d, d < W * H ∧ adj W (tc T i) d ∧ bt r d = true) ∧ (∃ d, d < W * H ∧ adj W (tc T i) d ∧ Ft (W * H) T d ∧ ¬ bt r d = true))) :
    f_X3_gates n (z + o) r (mk z (W * H) I J t u) = some (nI (cnt (fun i => dec (G i)) (tk T)), mk z (W * H) I J t u) := by
  unfold f_X3_gates
  simp only [bd, mJ_mk]
  exact gates_LC hD hG ho hW hT hr (tk T) 0 n (by omega) (by have := hW.1; omega)
/-- a farmer with whom a disputed field is counted -/
def dspT (W C : Nat) (T : TP) (f : Nat) : Prop := ∃ s, ts T f = some s ∧ 1 < cnt (havT W C T s) 6 ∧ ∀ i, i < f → havT W C T s i = false
noncomputable def disT (W C : Nat) (T : TP) : Nat := cnt (fun f => dec (dspT W C T f)) 6
theorem disp_LC (hn : 100000 ≤ n) (hD : dims W H) (hG : GeoR W H (I (z + 30)) (J (z + 30)) (J (z + 31))) (ho : isP o) (hW : TW (W * H) M T) (hT : ClsT z (W * H) o I J T) :
    ∀ (d f k : Nat), f + d = 6 → d < k → f_X3_disputed_L4 n (z + o) k (nI (cnt (fun f => dec (dspT W (W * H) T f)) f)) (nI f) (mk z (W * H) I J t u) = some (nI (disT W (W * H) T), mk z (W * H) I J t u) := by
  intro d
  induction d with
  | zero =>
    intro f k hi hk
    obtain ⟨k, rfl⟩ : ∃ m, k = m + 1 := ⟨k - 1, by omega⟩
    obtain rfl : f = 6 := by omega
    rw [f_X3_disputed_L4]
    simp only [jn]
    rw [if_pos (by decide)]; rfl
  | succ d ih =>
    intro f k hi hk
    obtain ⟨k, rfl⟩ : ∃ m, k = m + 1 := ⟨k - 1, by omega⟩
    have e2 : nI f + (1 : Int32) = nI (f + 1) := nI_pl f 1
    have hi2 := ih (f + 1) k (by omega) (by omega)
    rw [cnt] at hi2
    obtain ⟨r, er, hr⟩ := s_fieldHad (n := n) (t := t) (u := u) hn hD hG ho hW hT (f := f) (by omega)
    rw [f_X3_disputed_L4]
    simp only [jn, bd]
    rw [if_neg (show ¬ (6 : Int32) ≤ nI f by rw [show (6 : Int32) = nI 6 from rfl, nI_le' (by omega) (by omega)]; omega), er, cl_some]
    cases e : ts T f with
    | none =>
      have hr0 : ∀ q, bt r q = false := fun q => by
        cases h : bt r q with
        | false => rfl
        | true => obtain ⟨s, w, -⟩ := (hr q).mp h; rw [e] at w; cases w
      rw [s_holders hn hD ho hW hT r (hv := fun _ => false) (fun f _ => ⟨fun w => (by cases w), fun ⟨s, _, w⟩ => by rw [hr0] at w; cases w⟩), cl_some, s_bitCount6 (msk64 _), cl_some, pc_msk, cnt_zero 6 (fun _ _ => rfl), if_pos (by decide), e2]
      rw [if_neg (fun w => by obtain ⟨s, w, -⟩ := dec_t.mp w; rw [e] at w; cases w)] at hi2
      exact hi2
    | some s =>
      have hs := hW.2.2.2.2.1 f (by omega) s e
      have h6 := cnt_le (havT W (W * H) T s) 6
      rw [s_holders hn hD ho hW hT r (fun f' _ => hav_iffH e hr f'), cl_some, s_bitCount6 (msk64 _), cl_some, pc_msk, e2]
      have hme : havT W (W * H) T s f = true := dec_t.mpr ⟨s, e, Rch.rf hs⟩
      have hdsp : dspT W (W * H) T f ↔ 1 < cnt (havT W (W * H) T s) 6 ∧ ∀ i, i < f → havT W (W * H) T s i = false := ⟨fun ⟨s', w, h⟩ => by rw [e] at w; cases w; exact h, fun h => ⟨s, e, h⟩⟩
      by_cases h1 : cnt (havT W (W * H) T s) 6 ≤ 1
      · rw [if_pos (by rw [show (1 : Int32) = nI 1 from rfl, nI_le' (by omega) (by omega)]; exact h1)]
        rw [if_neg (fun w => by have := (hdsp.mp (dec_t.mp w)).1; omega)] at hi2
        exact hi2
      · rw [if_neg (by rw [show (1 : Int32) = nI 1 from rfl, nI_le' (by omega) (by omega)]; exact h1)]
        by_cases h2 : ∀ i, i < f → havT W (W * H) T s i = false
        · rw [if_pos ((msk_low _ (by omega)).mpr ⟨hme, h2⟩), show (1 : Int32) = nI 1 from rfl, nI_pl]
          rw [if_pos (dec_t.mpr (hdsp.mpr ⟨by omega, h2⟩))] at hi2
          exact hi2
        · rw [if_neg (fun w => h2 ((msk_low _ (by omega)).mp w).2)]
          rw [if_neg (fun w => h2 (hdsp.mp (dec_t.mp w)).2)] at hi2
          exact hi2
theorem s_disputedC (hn : 100000 ≤ n) (hD : dims W H) (hG : GeoR W H (I (z + 30)) (J (z + 30)) (J (z + 31))) (ho : isP o) (hW : TW (W * H) M T) (hT : ClsT z (W * H) o I J T) : f_X3_disputed n (z + o) (mk z (W * H) I J t u) = some (nI (disT W (W * H) T), mk z (W * H) I J t u) :=
  disp_LC hn hD hG ho hW hT 6 0 n rfl (by omega)
theorem disp_LR (hn : 100000 ≤ n) (hD : dims W H) (hM : ModR z W H B I) (hB : B ≤ 2380) (hW : TW (W * H) M T) (hT : RefT z (W * H) B I T) :
    ∀ (d i k : Nat), i + d = W * H → d < k → f_X11_disputed_L8 n (z + 83) k (nI (cnt (fun c => decide (I (z + 93) c = nI c) && decide (1 < cnt (fun f => decide (fo T (I (z + 93)) f = nI c)) 6)) i)) (nI i) (mk z (W * H) I J t u) = some (nI (cnt (fun c => decide (I (z + 93) c = nI c) && decide (1 < cnt (fun f => decide (fo T (I (z + 93)) f = nI c)) 6)) (W * H)), mk z (W * H) I J t u) := by
  have hC := hD.C
  intro d
  induction d with
  | zero =>
    intro i k hi hk
    obtain ⟨k, rfl⟩ : ∃ m, k = m + 1 := ⟨k - 1, by omega⟩
    obtain rfl : i = W * H := by omega
    rw [f_X11_disputed_L8]
    simp only [jn]
    rw [mI_mk, hM.2.2.1, if_pos ((nI_le' (by omega) (by omega)).mpr (Nat.le_refl _))]
  | succ d ih =>
    intro i k hi hk
    obtain ⟨k, rfl⟩ : ∃ m, k = m + 1 := ⟨k - 1, by omega⟩
    have e2 : nI i + (1 : Int32) = nI (i + 1) := nI_pl i 1
    have hi2 := ih (i + 1) k (by omega) (by omega)
    rw [cnt] at hi2
    rw [f_X11_disputed_L8]
    simp only [jn, bd]
    have m3' : mI (mk z (W * H) I J t u) (z + 83) 3 = nI (W * H) := hM.2.2.1
    rw [m3', if_neg (show ¬ nI (W * H) ≤ nI i by rw [nI_le' (by omega) (by omega)]; omega), g83_30, n93, ck_t (inb_nI (by omega) (by omega)), cl_nI (show i < 1000000 by omega), e2]
    by_cases h : I (z + 93) i = nI i
    · have h6 := cnt_le (fun f => decide (fo T (I (z + 93)) f = nI i)) 6
      rw [if_pos (show mI (mk z (W * H) I J t u) (z + 93) i = nI i from h), s_havers hn hM hB hC hW hT, cl_some]
      by_cases h1 : cnt (fun f => decide (fo T (I (z + 93)) f = nI i)) 6 ≤ 1
      · rw [if_pos (by rw [show (1 : Int32) = nI 1 from rfl, nI_le' (by omega) (by omega)]; exact h1), show (0 : Int32) = nI 0 from rfl, nI_pl]
        rw [if_neg (by simp [h]; omega)] at hi2
        exact hi2
      · rw [if_neg (by rw [show (1 : Int32) = nI 1 from rfl, nI_le' (by omega) (by omega)]; exact h1), show (1 : Int32) = nI 1 from rfl, nI_pl]
        rw [if_pos (by simp [h]; omega)] at hi2
        exact hi2
    · rw [if_neg (show ¬ mI (mk z (W * H) I J t u) (z + 93) i = nI i from h), show (0 : Int32) = nI 0 from rfl, nI_pl]
      rw [if_neg (by simp [h])] at hi2
      exact hi2
theorem hav_rch {C s s' : Nat} (h : Rch W (Ft C T) s s') : havT W C T s = havT W C T s' := by
  funext f
  exact dec_congr ⟨fun ⟨q, e, w⟩ => ⟨q, e, w.tr h⟩, fun ⟨q, e, w⟩ => ⟨q, e, w.tr h.sm⟩⟩
/-- both count the same -/
theorem dis_eq (hC : W * H ≤ 48) (hW : TW (W * H) M T) {g : Nat → Int32} (hg : LabR W (W * H) (Ft (W * H) T) g) : cnt (fun c => decide (g c = nI c) && decide (1 < cnt (fun f => decide (fo T g f = nI c)) 6)) (W * H) = disT W (W * H) T := by
  have hl : ∀ c, c < W * H → g c = nI c → Ft (W * H) T c := fun c hc e => Classical.byContradiction fun w => by
    rw [(hg c hc).2 w] at e; exact nI_nm1 (by omega) e.symm
  have hcn : ∀ c, c < W * H → g c = nI c → cnt (fun f => decide (fo T g f = nI c)) 6 = cnt (havT W (W * H) T c) 6 := fun c hc e => cnt_congr 6 (fun f hf => by rw [← e]; exact hav_lab hC hW hg (hl c hc e) f hf)
  apply Nat.le_antisymm
  · refine cnt_inj (fun c => lw (havT W (W * H) T c)) (W * H) _ ?_ ?_
    · intro c hc hP
      simp only [Bool.and_eq_true, decide_eq_true_eq] at hP
      rw [hcn c hc hP.1] at hP
      obtain ⟨f, hf, hh⟩ := cnt_pos 6 (show 0 < cnt (havT W (W * H) T c) 6 by omega)
      obtain ⟨k1, k2, k3⟩ := lw_ok _ hf hh
      refine ⟨k1, dec_t.mpr ?_⟩
      obtain ⟨s, es, hs⟩ := dec_t.mp k2
      refine ⟨s, es, ?_, ?_⟩
      · rw [hav_rch hs]; exact hP.2
      · rw [hav_rch hs]; exact k3
    · intro c c' hc hc' hP hP' e
      simp only [Bool.and_eq_true, decide_eq_true_eq] at hP hP'
      rw [hcn c hc hP.1] at hP
      rw [hcn c' hc' hP'.1] at hP'
      obtain ⟨f, hf, hh⟩ := cnt_pos 6 (show 0 < cnt (havT W (W * H) T c) 6 by omega)
      obtain ⟨f', hf', hh'⟩ := cnt_pos 6 (show 0 < cnt (havT W (W * H) T c') 6 by omega)
      obtain ⟨-, k2, -⟩ := lw_ok _ hf hh
      obtain ⟨-, k2', -⟩ := lw_ok _ hf' hh'
      rw [← e] at k2'
      obtain ⟨s, es, hs⟩ := dec_t.mp k2
      obtain ⟨s', es', hs'⟩ := dec_t.mp k2'
      rw [es] at es'; cases es'
      have := (lab_eq hC FtC hg hs.en hc').mpr (hs.sm.tr hs')
      rw [hP.1, hP'.1] at this
      exact ((nI_inj (by omega) (by omega)).mp this).symm
  · refine cnt_inj (fun f => match ts T f with | none => 0 | some s => (g s).toNatClampNeg) 6 _ ?_ ?_
    · intro f hf hP
      obtain ⟨s, es, h1, h2⟩ := dec_t.mp hP
      have hs := hW.2.2.2.2.1 f hf s es
      obtain ⟨m, em, hm1, hm2⟩ := (hg s hs.1).1 hs
      have hmC := hm1.en.1
      rw [es]
      have hφ : (g s).toNatClampNeg = m := by rw [em, cl_nI (by omega)]
      show (g s).toNatClampNeg < W * H ∧ (decide (g (g s).toNatClampNeg = nI (g s).toNatClampNeg) && decide (1 < cnt (fun f => decide (fo T g f = nI (g s).toNatClampNeg)) 6)) = true
      rw [hφ]
      refine ⟨hmC, ?_⟩
      have hgm : g m = nI m := by rw [(lab_eq hC FtC hg hs hmC).mpr hm1, em]
      simp only [Bool.and_eq_true, decide_eq_true_eq]
      refine ⟨hgm, ?_⟩
      rw [hcn m hmC hgm, ← hav_rch hm1]; exact h1
    · intro f f' hf hf' hP hP' e
      obtain ⟨s, es, h1, h2⟩ := dec_t.mp hP
      obtain ⟨s', es', h1', h2'⟩ := dec_t.mp hP'
      have hs := hW.2.2.2.2.1 f hf s es
      have hs' := hW.2.2.2.2.1 f' hf' s' es'
      obtain ⟨m, em, hm1, hm2⟩ := (hg s hs.1).1 hs
      obtain ⟨m', em', hm1', hm2'⟩ := (hg s' hs'.1).1 hs'
      have hmC := hm1.en.1
      have hmC' := hm1'.en.1
      rw [es, es'] at e
      have e : (g s).toNatClampNeg = (g s').toNatClampNeg := e
      rw [em, em', cl_nI (by omega), cl_nI (by omega)] at e
      subst e
      have hss : Rch W (Ft (W * H) T) s s' := hm1.tr hm1'.sm
      rcases Nat.lt_trichotomy f f' with w | w | w
      · have := h2' f w
        rw [show havT W (W * H) T s' f = true from dec_t.mpr ⟨s, es, hss⟩] at this; cases this
      · exact w
      · have := h2 f' w
        rw [show havT W (W * H) T s f' = true from dec_t.mpr ⟨s', es', hss.sm⟩] at this; cases this
theorem s_disputedR (hn : 100000 ≤ n) (hD : dims W H) (hM : ModR z W H B I) (hB : B ≤ 2380) (hW : TW (W * H) M T) (hT : RefT z (W * H) B I T) : ∃ g, f_X11_disputed n (z + 83) (mk z (W * H) I J t u) = some (nI (disT W (W * H) T), mk z (W * H) (upr I (z + 93) g) J t u) := by
  have hC := hD.C
  obtain ⟨g, e, hg⟩ := s_find (n := n) (J := J) (t := t) (u := u) hn hD hM hB hW hT
  refine ⟨g, ?_⟩
  unfold f_X11_disputed
  rw [e, cv_some]
  have hT' : RefT z (W * H) B (upr I (z + 93) g) T := by unfold RefT; rw [upr_ne (by omega)]; exact hT
  have := disp_LR (n := n) (J := J) (t := t) (u := u) hn hD (hM.upr (a := z + 93) (g := g) (by omega)) hB hW hT' (W * H) 0 n (by omega) (by omega)
  rw [upr_at, dis_eq hC hW hg] at this
  exact this
end DP
