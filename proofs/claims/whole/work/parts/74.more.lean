/-! LOWEST, WELLS, RING, GATES -/
theorem bt_neg (x : Int64) {j : Nat} (hj : j < 64) : bt (-x) j = (bt x j ^^ dec (∃ i, i < j ∧ bt x i = true)) := by
  show (-x).toBitVec.getLsbD j = _
  rw [Int64.toBitVec_neg, BitVec.getLsbD_neg]
  simp only [hj, decide_true, Bool.true_and]
  congr 1
  exact eq_dec (by rw [decide_eq_true_eq]; rfl)
theorem bits_m1 : ∀ m, m < 64 → bits (lsh 1 (nI m) - 1) = m := by decide +kernel
theorem low_and {x : Int64} {m : Nat} (h1 : bt x m = true) (h2 : ∀ j, j < m → bt x j = false) : x &&& (-x) = lsh 1 (nI m) := by
  have hm : m < 64 := Classical.byContradiction fun w => by rw [bt_big x (by omega)] at h1; cases h1
  apply bt_ext
  intro c hc
  rw [bt_and, bt_neg x hc, bt_lsh hm]
  by_cases hcm : c = m
  · subst hcm
    rw [h1, dec_f.mpr (fun ⟨i, h3, h4⟩ => by rw [h2 i h3] at h4; cases h4)]
    simp
  · by_cases hlt : c < m
    · rw [h2 c hlt]; simp [hcm]
    · rw [dec_t.mpr ⟨m, by omega, h1⟩]
      cases bt x c <;> simp [hcm]
theorem s_lowest_0 {n q : Nat} {S : MS} : f_X1_lowest n q 0 S = some (-1, S) := by
  unfold f_X1_lowest
  rw [if_pos ((lg_0 0).mpr rfl)]
theorem s_lowest {n q : Nat} {S : MS} {x : Int64} {m : Nat} (h1 : bt x m = true) (h2 : ∀ j, j < m → bt x j = false) : f_X1_lowest n q x S = some (nI m, S) := by
  have hm : m < 64 := Classical.byContradiction fun w => by rw [bt_big x (by omega)] at h1; cases h1
  unfold f_X1_lowest
  rw [if_neg (fun w => by rw [(lg_0 x).mp w, bt_0] at h1; cases h1), low_and h1 h2, s_bitCount, cl_some, bits_m1 m hm]
theorem and_n0 (x y : Int64) : (lg_cmp (x &&& y) 0 = 0) ↔ ∀ c, bt x c = true → bt y c = true → False := by
  rw [lg_0]
  constructor
  · intro h c h1 h2
    have := congrArg (fun w => bt w c) h
    simp only [bt_and, h1, h2, bt_0] at this
    cases this
  · intro h
    apply bt_ext
    intro c _
    rw [bt_and, bt_0]
    cases h1 : bt x c with
    | false => rfl
    | true =>
      cases h2 : bt y c with
      | false => rfl
      | true => exact absurd h2 (fun w => h c h1 w)
theorem bt_z {x : Int64} (h : ∀ c, bt x c = false) : x = 0 := bt_ext (fun c _ => by rw [h c, bt_0])
section MO
variable {n z t W H M B o : Nat} {I : Nat → Nat → Int32} {J : Nat → Nat → Int64} {u : Option Nat} {T : TP}
/-- the lowest of a field is its label -/
theorem low_lab (hC : W * H ≤ 48) {g : Nat → Int32} (hg : LabR W (W * H) (Ft (W * H) T) g) {c : Nat} (hc : c < W * H) {r : Int64} (hr : ∀ q, bt r q = true ↔ Rch W (Ft (W * H) T) c q) {q : Nat} {S : MS} : f_X1_lowest n q r S = some (g c, S) := by
  by_cases hF : Ft (W * H) T c
  · obtain ⟨m, e, h1, h2⟩ := (hg c hc).1 hF
    rw [e]
    refine s_lowest ((hr m).mpr h1) (fun j hj => ?_)
    cases hb : bt r j with
    | false => rfl
    | true => have := h2 j ((hr j).mp hb); omega
  · have : r = 0 := bt_z (fun j => by
      cases hb : bt r j with
      | false => rfl
      | true => exact absurd ((hr j).mp hb).1 hF)
    rw [this, s_lowest_0, (hg c hc).2 hF]
theorem wellsIn_L (hM : ModR z W H B I) (hB : B ≤ 2380) (hC : W * H ≤ 48) (v : Int32) : ∀ (d i k : Nat), i + d = W * H → d < k → f_X11_wellsIn_L4 n (z + 83) v k (nI (cnt (fun c => decide (I (z + 93) c = v) && decide (I (z + 84) (B + 190 + c) = 1)) i)) (nI i) (mk z (W * H) I J t u) = some (nI (cnt (fun c => decide (I (z + 93) c = v) && decide (I (z + 84) (B + 190 + c) = 1)) (W * H)), mk z (W * H) I J t u) := by
  intro d
  induction d with
  | zero =>
    intro i k hi hk
    obtain ⟨k, rfl⟩ : ∃ m, k = m + 1 := ⟨k - 1, by omega⟩
    obtain rfl : i = W * H := by omega
    rw [f_X11_wellsIn_L4]
    simp only [jn]
    rw [mI_mk, hM.2.2.1, if_pos ((nI_le' (by omega) (by omega)).mpr (Nat.le_refl _))]
  | succ d ih =>
    intro i k hi hk
    obtain ⟨k, rfl⟩ : ∃ m, k = m + 1 := ⟨k - 1, by omega⟩
    have e1 : nI B + (190 : Int32) + nI i = nI (B + 190 + i) := by rw [show (190 : Int32) = nI 190 from rfl, nI_pl, nI_pl]
    have e2 : nI i + (1 : Int32) = nI (i + 1) := nI_pl i 1
    have hi2 := ih (i + 1) k (by omega) (by omega)
    rw [cnt] at hi2
    rw [f_X11_wellsIn_L4]
    simp only [jn, bd]
    have m3' : mI (mk z (W * H) I J t u) (z + 83) 3 = nI (W * H) := hM.2.2.1
    have m4' : mI (mk z (W * H) I J t u) (z + 83) 4 = nI B := hM.2.2.2
    rw [m3', m4', if_neg (show ¬ nI (W * H) ≤ nI i by rw [nI_le' (by omega) (by omega)]; omega), g83_30, g83_0, n93, n84, e1, ck_t (inb_nI (by omega) (by omega)), ck_t (inb_nI (by omega) (by omega)), cl_nI (show i < 1000000 by omega), cl_nI (show B + 190 + i < 1000000 by omega), e2]
    by_cases h : I (z + 93) i = v
    · rw [if_pos (show mI (mk z (W * H) I J t u) (z + 93) i = v from h)]
      by_cases h2 : I (z + 84) (B + 190 + i) = 1
      · rw [if_pos (show mI (mk z (W * H) I J t u) (z + 84) (B + 190 + i) = 1 from h2), show (1 : Int32) = nI 1 from rfl, nI_pl]
        rw [if_pos (by simp [h, h2])] at hi2
        exact hi2
      · rw [if_neg (show ¬ mI (mk z (W * H) I J t u) (z + 84) (B + 190 + i) = 1 from h2), show (0 : Int32) = nI 0 from rfl, nI_pl]
        rw [if_neg (by simp [h2])] at hi2
        exact hi2
    · rw [if_neg (show ¬ mI (mk z (W * H) I J t u) (z + 93) i = v from h), show (0 : Int32) = nI 0 from rfl, nI_pl]
      rw [if_neg (by simp [h])] at hi2
      exact hi2
theorem s_wellsIn (hn : 100000 ≤ n) (hM : ModR z W H B I) (hB : B ≤ 2380) (hC : W * H ≤ 48) (v : Int32) : f_X11_wellsIn n (z + 83) v (mk z (W * H) I J t u) = some (nI (cnt (fun c => decide (I (z + 93) c = v) && decide (I (z + 84) (B + 190 + c) = 1)) (W * H)), mk z (W * H) I J t u) := wellsIn_L hM hB hC v (W * H) 0 n (by omega) (by omega)
/-- the wells of a field, both -/
theorem wells_eq (hC : W * H ≤ 48) {g : Nat → Int32} (hg : LabR W (W * H) (Ft (W * H) T) g) {s : Nat} (hs : Ft (W * H) T s) {r x : Int64} (hr : ∀ q, bt r q = true ↔ Rch W (Ft (W * H) T) s q) {a : Nat → Int32} (hw : ∀ c, c < W * H → a c = if bt x c = true then 1 else 0) : bits (r &&& x) = cnt (fun c => decide (g c = g s) && decide (a c = 1)) (W * H) := by
  rw [bits_C hC (fun c hc => by
    rw [bt_and]
    cases h : bt r c with
    | false => rfl
    | true => have := ((hr c).mp h).lt; omega)]
  refine cnt_congr _ (fun i hi => ?_)
  rw [bt_and, hw i hi]
  have h1 : bt r i = decide (g i = g s) := by
    rw [eq_dec (hr i)]
    exact (eq_dec (by rw [decide_eq_true_eq]; exact lab_eq hC FtC hg hs hi)).symm
  rw [h1]
  congr 1
  cases bt x i <;> simp
theorem isRing_L (hn : 100000 ≤ n) (hD : dims W H) (hM : ModR z W H B I) (v : Int32) : ∀ (d i k : Nat), i + d = W * H → d < k → f_X11_isRing_L2 n (z + 83) v k (nI i) (mk z (W * H) I J t u) = some (bD (∀ c, i ≤ c → c < W * H → I (z + 93) c = v → ¬ (c % W = 0 ∨ c % W = W - 1 ∨ c / W = 0 ∨ c / W = H - 1)), mk z (W * H) I J t u) := by
  have hC := hD.C
  obtain ⟨d1, d2, d3, d4⟩ := id hD
  intro d
  induction d with
  | zero =>
    intro i k hi hk
    obtain ⟨k, rfl⟩ : ∃ m, k = m + 1 := ⟨k - 1, by omega⟩
    obtain rfl : i = W * H := by omega
    rw [f_X11_isRing_L2]
    simp only [jn]
    rw [mI_mk, hM.2.2.1, if_pos ((nI_le' (by omega) (by omega)).mpr (Nat.le_refl _)), zb_1, bD_t (fun c h1 h2 => by omega)]
  | succ d ih =>
    intro i k hi hk
    obtain ⟨k, rfl⟩ : ∃ m, k = m + 1 := ⟨k - 1, by omega⟩
    have e2 : nI i + (1 : Int32) = nI (i + 1) := nI_pl i 1
    have hi2 := ih (i + 1) k (by omega) (by omega)
    obtain ⟨c1, c2⟩ := cd_lt (W := W) (H := H) (c := i) d1 (by omega)
    have m1' : mI (mk z (W * H) I J t u) (z + 83) 1 = nI W := hM.1
    have m2' : mI (mk z (W * H) I J t u) (z + 83) 2 = nI H := hM.2.1
    have m3' : mI (mk z (W * H) I J t u) (z + 83) 3 = nI (W * H) := hM.2.2.1
    have z0 : (0 : Int32) = nI 0 := rfl
    have go : (∀ c, i + 1 ≤ c → c < W * H → I (z + 93) c = v → ¬ (c % W = 0 ∨ c % W = W - 1 ∨ c / W = 0 ∨ c / W = H - 1)) ∧ (I (z + 93) i = v → ¬ (i % W = 0 ∨ i % W = W - 1 ∨ i / W = 0 ∨ i / W = H - 1)) ↔ (∀ c, i ≤ c → c < W * H → I (z + 93) c = v → ¬ (c % W = 0 ∨ c % W = W - 1 ∨ c / W = 0 ∨ c / W = H - 1)) := by
      constructor
      · rintro ⟨a1, a2⟩ c g1 g2
        by_cases hci : c = i
        · subst hci; exact a2
        · exact a1 c (by omega) g2
      · intro a
        exact ⟨fun c g1 g2 => a c (by omega) g2, a i (Nat.le_refl _) (by omega)⟩
    rw [f_X11_isRing_L2]
    simp only [jn, bd]
    rw [m1', m2', m3', if_neg (show ¬ nI (W * H) ≤ nI i by rw [nI_le' (by omega) (by omega)]; omega), g83_30, n93, ck_t (inb_nI (by omega) (by omega)), cl_nI (show i < 1000000 by omega), e2, dv_n (by omega) (by omega), dv_n (by omega) (by omega), dv_n (by omega) (by omega), dv_n (by omega) (by omega), nI_md (by omega) (by omega) (by omega), nI_dv (by omega) (by omega) (by omega), show nI W - (1 : Int32) = nI (W - 1) from nI_sb (b := 1) (by omega), show nI H - (1 : Int32) = nI (H - 1) from nI_sb (b := 1) (by omega)]
    by_cases h : I (z + 93) i = v
    · rw [if_pos (show mI (mk z (W * H) I J t u) (z + 93) i = v from h)]
      by_cases b1 : i % W = 0
      · rw [if_pos (by rw [b1]; rfl), zb_0, bD_f (fun w => w i (Nat.le_refl _) (by omega) h (Or.inl b1))]
      rw [if_neg (by rw [z0, nI_inj (by omega) (by omega)]; exact b1)]
      by_cases b2 : i % W = W - 1
      · rw [if_pos (by rw [b2]), zb_0, bD_f (fun w => w i (Nat.le_refl _) (by omega) h (Or.inr (Or.inl b2)))]
      rw [if_neg (by rw [nI_inj (by omega) (by omega)]; exact b2)]
      by_cases b3 : i / W = 0
      · rw [if_pos (by rw [b3]; rfl), zb_0, bD_f (fun w => w i (Nat.le_refl _) (by omega) h (Or.inr (Or.inr (Or.inl b3))))]
      rw [if_neg (by rw [z0, nI_inj (by omega) (by omega)]; exact b3)]
      by_cases b4 : i / W = H - 1
      · rw [if_pos (by rw [b4]), zb_0, bD_f (fun w => w i (Nat.le_refl _) (by omega) h (Or.inr (Or.inr (Or.inr b4))))]
      rw [if_neg (by rw [nI_inj (by omega) (by omega)]; exact b4), hi2]
      unfold bD
      rw [dec_congr ((and_iff_left (fun _ w => by rcases w with w | w | w | w <;> contradiction)).symm.trans go)]
    · rw [if_neg (show ¬ mI (mk z (W * H) I J t u) (z + 93) i = v from h), hi2]
      unfold bD
      rw [dec_congr ((and_iff_left (fun w => absurd w h)).symm.trans go)]
theorem s_isRing (hn : 100000 ≤ n) (hD : dims W H) (hM : ModR z W H B I) (v : Int32) : f_X11_isRing n (z + 83) v (mk z (W * H) I J t u) = some (bD (∀ c, c < W * H → I (z + 93) c = v → ¬ (c % W = 0 ∨ c % W = W - 1 ∨ c / W = 0 ∨ c / W = H - 1)), mk z (W * H) I J t u) := by
  have := hD.C
  have h := isRing_L (n := n) (J := J) (t := t) (u := u) hn hD hM v (W * H) 0 n (by omega) (by omega)
  unfold bD at h ⊢
  rw [dec_congr (p := ∀ c, c < W * H → I (z + 93) c = v → ¬ (c % W = 0 ∨ c % W = W - 1 ∨ c / W = 0 ∨ c / W = H - 1)) (q := ∀ c, 0 ≤ c → c < W * H → I (z + 93) c = v → ¬ (c % W = 0 ∨ c % W = W - 1 ∨ c / W = 0 ∨ c / W = H - 1)) ⟨fun w c _ => w c, fun w c => w c (Nat.zero_le _)⟩]
  exact h
theorem s_bones (hM : ModR z W H B I) (hB : B ≤ 2380) {C : Nat} (hT : RefT z C B I T) : f_X11_bones n (z + 83) (mk z C I J t u) = some (nI (tk T), mk z C I J t u) := by
  unfold f_X11_bones
  rw [g83_0, n84, mI_mk, hM.2.2.2, show nI B + (1 : Int32) = nI (B + 1) from nI_pl B 1, ck_t (inb_nI (by omega) (by omega)), cl_nI (by omega), mI_mk, hT.cnt]
theorem s_cellOf (hM : ModR z W H B I) (hB : B ≤ 2380) {C : Nat} (hW : TW C M T) (hT : RefT z C B I T) {i : Nat} (hi : i < tk T) : f_X11_cellOf n (z + 83) (nI i) (mk z C I J t u) = some (nI (tc T i), mk z C I J t u) := by
  have := hW.1
  unfold f_X11_cellOf
  rw [g83_0, n84, mI_mk, hM.2.2.2, show nI B + (10 : Int32) = nI (B + 10) from nI_pl B 10, show (3 : Int32) * nI i = nI (3 * i) from nI_ml 3 i, nI_pl, ck_t (inb_nI (by omega) (by omega)), cl_nI (by omega), mI_mk, hT.cel hW hi]
/-- a bone that has a side to the field of s and to another one -/
def gateT (W C : Nat) (T : TP) (s i : Nat) : Prop := (∃ d, d < C ∧ adj W (tc T i) d ∧ Rch W (Ft C T) s d) ∧ (∃ d, d < C ∧ adj W (tc T i) d ∧ Ft C T d ∧ ¬ Rch W (Ft C T) s d)
def gh (W H c : Nat) (g : Nat → Int32) (v : Int32) (r : Nat) : Prop := ∃ e, stp W H c (sdx r) (sdy r) = some e ∧ g e = v
def gq (W H c : Nat) (g : Nat → Int32) (v : Int32) (r : Nat) : Prop := ∃ e, stp W H c (sdx r) (sdy r) = some e ∧ ¬ g e < 0 ∧ ¬ g e = v
theorem bD_congr {p q : Prop} (h : p ↔ q) : bD p = bD q := by unfold bD; rw [dec_congr h]
theorem ex_split {s m : Nat} (hs : s < m) (X : Nat → Prop) : (∃ r, s ≤ r ∧ r < m ∧ X r) ↔ X s ∨ ∃ r, s + 1 ≤ r ∧ r < m ∧ X r := by
  constructor
  · rintro ⟨r, a1, a2, a3⟩
    by_cases hrs : r = s
    · subst hrs; exact Or.inl a3
    · exact Or.inr ⟨r, by omega, a2, a3⟩
  · rintro (a | ⟨r, a1, a2, a3⟩)
    · exact ⟨s, Nat.le_refl _, hs, a⟩
    · exact ⟨r, by omega, a2, a3⟩
theorem gates_side (hD : dims W H) (hM : ModR z W H B I) (hB : B ≤ 2380) (hW : TW (W * H) M T) (hT : RefT z (W * H) B I T) (v x3 : Int32) {i : Nat} (hi : i < tk T) (K : Int32 → Int32 → MS → Option (Int32 × MS)) :
    ∀ (d s k : Nat) (P Q : Prop), s + d = 4 → d < k → f_X11_gates_L21 n (z + 83) v x3 (nI i) K k (bD P) (bD Q) (nI s) (mk z (W * H) I J t u) = K (bD (P ∨ ∃ r, s ≤ r ∧ r < 4 ∧ gh W H (tc T i) (I (z + 93)) v r)) (bD (Q ∨ ∃ r, s ≤ r ∧ r < 4 ∧ gq W H (tc T i) (I (z + 93)) v r)) (mk z (W * H) I J t u) := by
  have hC := hD.C
  have hci := (hW.2.2.1 i hi).1
  intro d
  induction d with
  | zero =>
    intro s k P Q hs hk
    obtain ⟨k, rfl⟩ : ∃ m, k = m + 1 := ⟨k - 1, by omega⟩
    obtain rfl : s = 4 := by omega
    have x1 : bD (P ∨ ∃ r, 4 ≤ r ∧ r < 4 ∧ gh W H (tc T i) (I (z + 93)) v r) = bD P := bD_congr ⟨fun w => w.elim id (fun ⟨r, h1, h2, _⟩ => by omega), Or.inl⟩
    have x2 : bD (Q ∨ ∃ r, 4 ≤ r ∧ r < 4 ∧ gq W H (tc T i) (I (z + 93)) v r) = bD Q := bD_congr ⟨fun w => w.elim id (fun ⟨r, h1, h2, _⟩ => by omega), Or.inl⟩
    rw [f_X11_gates_L21, x1, x2]
    simp only [jn]
    rw [if_pos (by decide)]
  | succ d ih =>
    intro s k P Q hs hk
    obtain ⟨k, rfl⟩ : ∃ m, k = m + 1 := ⟨k - 1, by omega⟩
    have e2 : nI s + (1 : Int32) = nI (s + 1) := nI_pl s 1
    have fin : ∀ (a b : Int32) (P' Q' : Prop), a = bD P' → b = bD Q' → (P' ↔ P ∨ gh W H (tc T i) (I (z + 93)) v s) → (Q' ↔ Q ∨ gq W H (tc T i) (I (z + 93)) v s) → f_X11_gates_L21 n (z + 83) v x3 (nI i) K k a b (nI (s + 1)) (mk z (W * H) I J t u) = K (bD (P ∨ ∃ r, s ≤ r ∧ r < 4 ∧ gh W H (tc T i) (I (z + 93)) v r)) (bD (Q ∨ ∃ r, s ≤ r ∧ r < 4 ∧ gq W H (tc T i) (I (z + 93)) v r)) (mk z (W * H) I J t u) := by
      intro a b P' Q' ha hb h1 h2
      have x1 : bD (P' ∨ ∃ r, s + 1 ≤ r ∧ r < 4 ∧ gh W H (tc T i) (I (z + 93)) v r) = bD (P ∨ ∃ r, s ≤ r ∧ r < 4 ∧ gh W H (tc T i) (I (z + 93)) v r) := bD_congr (by rw [h1, ex_split (s := s) (by omega) (gh W H (tc T i) (I (z + 93)) v), or_assoc])
      have x2 : bD (Q' ∨ ∃ r, s + 1 ≤ r ∧ r < 4 ∧ gq W H (tc T i) (I (z + 93)) v r) = bD (Q ∨ ∃ r, s ≤ r ∧ r < 4 ∧ gq W H (tc T i) (I (z + 93)) v r) := bD_congr (by rw [h2, ex_split (s := s) (by omega) (gq W H (tc T i) (I (z + 93)) v), or_assoc])
      rw [ha, hb, ih (s + 1) k P' Q' (by omega) (by omega), x1, x2]
    have b1 : ∀ {X : Prop}, X → (1 : Int32) = bD X := fun h => (bD_t h).symm
    have b0 : ∀ {X : Prop}, ¬ X → (0 : Int32) = bD X := fun h => (bD_f h).symm
    have y1 : ∀ {a : Prop}, a → (True ↔ a) := fun h => ⟨fun _ => h, fun _ => trivial⟩
    have y0 : ∀ {a : Prop}, ¬ a → (False ↔ a) := fun h => ⟨fun w => w.elim, fun w => h w⟩
    rw [f_X11_gates_L21]
    simp only [jn, bd]
    rw [if_neg (show ¬ (4 : Int32) ≤ nI s by rw [show (4 : Int32) = nI 4 from rfl, nI_le' (by omega) (by omega)]; omega), s_cellOf hM hB hW hT hi, cl_some, s_sideOf hD hM hci (by omega), cl_some, e2]
    cases hst : stp W H (tc T i) (sdx s) (sdy s) with
    | none =>
      have k1 : ¬ gh W H (tc T i) (I (z + 93)) v s := fun ⟨_, w, _⟩ => by rw [hst] at w; cases w
      have k2 : ¬ gq W H (tc T i) (I (z + 93)) v s := fun ⟨_, w, _⟩ => by rw [hst] at w; cases w
      simp only [if_pos (show oI none < 0 by decide)]
      by_cases hP : P <;> by_cases hQ : Q
      · simp only [if_neg (show ¬ bD P = 0 by rw [bD_t hP]; decide), if_neg (show ¬ bD Q = 0 by rw [bD_t hQ]; decide)]; exact fin _ _ True True (b1 trivial) (b1 trivial) (y1 (Or.inl hP)) (y1 (Or.inl hQ))
      · simp only [if_neg (show ¬ bD P = 0 by rw [bD_t hP]; decide), if_pos (show bD Q = 0 by rw [bD_f hQ])]; exact fin _ _ True False (b1 trivial) (b0 id) (y1 (Or.inl hP)) (y0 (fun w => w.elim hQ k2))
      · simp only [if_pos (show bD P = 0 by rw [bD_f hP]), if_neg (show ¬ bD Q = 0 by rw [bD_t hQ]; decide)]; exact fin _ _ False True (b0 id) (b1 trivial) (y0 (fun w => w.elim hP k1)) (y1 (Or.inl hQ))
      · simp only [if_pos (show bD P = 0 by rw [bD_f hP]), if_pos (show bD Q = 0 by rw [bD_f hQ])]; exact fin _ _ False False (b0 id) (b0 id) (y0 (fun w => w.elim hP k1)) (y0 (fun w => w.elim hQ k2))
    | some e0 =>
      have he0 := stp_lt hD.1 hD.2.1 hst
      have k1 : gh W H (tc T i) (I (z + 93)) v s ↔ I (z + 93) e0 = v := ⟨fun ⟨e, w, h⟩ => by rw [hst] at w; cases w; exact h, fun h => ⟨e0, hst, h⟩⟩
      have k2 : gq W H (tc T i) (I (z + 93)) v s ↔ (¬ I (z + 93) e0 < 0 ∧ ¬ I (z + 93) e0 = v) := ⟨fun ⟨e, w, h⟩ => by rw [hst] at w; cases w; exact h, fun h => ⟨e0, hst, h⟩⟩
      simp only [show oI (some e0) = nI e0 from rfl, if_neg (show ¬ nI e0 < 0 from nI_pos (by omega)), g83_30, n93, ck_t (inb_nI (show e0 < 48 by omega) (show 48 < 1000000 by omega)), cl_nI (show e0 < 1000000 by omega)]
      have hP0 : P → ¬ bD P = 0 := fun h => by rw [bD_t h]; decide
      have hQ0 : Q → ¬ bD Q = 0 := fun h => by rw [bD_t h]; decide
      have hP1 : ¬ P → bD P = 0 := bD_f
      have hQ1 : ¬ Q → bD Q = 0 := bD_f
      by_cases hv : I (z + 93) e0 = v
      · have c1 : mI (mk z (W * H) I J t u) (z + 93) e0 = v := hv
        simp only [if_pos c1]
        have n2 : ¬ gq W H (tc T i) (I (z + 93)) v s := fun w => (k2.mp w).2 hv
        by_cases hP : P <;> by_cases hQ : Q
        · simp only [if_neg (hP0 hP), if_neg (hQ0 hQ)]; exact fin _ _ True True (b1 trivial) (b1 trivial) (y1 (Or.inl hP)) (y1 (Or.inl hQ))
        · simp only [if_neg (hP0 hP), if_pos (hQ1 hQ), ite_self]; exact fin _ _ True False (b1 trivial) (b0 id) (y1 (Or.inl hP)) (y0 (fun w => w.elim hQ n2))
        · simp only [if_pos (hP1 hP), if_neg (hQ0 hQ)]; exact fin _ _ True True (b1 trivial) (b1 trivial) (y1 (Or.inr (k1.mpr hv))) (y1 (Or.inl hQ))
        · simp only [if_pos (hP1 hP), if_pos (hQ1 hQ), ite_self]; exact fin _ _ True False (b1 trivial) (b0 id) (y1 (Or.inr (k1.mpr hv))) (y0 (fun w => w.elim hQ n2))
      · have c1 : ¬ mI (mk z (W * H) I J t u) (z + 93) e0 = v := hv
        have n1 : ¬ gh W H (tc T i) (I (z + 93)) v s := fun w => hv (k1.mp w)
        simp only [if_neg c1]
        by_cases h0 : I (z + 93) e0 < 0
        · have c2 : mI (mk z (W * H) I J t u) (z + 93) e0 < 0 := h0
          simp only [if_pos c2]
          have n2 : ¬ gq W H (tc T i) (I (z + 93)) v s := fun w => (k2.mp w).1 h0
          by_cases hP : P <;> by_cases hQ : Q
          · simp only [if_neg (hP0 hP), if_neg (hQ0 hQ)]; exact fin _ _ True True (b1 trivial) (b1 trivial) (y1 (Or.inl hP)) (y1 (Or.inl hQ))
          · simp only [if_neg (hP0 hP), if_pos (hQ1 hQ)]; exact fin _ _ True False (b1 trivial) (b0 id) (y1 (Or.inl hP)) (y0 (fun w => w.elim hQ n2))
          · simp only [if_pos (hP1 hP), if_neg (hQ0 hQ)]; exact fin _ _ False True (b0 id) (b1 trivial) (y0 (fun w => w.elim hP n1)) (y1 (Or.inl hQ))
          · simp only [if_pos (hP1 hP), if_pos (hQ1 hQ)]; exact fin _ _ False False (b0 id) (b0 id) (y0 (fun w => w.elim hP n1)) (y0 (fun w => w.elim hQ n2))
        · have c2 : ¬ mI (mk z (W * H) I J t u) (z + 93) e0 < 0 := h0
          simp only [if_neg c2]
          have p2 : gq W H (tc T i) (I (z + 93)) v s := k2.mpr ⟨h0, hv⟩
          by_cases hP : P <;> by_cases hQ : Q
          · simp only [if_neg (hP0 hP), if_neg (hQ0 hQ)]; exact fin _ _ True True (b1 trivial) (b1 trivial) (y1 (Or.inl hP)) (y1 (Or.inl hQ))
          · simp only [if_neg (hP0 hP), if_pos (hQ1 hQ)]; exact fin _ _ True True (b1 trivial) (b1 trivial) (y1 (Or.inl hP)) (y1 (Or.inr p2))
          · simp only [if_pos (hP1 hP), if_neg (hQ0 hQ)]; exact fin _ _ False True (b0 id) (b1 trivial) (y0 (fun w => w.elim hP n1)) (y1 (Or.inl hQ))
          · simp only [if_pos (hP1 hP), if_pos (hQ1 hQ)]; exact fin _ _ False True (b0 id) (b1 trivial) (y0 (fun w => w.elim hP n1)) (y1 (Or.inr p2))
end MO
