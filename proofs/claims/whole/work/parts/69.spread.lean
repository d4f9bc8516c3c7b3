/-! WHAT HANGS TOGETHER; the class's spread -/
def Rch (W : Nat) (F : Nat → Prop) (c d : Nat) : Prop := F c ∧ ∀ S : Nat → Prop, S c → (∀ x y, S x → F y → adj W x y → S y) → S d
section RC
variable {W : Nat} {F : Nat → Prop} {c d e x y : Nat}
theorem adj_sm (h : adj W c d) : adj W d c := by
  unfold adj at h ⊢
  rcases h with h | h | h | h
  · exact Or.inr (Or.inl h)
  · exact Or.inl h
  · exact Or.inr (Or.inr (Or.inr h))
  · exact Or.inr (Or.inr (Or.inl h))
theorem Rch.rf (h : F c) : Rch W F c c := ⟨h, fun _ h1 _ => h1⟩
theorem Rch.st (h : Rch W F c x) (hy : F y) (ha : adj W x y) : Rch W F c y := ⟨h.1, fun S h1 h2 => h2 x y (h.2 S h1 h2) hy ha⟩
theorem Rch.en (h : Rch W F c d) : F d := h.2 F h.1 (fun _ _ _ hy _ => hy)
theorem Rch.tr (h : Rch W F c d) (h2 : Rch W F d e) : Rch W F c e := ⟨h.1, fun S a b => h2.2 S (h.2 S a b) b⟩
theorem Rch.sm (h : Rch W F c d) : Rch W F d c := h.2 (fun q => Rch W F q c) (Rch.rf h.1) (fun _ _ hx hy ha => ((Rch.rf hy).st hx.1 (adj_sm ha)).tr hx)
theorem Rch.congr {G : Nat → Prop} (hFG : ∀ q, F q ↔ G q) (h : Rch W F c d) : Rch W G c d := ⟨(hFG c).mp h.1, fun S a b => h.2 S a (fun x y hx hy ha => b x y hx ((hFG y).mp hy) ha)⟩
end RC
/-! shifts of sets -/
theorem lsh_k : ∀ k, k < 64 → (((nI k).toInt64 &&& 63).toBitVec.smod 64).toNat = k := by decide +kernel
theorem bt_shl (x : Int64) {k : Nat} (hk : k < 64) (d : Nat) : bt (lsh x (nI k)) d = (decide (d < 64) && !decide (d < k) && bt x (d - k)) := by
  show (x.toBitVec <<< (((nI k).toInt64 &&& 63).toBitVec.smod 64)).getLsbD d = _
  rw [BitVec.shiftLeft_eq', lsh_k k hk, BitVec.getLsbD_shiftLeft]
  rfl
theorem lg_eq (x y : Int64) : (lg_cmp x y = 0) ↔ x = y := by
  unfold lg_cmp
  by_cases h1 : x > y
  · rw [if_pos h1]
    constructor
    · intro h; exact absurd h (by decide)
    · intro h; subst h; exact absurd h1 (Int64.lt_irrefl)
  · rw [if_neg h1]
    by_cases h2 : x = y
    · simp [h2]
    · simp [h2]
section SP
variable {n z C t W H : Nat} {I : Nat → Nat → Int32} {J : Nat → Nat → Int64} {u : Option Nat}
theorem s_sidesOf (h1 : 3 ≤ W) (h2 : W ≤ 8) (h4 : H ≤ 6) (hG : GeoR W H (I (z + 30)) (J (z + 30)) (J (z + 31))) (x : Int64) (hx : ∀ c, bt x c = true → c < W * H) : ∃ y, f_X1_sidesOf n (z + 30) x (mk z C I J t u) = some (y, mk z C I J t u) ∧ ∀ d, bt y d = true ↔ d < W * H ∧ ∃ c, bt x c = true ∧ adj W c d := by
  have hC : W * H ≤ 48 := WH h2 h4
  obtain ⟨g0, g1, g2, g3, g4, g6, g7, gs⟩ := hG
  unfold f_X1_sidesOf
  simp only [bd, mI_mk, mJ_mk, g0]
  refine ⟨_, rfl, fun d => ?_⟩
  by_cases hd : d < W * H
  · have hd64 : d < 64 := by omega
    have e1 : (1 : Int32) = nI 1 := rfl
    rw [bt_and, bt_or, bt_or, bt_or, g3, e1, bt_shl _ (by omega), bt_shl _ (by omega), bt_lush _ (by omega), bt_lush _ (by omega), bt_and, bt_and]
    simp only [Bool.and_eq_true, Bool.or_eq_true, decide_eq_true_eq, hd, and_true, true_and, hd64, Bool.not_eq_true', decide_eq_false_iff_not]
    constructor
    · rintro (((⟨a1, a2, a3⟩ | ⟨a2, a3⟩) | ⟨a1, a2⟩) | a2)
      · refine ⟨d - 1, a2, Or.inl ⟨by omega, fun q => ?_⟩⟩
        rw [bt_not _ (by omega)] at a3
        have := (g7 (d - 1)).mpr ⟨by omega, q⟩
        rw [this] at a3; cases a3
      · refine ⟨1 + d, a2, Or.inr (Or.inl ⟨by omega, fun q => ?_⟩)⟩
        have hlt := hx _ a2
        rw [bt_not _ (by omega)] at a3
        have := (g6 (1 + d)).mpr ⟨hlt, by rcases Wc h1 h2 with rfl | rfl | rfl | rfl | rfl | rfl <;> omega⟩
        rw [this] at a3; cases a3
      · exact ⟨d - W, a2, Or.inr (Or.inr (Or.inl (by omega)))⟩
      · exact ⟨W + d, a2, Or.inr (Or.inr (Or.inr (by omega)))⟩
    · rintro ⟨c, hc, ha⟩
      have hlt := hx _ hc
      rcases ha with ⟨e, q⟩ | ⟨e, q⟩ | e | e
      · refine Or.inl (Or.inl (Or.inl ⟨by omega, by rw [show d - 1 = c by omega]; exact hc, ?_⟩))
        rw [show d - 1 = c by omega, bt_not _ (by omega)]
        cases hb : bt (J (z + 30) 7) c with
        | false => rfl
        | true => exact absurd ((g7 c).mp hb).2 q
      · refine Or.inl (Or.inl (Or.inr ⟨by rw [show 1 + d = c by omega]; exact hc, ?_⟩))
        rw [show 1 + d = c by omega, bt_not _ (by omega)]
        cases hb : bt (J (z + 30) 6) c with
        | false => rfl
        | true =>
          have := ((g6 c).mp hb).2
          exfalso
          rcases Wc h1 h2 with rfl | rfl | rfl | rfl | rfl | rfl <;> omega
      · exact Or.inl (Or.inr ⟨by omega, by rw [show d - W = c by omega]; exact hc⟩)
      · exact Or.inr (by rw [show W + d = c by omega]; exact hc)
  · rw [bt_and, g3]
    simp [hd]
/-- the free cells, as bits -/
def Fb (C : Nat) (fr : Int64) (d : Nat) : Prop := d < C ∧ bt fr d = true
theorem spread_L (h1 : 3 ≤ W) (h2 : W ≤ 8) (h4 : H ≤ 6) (hG : GeoR W H (I (z + 30)) (J (z + 30)) (J (z + 31))) (x fr : Int64) :
    ∀ (d i k : Nat) (f : Int64), i + d = W * H → d < k → (∀ q, bt f q = true → ∃ c, bt x c = true ∧ Rch W (Fb (W * H) fr) c q) → (∀ c, bt x c = true → Fb (W * H) fr c → bt f c = true) → i ≤ cnt (bt f) (W * H) →
    ∃ r, f_X1_spread_L8 n (z + 30) fr k f (nI i) (mk z C I J t u) = some (r, mk z C I J t u) ∧ (∀ q, bt r q = true → ∃ c, bt x c = true ∧ Rch W (Fb (W * H) fr) c q) ∧ (∀ c, bt x c = true → Fb (W * H) fr c → bt r c = true) ∧ ∀ a b, bt r a = true → Fb (W * H) fr b → adj W a b → bt r b = true := by
  have hC : W * H ≤ 48 := WH h2 h4
  intro d
  induction d with
  | zero =>
    intro i k f hi hk q1 q2 q3
    obtain ⟨k, rfl⟩ : ∃ m, k = m + 1 := ⟨k - 1, by omega⟩
    obtain rfl : i = W * H := by omega
    refine ⟨f, ?_, q1, q2, ?_⟩
    · rw [f_X1_spread_L8]
      simp only [jn]
      rw [mI_mk, hG.2.2.1, if_pos ((nI_le' (by omega) (by omega)).mpr (Nat.le_refl _))]
    · intro a b _ hb _
      exact cnt_full _ (Nat.le_antisymm (cnt_le _ _) q3) b hb.1
  | succ d ih =>
    intro i k f hi hk q1 q2 q3
    obtain ⟨k, rfl⟩ : ∃ m, k = m + 1 := ⟨k - 1, by omega⟩
    have hf : ∀ c, bt f c = true → c < W * H := fun c hc => by
      obtain ⟨c0, _, hr⟩ := q1 c hc
      exact hr.en.1
    obtain ⟨y, ey, hy⟩ := s_sidesOf (n := n) (C := C) (I := I) (J := J) (t := t) (u := u) h1 h2 h4 hG f hf
    have hw : ∀ q, bt (f ||| y &&& fr) q = true ↔ bt f q = true ∨ (bt y q = true ∧ bt fr q = true) := fun q => by
      rw [bt_or, bt_and, Bool.or_eq_true, Bool.and_eq_true]
    rw [f_X1_spread_L8]
    simp only [jn, bd]
    rw [mI_mk, hG.2.2.1, if_neg (show ¬ nI (W * H) ≤ nI i by rw [nI_le' (by omega) (by omega)]; omega), ey, cl_some]
    by_cases he : f ||| y &&& fr = f
    · rw [if_pos ((lg_eq _ _).mpr he)]
      refine ⟨f, rfl, q1, q2, fun a b ha hb hab => ?_⟩
      rw [← he, hw]
      exact Or.inr ⟨(hy b).mpr ⟨hb.1, a, ha, hab⟩, hb.2⟩
    · rw [if_neg (fun w => he ((lg_eq _ _).mp w)), show nI i + (1 : Int32) = nI (i + 1) from nI_pl i 1]
      refine ih (i + 1) k _ (by omega) (by omega) ?_ ?_ ?_
      · intro q hq
        rcases (hw q).mp hq with hq | ⟨ha, hb⟩
        · exact q1 q hq
        · obtain ⟨hlt, c, hc, hcq⟩ := (hy q).mp ha
          obtain ⟨c0, g1, g2⟩ := q1 c hc
          exact ⟨c0, g1, g2.st ⟨hlt, hb⟩ hcq⟩
      · intro c hc hF
        exact (hw c).mpr (Or.inl (q2 c hc hF))
      · refine Nat.lt_of_le_of_lt q3 (cnt_lt _ (fun j _ hj => (hw j).mpr (Or.inl hj)) ?_)
        apply Classical.byContradiction
        intro hno
        apply he
        apply bt_ext
        intro c _
        cases hfc : bt f c with
        | true => exact (hw c).mpr (Or.inl hfc)
        | false =>
          cases hfy : bt (f ||| y &&& fr) c with
          | false => rfl
          | true =>
            rcases (hw c).mp hfy with w | ⟨w, _⟩
            · rw [w] at hfc; cases hfc
            · exact absurd ⟨c, ((hy c).mp w).1, hfc, hfy⟩ hno
/-- spread: all that hangs together with the start -/
theorem s_spread (hn : 100000 ≤ n) (h1 : 3 ≤ W) (h2 : W ≤ 8) (h4 : H ≤ 6) (hG : GeoR W H (I (z + 30)) (J (z + 30)) (J (z + 31))) (x fr : Int64) (hx : ∀ c, bt x c = true → c < W * H) :
    ∃ r, f_X1_spread n (z + 30) x fr (mk z C I J t u) = some (r, mk z C I J t u) ∧ ∀ q, bt r q = true ↔ ∃ c, bt x c = true ∧ Rch W (Fb (W * H) fr) c q := by
  have hC : W * H ≤ 48 := WH h2 h4
  obtain ⟨r, e, r1, r2, r3⟩ := spread_L (n := n) (C := C) (t := t) (u := u) h1 h2 h4 hG x fr (W * H) 0 n (x &&& fr) (by omega) (by omega) (fun q hq => by
      rw [bt_and, Bool.and_eq_true] at hq
      exact ⟨q, hq.1, Rch.rf ⟨hx q hq.1, hq.2⟩⟩) (fun c hc hF => by rw [bt_and, hc, hF.2]; rfl) (Nat.zero_le _)
  refine ⟨r, e, fun q => ⟨r1 q, ?_⟩⟩
  rintro ⟨c, hc, hr⟩
  exact hr.2 (fun q => bt r q = true) (r2 c hc hr.1) (fun a b ha hb hab => r3 a b ha hb hab)
/-- from one cell -/
theorem s_spread1 (hn : 100000 ≤ n) (h1 : 3 ≤ W) (h2 : W ≤ 8) (h4 : H ≤ 6) (hG : GeoR W H (I (z + 30)) (J (z + 30)) (J (z + 31))) (fr : Int64) {c : Nat} (hc : c < W * H) :
    ∃ r, f_X1_spread n (z + 30) (lsh 1 (nI c)) fr (mk z C I J t u) = some (r, mk z C I J t u) ∧ ∀ q, bt r q = true ↔ Rch W (Fb (W * H) fr) c q := by
  have hC : W * H ≤ 48 := WH h2 h4
  obtain ⟨r, e, hr⟩ := s_spread (n := n) (C := C) (t := t) (u := u) hn h1 h2 h4 hG (lsh 1 (nI c)) fr (fun d hd => by
    rw [bt_lsh (by omega), decide_eq_true_eq] at hd; omega)
  refine ⟨r, e, fun q => (hr q).trans ⟨?_, fun h => ⟨c, by rw [bt_lsh (by omega)]; simp, h⟩⟩⟩
  rintro ⟨d, hd, h⟩
  rw [bt_lsh (by omega), decide_eq_true_eq] at hd
  subst hd; exact h
end SP
