/-! THE GROUND -/
def wst (W : Nat) : Nat → Int64
  | 0 => 0
  | i + 1 => wst W i ||| lsh (1 : Int64) (nI (i * W))
def allM (W H : Nat) : Int64 := lsh (1 : Int64) (nI (W * H)) - 1
def estM (W H : Nat) : Int64 := lsh (wst W H) (nI (W - 1))
def rimM (W H : Nat) : Int64 := ((wst W H ||| estM W H) ||| (lsh (1 : Int64) (nI W) - 1)) ||| lsh (lsh (1 : Int64) (nI W) - 1) (nI (W * H - W))
theorem all_m : ∀ W, W < 9 → ∀ H, H < 7 → 3 ≤ W → 3 ≤ H → ∀ c, c < 64 → bt (allM W H) c = decide (c < W * H) := by decide +kernel
theorem wst_m : ∀ W, W < 9 → ∀ H, H < 7 → 3 ≤ W → 3 ≤ H → ∀ c, c < 64 → bt (wst W H) c = decide (c < W * H ∧ c % W = 0) := by decide +kernel
theorem est_m : ∀ W, W < 9 → ∀ H, H < 7 → 3 ≤ W → 3 ≤ H → ∀ c, c < 64 → bt (estM W H) c = decide (c < W * H ∧ c % W = W - 1) := by decide +kernel
theorem rim_m : ∀ W, W < 9 → ∀ H, H < 7 → 3 ≤ W → 3 ≤ H → ∀ c, c < 64 → bt (rimM W H) c = decide (c < W * H ∧ (c % W = 0 ∨ c % W = W - 1 ∨ c / W = 0 ∨ c / W = H - 1)) := by decide +kernel
section GD
variable {n z l th W H : Nat} {K N : List Nat} {rl : List (Nat × Nat × Nat)} {I : Nat → Nat → Int32} {J : Nat → Nat → Int64}
theorem bt_dec {x : Int64} {P : Nat → Prop} [DecidablePred P] (h : ∀ c, c < 64 → bt x c = decide (P c)) (hP : ∀ c, P c → c < 64) (c : Nat) : bt x c = true ↔ P c := by
  by_cases e : c < 64
  · rw [h c e, decide_eq_true_iff]
  · rw [bt_big x (by omega)]
    exact ⟨(fun y => by cases y), (fun y => absurd (hP c y) e)⟩
theorem sd_of (h1 : 3 ≤ W) (h2 : W ≤ 8) (h4 : H ≤ 6) {S : MS} {a : Nat} (g0 : mI S a 0 = nI W) (g3 : ∀ c, bt (mJ S a 3) c = decide (c < W * H)) (g6 : ∀ c, bt (mJ S a 6) c = true ↔ c < W * H ∧ c % W = 0) (g7 : ∀ c, bt (mJ S a 7) c = true ↔ c < W * H ∧ c % W = W - 1) (x : Int64) (hx : ∀ c, bt x c = true → c < W * H) : ∃ y, f_X1_sidesOf n a x S = some (y, S) ∧ ∀ d, bt y d = true ↔ d < W * H ∧ ∃ c, bt x c = true ∧ adj W c d := by
  have hC : W * H ≤ 48 := WH h2 h4
  unfold f_X1_sidesOf
  simp only [bd, g0]
  refine ⟨_, rfl, fun d => ?_⟩
  by_cases hd : d < W * H
  · have hd64 : d < 64 := by omega
    have e1 : (1 : Int32) = nI 1 := rfl
    rw [bt_and, bt_or, bt_or, bt_or, g3, e1, bt_shl _ (by omega), bt_shl _ (by omega), bt_lush _ (by omega), bt_lush _ (by omega), bt_and, bt_and]
    simp only [Bool.and_eq_true, Bool.or_eq_true, decide_eq_true_eq, hd, and_true, true_and, hd64, Bool.not_eq_true', decide_eq_false_iff_not]
    constructor
    · rintro (((⟨a1, a2, a3⟩ | ⟨a2, a3⟩) | ⟨a1, a2⟩) | a2)
      · refine ⟨d - 1, a2, Or.inl ⟨by omega, fun q => ?_⟩⟩
        rw [bt_not _ (by omega)] at a3
        have := (g7 (d - 1)).mpr ⟨by omega, q⟩
        rw [this] at a3; cases a3
      · refine ⟨1 + d, a2, Or.inr (Or.inl ⟨by omega, fun q => ?_⟩)⟩
        have hlt := hx _ a2
        rw [bt_not _ (by omega)] at a3
        have := (g6 (1 + d)).mpr ⟨hlt, by rcases Wc h1 h2 with rfl | rfl | rfl | rfl | rfl | rfl <;> omega⟩
        rw [this] at a3; cases a3
      · exact ⟨d - W, a2, Or.inr (Or.inr (Or.inl (by omega)))⟩
      · exact ⟨W + d, a2, Or.inr (Or.inr (Or.inr (by omega)))⟩
    · rintro ⟨c, hc, ha⟩
      have hlt := hx _ hc
      rcases ha with ⟨e, q⟩ | ⟨e, q⟩ | e | e
      · refine Or.inl (Or.inl (Or.inl ⟨by omega, by rw [show d - 1 = c by omega]; exact hc, ?_⟩))
        rw [show d - 1 = c by omega, bt_not _ (by omega)]
        cases hb : bt (mJ S a 7) c with
        | false => rfl
        | true => exact absurd ((g7 c).mp hb).2 q
      · refine Or.inl (Or.inl (Or.inr ⟨by rw [show 1 + d = c by omega]; exact hc, ?_⟩))
        rw [show 1 + d = c by omega, bt_not _ (by omega)]
        cases hb : bt (mJ S a 6) c with
        | false => rfl
        | true =>
          have := ((g6 c).mp hb).2
          exfalso
          rcases Wc h1 h2 with rfl | rfl | rfl | rfl | rfl | rfl <;> omega
      · exact Or.inl (Or.inr ⟨by omega, by rw [show d - W = c by omega]; exact hc⟩)
      · exact Or.inr (by rw [show W + d = c by omega]; exact hc)
  · rw [bt_and, g3]
    simp [hd]
theorem l38_ok {a : Nat} {F : Int64 → MS → Option MS} {S : MS} (h2 : W ≤ 8) (h4 : H ≤ 6) : ∀ (d i k : Nat), i + d = H → d < k → f_X1_init_L38 n a (nI W) (nI H) F k (wst W i) (nI i) S = F (wst W H) S := by
  intro d
  induction d with
  | zero =>
    intro i k hi hk
    obtain ⟨k, rfl⟩ : ∃ q, k = q + 1 := ⟨k - 1, by omega⟩
    rw [f_X1_init_L38]
    simp only [jn]
    rw [if_pos (show nI H ≤ nI i from (nI_le' (by omega) (by omega)).mpr (by omega)), show i = H by omega]
  | succ d ih =>
    intro i k hi hk
    obtain ⟨k, rfl⟩ : ∃ q, k = q + 1 := ⟨k - 1, by omega⟩
    rw [f_X1_init_L38]
    simp only [jn, bd]
    rw [if_neg (show ¬ nI H ≤ nI i from fun y => by have := (nI_le' (by omega) (by omega)).mp y; omega), nI_ml, show nI i + (1 : Int32) = nI (i + 1) from nI_pl i 1]
    exact ih (i + 1) k (by omega) (by omega)
theorem l119_ok (h1 : 3 ≤ W) (h2 : W ≤ 8) (h4 : H ≤ 6) {ls : Nat} (hth : th ≠ ls) (hs : chn rl th 5 = some ls) (hls : ls < K.length) (hK : K.getD ls 0 = 13) (hN : N.getD ls 0 = W * H) (g0 : I (z + th) 0 = nI W) (g2 : I (z + th) 2 = nI (W * H)) : ∀ (d i k : Nat) (J : Nat → Nat → Int64), i + d = W * H → d < k → (∀ c, bt (J (z + th) 3) c = decide (c < W * H)) → (∀ c, bt (J (z + th) 6) c = true ↔ c < W * H ∧ c % W = 0) → (∀ c, bt (J (z + th) 7) c = true ↔ c < W * H ∧ c % W = W - 1) → ∃ J', f_X1_init_L119 n (z + th) k (nI i) (bk z K N rl I J) = some (bk z K N rl I J') ∧ (∀ q, q ≠ z + ls → J' q = J q) ∧ (∀ c, c < i → J' (z + ls) c = J (z + ls) c) ∧ (∀ c, i ≤ c → c < W * H → ∀ d, bt (J' (z + ls) c) d = true ↔ d < W * H ∧ adj W c d) := by
  have hC : W * H ≤ 48 := WH h2 h4
  intro d
  induction d with
  | zero =>
    intro i k J hi hk g3 g6 g7
    obtain ⟨k, rfl⟩ : ∃ q, k = q + 1 := ⟨k - 1, by omega⟩
    refine ⟨J, ?_, fun _ _ => rfl, fun _ _ => rfl, fun c a b => by omega⟩
    rw [f_X1_init_L119]
    simp only [jn]
    rw [if_pos (show mI (bk z K N rl I J) (z + th) 2 ≤ nI i by rw [show mI (bk z K N rl I J) (z + th) 2 = nI (W * H) from g2]; exact (nI_le' (by omega) (by omega)).mpr (by omega))]
  | succ d ih =>
    intro i k J hi hk g3 g6 g7
    obtain ⟨k, rfl⟩ : ∃ q, k = q + 1 := ⟨k - 1, by omega⟩
    obtain ⟨y, ey, hy⟩ := sd_of (n := n) (H := H) h1 h2 h4 (S := bk z K N rl I J) (a := z + th) g0 g3 g6 g7 (lsh (1 : Int64) (nI i)) (fun c hc => by rw [bt_lsh (by omega), decide_eq_true_iff] at hc; omega)
    have hJ : ∀ q, q ≠ z + ls → up2 J (z + ls) i y q = J q := fun q a => up2_ne a
    obtain ⟨J', e, f1, f2, f3⟩ := ih (i + 1) k (up2 J (z + ls) i y) (by omega) (by omega) (by rw [hJ _ (by omega)]; exact g3) (by rw [hJ _ (by omega)]; exact g6) (by rw [hJ _ (by omega)]; exact g7)
    refine ⟨J', ?_, fun q hq => by rw [f1 q hq, hJ q hq], fun c hc => by rw [f2 c (by omega), up2_x (by omega)], fun c a b => ?_⟩
    · rw [f_X1_init_L119]
      simp only [jn, bd]
      rw [if_neg (show ¬ mI (bk z K N rl I J) (z + th) 2 ≤ nI i by rw [show mI (bk z K N rl I J) (z + th) 2 = nI (W * H) from g2]; exact fun y => by have := (nI_le' (by omega) (by omega)).mp y; omega), bk_gR hs hls hK, ey, cl_some, bk_mN, hN, ck_t (inb_nI (by omega) (by omega)), cl_nI (by omega), bk_sJ, show nI i + (1 : Int32) = nI (i + 1) from nI_pl i 1]
      exact e
    · by_cases e2 : c = i
      · rw [e2, f2 i (by omega), up2_v]
        intro d
        rw [hy d]
        refine and_congr_right (fun _ => ⟨fun ⟨c', a1, a2⟩ => ?_, fun a2 => ⟨i, ?_, a2⟩⟩)
        · rw [bt_lsh (by omega), decide_eq_true_iff] at a1
          rw [← a1]; exact a2
        · rw [bt_lsh (by omega), decide_eq_true_iff]
      · exact f3 c (by omega) b
theorem i1_ok (hn : 100000 ≤ n) (h1 : 3 ≤ W) (h2 : W ≤ 8) (h3 : 3 ≤ H) (h4 : H ≤ 6) (h : BkW z l K N rl I J) (ht : th < l) : ∃ J', f_X1_init n z (z + th) (nI W) (nI H) (bk z K N rl I J) = some (bk z (K ++ [13]) (N ++ [W * H]) ((th, 5, l) :: rl) (up2 (up2 (up2 I (z + th) 0 (nI W)) (z + th) 1 (nI H)) (z + th) 2 (nI (W * H))) J') ∧ BkW z (l + 1) (K ++ [13]) (N ++ [W * H]) ((th, 5, l) :: rl) (up2 (up2 (up2 I (z + th) 0 (nI W)) (z + th) 1 (nI H)) (z + th) 2 (nI (W * H))) J' ∧ (∀ q, q ≠ z + th → q ≠ z + l → J' q = J q) ∧ GeoR W H (up2 (up2 (up2 I (z + th) 0 (nI W)) (z + th) 1 (nI H)) (z + th) 2 (nI (W * H)) (z + th)) (J' (z + th)) (J' (z + l)) := by
  have hC : W * H ≤ 48 := WH h2 h4
  have hWC : W ≤ W * H := Nat.le_mul_of_pos_right W (by omega)
  obtain ⟨I1, hI1⟩ : ∃ I1, I1 = up2 (up2 (up2 I (z + th) 0 (nI W)) (z + th) 1 (nI H)) (z + th) 2 (nI (W * H)) := ⟨_, rfl⟩
  obtain ⟨J1, hJ1⟩ : ∃ J1, J1 = up2 (up2 (up2 (up2 J (z + th) 3 (allM W H)) (z + th) 6 (wst W H)) (z + th) 7 (estM W H)) (z + th) 4 (rimM W H) := ⟨_, rfl⟩
  have v2 : I1 (z + th) 2 = nI (W * H) := by rw [hI1, up2_v]
  have v1 : I1 (z + th) 1 = nI H := by rw [hI1, up2_x (by omega), up2_v]
  have v0 : I1 (z + th) 0 = nI W := by rw [hI1, up2_x (by omega), up2_x (by omega), up2_v]
  have w4 : J1 (z + th) 4 = rimM W H := by rw [hJ1, up2_v]
  have w7 : J1 (z + th) 7 = estM W H := by rw [hJ1, up2_x (by omega), up2_v]
  have w6 : J1 (z + th) 6 = wst W H := by rw [hJ1, up2_x (by omega), up2_x (by omega), up2_v]
  have w3 : J1 (z + th) 3 = allM W H := by rw [hJ1, up2_x (by omega), up2_x (by omega), up2_x (by omega), up2_v]
  have hW1 : BkW z l K N rl I1 J1 := by
    rw [hI1, hJ1]
    exact ((((((h.ik ht 0 _).ik ht 1 _).ik ht 2 _).jk ht 3 _).jk ht 6 _).jk ht 7 _).jk ht 4 _
  have m3 : ∀ c, bt (allM W H) c = decide (c < W * H) := fun c => by
    by_cases e : c < 64
    · exact all_m W (by omega) H (by omega) h1 h3 c e
    · rw [bt_big _ (by omega), decide_eq_false (by omega)]
  have m6 := bt_dec (wst_m W (by omega) H (by omega) h1 h3) (fun c y => by omega)
  have m7 := bt_dec (est_m W (by omega) H (by omega) h1 h3) (fun c y => by omega)
  have m4 := bt_dec (rim_m W (by omega) H (by omega) h1 h3) (fun c y => by omega)
  have hW2 := hW1.alk 13 (W * H) ht 5
  obtain ⟨J2, e2, f1, f2, f3⟩ := l119_ok (n := n) (z := z) (th := th) (W := W) (H := H) (K := K ++ [13]) (N := N ++ [W * H]) (rl := (th, 5, l) :: rl) (I := I1) h1 h2 h4 (ls := l) (by omega) chn_hd (by rw [hW2.1]; omega) (apL h.1) (apL h.2.1) v0 v2 (W * H) 0 n J1 (by omega) (by omega) (by rw [w3]; exact m3) (by rw [w6]; exact m6) (by rw [w7]; exact m7)
  have fth : J2 (z + th) = J1 (z + th) := f1 _ (by omega)
  refine ⟨J2, ?_, ?_, fun q a b => ?_, ?_⟩
  · unfold f_X1_init
    simp only [bd, jn]
    rw [bk_sI, bk_sI, bk_sI, nI_ml, ← hI1, bk_sJ]
    have l38 := fun F => l38_ok (n := n) (a := z + th) (F := F) (W := W) (H := H) (S := bk z K N rl I1 (up2 J (z + th) 3 (lsh (1 : Int64) (mI (bk z K N rl I1 J) (z + th) 2) - 1))) h2 h4 H 0 n (by omega) (by omega)
    refine Eq.trans (l38 _) ?_
    have mm : ∀ Jx, mI (bk z K N rl I1 Jx) (z + th) 2 = nI (W * H) := fun _ => v2
    rw [mm]
    rw [bk_sJ, show nI W - (1 : Int32) = nI (W - 1) from nI_s1 (by omega), bk_sJ, mm, nI_sb hWC]
    rw [bk_sJ]
    have ej : up2 (up2 (up2 (up2 J (z + th) 3 (lsh (1 : Int64) (nI (W * H)) - 1)) (z + th) 6 (wst W H)) (z + th) 7 (lsh (wst W H) (nI (W - 1)))) (z + th) 4 (((mJ (bk z K N rl I1 (up2 (up2 (up2 J (z + th) 3 (lsh (1 : Int64) (nI (W * H)) - 1)) (z + th) 6 (wst W H)) (z + th) 7 (lsh (wst W H) (nI (W - 1))))) (z + th) 6 ||| mJ (bk z K N rl I1 (up2 (up2 (up2 J (z + th) 3 (lsh (1 : Int64) (nI (W * H)) - 1)) (z + th) 6 (wst W H)) (z + th) 7 (lsh (wst W H) (nI (W - 1))))) (z + th) 7) ||| (lsh (1 : Int64) (nI W) - 1)) ||| lsh (lsh (1 : Int64) (nI W) - 1) (nI (W * H - W))) = J1 := by
      rw [hJ1, show mJ (bk z K N rl I1 (up2 (up2 (up2 J (z + th) 3 (lsh (1 : Int64) (nI (W * H)) - 1)) (z + th) 6 (wst W H)) (z + th) 7 (lsh (wst W H) (nI (W - 1))))) (z + th) 6 = wst W H from by show up2 _ _ _ _ _ _ = _; rw [up2_x (by omega), up2_v], show mJ (bk z K N rl I1 (up2 (up2 (up2 J (z + th) 3 (lsh (1 : Int64) (nI (W * H)) - 1)) (z + th) 6 (wst W H)) (z + th) 7 (lsh (wst W H) (nI (W - 1))))) (z + th) 7 = estM W H from up2_v]
      rfl
    rw [ej, mm]
    refine Eq.trans (al_st (c := 13) (m := (nI (W * H)).toNatClampNeg) (a := th) (k := 5) (F := fun S24 => f_X1_init_L119 n (z + th) n (0 : Int32) S24) hW1 ?_) ?_
    · unfold nak
      rw [cl_nI (by omega), decide_eq_false (show ¬ nI (W * H) < 0 from fun y => by have := (nI_lt' (b := 0) (by omega) (by omega)).mp y; omega), decide_eq_true (show W * H ≤ 64 by omega)]; rfl
    rw [cl_nI (by omega)]
    exact e2
  · obtain ⟨x1, x2, x3, x4, x5⟩ := hW2
    exact ⟨x1, x2, x3, (fun q hq => by rw [← hI1]; exact x4 q hq), fun q hq => by rw [f1 q (by omega)]; exact x5 q hq⟩
  · rw [f1 q b, hJ1, up2_ne a, up2_ne a, up2_ne a, up2_ne a]
  · refine ⟨?_, ?_, ?_, ?_, ?_, ?_, ?_, fun c hc d => f3 c (Nat.zero_le _) hc d⟩
    · rw [← hI1]; exact v0
    · rw [← hI1]; exact v1
    · rw [← hI1]; exact v2
    · rw [fth, w3]; exact m3
    · rw [fth, w4]; exact m4
    · rw [fth, w6]; exact m6
    · rw [fth, w7]; exact m7
end GD
