/-! THE ORDER OF THE BONES -/
def bef (kf : Nat → Int) (i j : Nat) : Bool := decide (kf j < kf i) || (decide (kf i = kf j) && decide (i < j))
theorem bef_iff {kf : Nat → Int} {i j : Nat} : bef kf i j = true ↔ kf j < kf i ∨ (kf i = kf j ∧ i < j) := by
  simp [bef]
def pos (kf : Nat → Int) (k j : Nat) : Nat := cnt (fun i => bef kf i j) k
theorem pos_lt {kf : Nat → Int} {k j : Nat} (hj : j < k) : pos kf k j < k := by
  have h := cnt_lt (f := fun i => bef kf i j) (g := fun _ => true) k (fun _ _ _ => rfl) ⟨j, hj, by
    cases hb : bef kf j j with
    | false => rfl
    | true => rw [bef_iff] at hb; omega, rfl⟩
  exact Nat.lt_of_lt_of_le h (cnt_le _ _)
theorem pos_mono {kf : Nat → Int} {k i j : Nat} (hi : i < k) (h : bef kf i j = true) : pos kf k i < pos kf k j := by
  refine cnt_lt k (fun q _ hq => ?_) ⟨i, hi, ?_, h⟩
  · rw [bef_iff] at hq h ⊢; omega
  · cases hb : bef kf i i with
    | false => rfl
    | true => rw [bef_iff] at hb; omega
theorem bef_tot {kf : Nat → Int} {i j : Nat} (h : i ≠ j) : bef kf i j = true ∨ bef kf j i = true := by
  rw [bef_iff, bef_iff]; omega
theorem pos_inj {kf : Nat → Int} {k i j : Nat} (hi : i < k) (hj : j < k) (h : pos kf k i = pos kf k j) : i = j := by
  apply Classical.byContradiction
  intro hne
  rcases bef_tot (kf := kf) hne with w | w
  · have := pos_mono hi w; omega
  · have := pos_mono hj w; omega
theorem cnt_all : ∀ k, cnt (fun _ => true) k = k
  | 0 => rfl
  | k + 1 => by rw [cnt, cnt_all k]; rfl
theorem pos_sur {kf : Nat → Int} {k p : Nat} (hp : p < k) : ∃ i, i < k ∧ pos kf k i = p := by
  apply Classical.byContradiction
  intro hno
  have h1 := cnt_inj (P := fun _ => true) (m := k) (pos kf k) k (fun q => true && !decide (q = p)) (fun i hi _ => ⟨pos_lt hi, by
    have : pos kf k i ≠ p := fun e => hno ⟨i, hi, e⟩
    simp [this]⟩) (fun i j hi hj _ _ e => pos_inj hi hj e)
  have h2 := cnt_rm (Q := fun _ => true) (j := p) rfl k hp
  rw [cnt_all] at h1 h2
  omega
noncomputable def ordT (kf : Nat → Int) (k p : Nat) : Nat := @dite _ (∃ i, i < k ∧ pos kf k i = p) (Classical.propDecidable _) (fun h => Classical.choose h) (fun _ => 0)
theorem ordT_ok {kf : Nat → Int} {k p : Nat} (hp : p < k) : ordT kf k p < k ∧ pos kf k (ordT kf k p) = p := by
  have h := pos_sur (kf := kf) hp
  unfold ordT
  rw [dif_pos h]
  exact Classical.choose_spec h
theorem ordT_eq {kf : Nat → Int} {k p i : Nat} (hp : p < k) (hi : i < k) (h : pos kf k i = p) : ordT kf k p = i := by
  obtain ⟨a, b⟩ := ordT_ok (kf := kf) hp
  exact pos_inj a hi (by rw [b, h])
/-- how far ahead a bone lies -/
def kyT (W : Nat) (T : TP) (dx dy : Int) (i : Nat) : Int := ((tc T i % W : Nat) : Int) * dx + ((tc T i / W : Nat) : Int) * dy
theorem mul1 {x : Nat} (hx : x < 1000) {d : Int32} (hd : st1 d) : nI x * d = iI ((x : Int) * d.toInt) ∧ -1000 ≤ (x : Int) * d.toInt ∧ (x : Int) * d.toInt ≤ 1000 := by
  have a1 : (-1 : Int32).toInt = -1 := rfl
  have a0 : (0 : Int32).toInt = 0 := rfl
  have a2 : (1 : Int32).toInt = 1 := rfl
  rcases hd with rfl | rfl | rfl
  · rw [a1]
    refine ⟨?_, by omega, by omega⟩
    rw [i32_eq, Int32.toInt_mul, nI_t (by omega), a1, iI_t (by omega) (by omega)]
    simp only [Int.bmod]
    omega
  · rw [a0]
    refine ⟨?_, by omega, by omega⟩
    rw [i32_eq, Int32.toInt_mul, nI_t (by omega), a0, iI_t (by omega) (by omega)]
    simp only [Int.bmod]
    omega
  · rw [a2]
    refine ⟨?_, by omega, by omega⟩
    rw [i32_eq, Int32.toInt_mul, nI_t (by omega), a2, iI_t (by omega) (by omega)]
    simp only [Int.bmod]
    omega
theorem ky_bd {W H M : Nat} {T : TP} {dx dy : Int32} (hD : dims W H) (hW : TW (W * H) M T) (hx : st1 dx) (hy : st1 dy) {i : Nat} (hi : i < tk T) : -12 ≤ kyT W T dx.toInt dy.toInt i ∧ kyT W T dx.toInt dy.toInt i ≤ 12 := by
  have hc := (hW.2.2.1 i hi).1
  have hcd := cd_lt (H := H) hD.1 hc
  have h2 := hD.2.1
  have h4 := hD.2.2.2
  unfold kyT
  generalize tc T i % W = a at hcd ⊢
  generalize tc T i / W = b at hcd ⊢
  have a1 : (-1 : Int32).toInt = -1 := rfl
  have a0 : (0 : Int32).toInt = 0 := rfl
  have a2 : (1 : Int32).toInt = 1 := rfl
  rcases hx with rfl | rfl | rfl <;> rcases hy with rfl | rfl | rfl <;> simp only [a1, a0, a2] <;> omega
/-- the rank of the class -/
def rkT (W : Nat) (T : TP) (dx dy : Int) (i : Nat) : Nat := (12 - kyT W T dx dy i).toNat
theorem rk_val {W H M : Nat} {T : TP} {dx dy : Int32} (hD : dims W H) (hW : TW (W * H) M T) (hx : st1 dx) (hy : st1 dy) {i : Nat} (hi : i < tk T) : (12 : Int32) - nI (tc T i % W) * dx - nI (tc T i / W) * dy = nI (rkT W T dx.toInt dy.toInt i) ∧ rkT W T dx.toInt dy.toInt i ≤ 24 ∧ ((rkT W T dx.toInt dy.toInt i : Nat) : Int) = 12 - kyT W T dx.toInt dy.toInt i := by
  have hb := ky_bd hD hW hx hy hi
  have hc := (hW.2.2.1 i hi).1
  have hcd := cd_lt (H := H) hD.1 hc
  have h2 := hD.2.1
  have h4 := hD.2.2.2
  obtain ⟨m1, m2, m3⟩ := mul1 (x := tc T i % W) (by omega) hx
  obtain ⟨n1, n2, n3⟩ := mul1 (x := tc T i / W) (by omega) hy
  have hr : ((rkT W T dx.toInt dy.toInt i : Nat) : Int) = 12 - kyT W T dx.toInt dy.toInt i := by unfold rkT; omega
  refine ⟨?_, by omega, hr⟩
  rw [m1, n1, show (12 : Int32) = iI 12 from rfl, iI_sub (by omega) (by omega) (by omega) (by omega), iI_sub (by omega) (by omega) (by omega) (by omega), nI_iI (by omega), hr]
  congr 1
  unfold kyT
  omega
theorem rk_lt {W H M : Nat} {T : TP} {dx dy : Int32} (hD : dims W H) (hW : TW (W * H) M T) (hx : st1 dx) (hy : st1 dy) {i j : Nat} (hi : i < tk T) (hj : j < tk T) : (rkT W T dx.toInt dy.toInt i < rkT W T dx.toInt dy.toInt j ↔ kyT W T dx.toInt dy.toInt j < kyT W T dx.toInt dy.toInt i) ∧ (rkT W T dx.toInt dy.toInt i = rkT W T dx.toInt dy.toInt j ↔ kyT W T dx.toInt dy.toInt i = kyT W T dx.toInt dy.toInt j) := by
  have a := (rk_val hD hW hx hy hi).2.2
  have b := (rk_val hD hW hx hy hj).2.2
  omega
theorem cnt_or {f g h : Nat → Bool} : ∀ k, (∀ i, i < k → f i = (g i || h i)) → (∀ i, i < k → g i = true → h i = true → False) → cnt f k = cnt g k + cnt h k
  | 0, _, _ => rfl
  | k + 1, h1, h2 => by
    have := cnt_or k (fun i hi => h1 i (by omega)) (fun i hi => h2 i (by omega))
    rw [cnt, cnt, cnt, this, h1 k (by omega)]
    have := h2 k (by omega)
    cases hg : g k <;> cases hh : h k <;> simp_all <;> omega
section FI
variable {n z C t : Nat} {I : Nat → Nat → Int32} {J : Nat → Nat → Int64} {u : Option Nat}
/-- a row filled -/
theorem fill_L {a N : Nat} (hN : N ≤ 1000) (hl : ∀ g : Nat → Int32, mN (mk z C (upr I a g) J t u) a = N) (v : Int32) : ∀ (d i k : Nat) (g : Nat → Int32), i + d = N → d < k → ∃ g', f_J7_fill_53178_L5 n a v (nI N) k (nI i) (mk z C (upr I a g) J t u) = some (mk z C (upr I a g') J t u) ∧ (∀ j, j < i → g' j = g j) ∧ (∀ j, i ≤ j → j < N → g' j = v) := by
  intro d
  induction d with
  | zero =>
    intro i k g hi hk
    obtain ⟨k, rfl⟩ : ∃ m, k = m + 1 := ⟨k - 1, by omega⟩
    refine ⟨g, ?_, fun _ _ => rfl, fun j h1 h2 => by omega⟩
    rw [f_J7_fill_53178_L5]
    simp only [jn]
    rw [if_pos (show nI N ≤ nI i by rw [nI_le' (by omega) (by omega)]; omega)]
  | succ d ih =>
    intro i k g hi hk
    obtain ⟨k, rfl⟩ : ∃ m, k = m + 1 := ⟨k - 1, by omega⟩
    obtain ⟨g', e, h1, h2⟩ := ih (i + 1) k (ur g i v) (by omega) (by omega)
    refine ⟨g', ?_, fun j hj => by rw [h1 j (by omega), ur_ne _ _ (by omega)], fun j h3 h4 => ?_⟩
    · rw [f_J7_fill_53178_L5]
      simp only [jn, bd]
      rw [if_neg (show ¬ nI N ≤ nI i by rw [nI_le' (by omega) (by omega)]; omega), hl, ck_t (inb_nI (by omega) (by omega)), cl_nI (by omega), sI_mk, up2_upr, show nI i + (1 : Int32) = nI (i + 1) from nI_pl i 1]
      exact e
    · by_cases hji : j = i
      · subst hji; rw [h1 j (by omega), ur_at]
      · exact h2 j (by omega) h4
end FI
