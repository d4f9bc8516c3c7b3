/-! HOLD IS NO FURTHER THAN A MILLION -/
def bnd (m x : Int) : Prop := -m ≤ x ∧ x ≤ m
def bdM (m : Int) (s : AS) : Prop := ∀ j, j < s.1 → bnd m (s.2.1 j)
theorem clp_bnd {m : Int} (hm : 1000000 ≤ m) (x : Int) : bnd m (clp x) := by
  unfold clp bnd
  split
  · omega
  · split <;> omega
theorem twoA_bnd {m : Int} (hm : 1000000 ≤ m) {o : Nat} {x y : Int} (hx : bnd m x) (hy : bnd m y) : bnd m (twoA o x y) := by
  unfold twoA
  split
  · exact clp_bnd hm _
  split
  · exact clp_bnd hm _
  split
  · exact clp_bnd hm _
  split
  · split
    · unfold bnd; omega
    · exact clp_bnd hm _
  split
  · split
    · exact hx
    · exact hy
  · split
    · exact hx
    · exact hy
theorem stepA_bnd {m : Int} (hm : 1000000 ≤ m) {nm : Nat → Int} {c : Nat × Nat} {s : AS} (hok : okA c s.1 s.2.2.1) (h : bdM m s) (hn : c.1 = 1 → bnd m (nm c.2)) : bdM m (stepA nm c s) := by
  obtain ⟨n, V, k, B⟩ := s
  unfold okA at hok
  simp only at hok
  rcases hok with ⟨h0, hv, h1⟩ | ⟨h0, hv, h1⟩ | ⟨h0, h1⟩ | ⟨⟨h0, h0'⟩, h1⟩ | ⟨⟨h0, h0'⟩, h1⟩ | ⟨h0, h1, h2⟩ | ⟨h0, h1, h2⟩
  · intro j hj
    have e : stepA nm c (n, V, k, B) = (n + 1, ur V n (c.2 : Int), k, B) := by unfold stepA; simp [h0]
    rw [e] at hj ⊢
    by_cases hjn : j = n
    · subst hjn; show bnd m (ur V j _ j); rw [ur_at]; unfold bnd; omega
    · show bnd m (ur V n _ j); rw [ur_ne _ _ hjn]; exact h j (show j < n by have : j < n + 1 := hj; omega)
  · intro j hj
    have e : stepA nm c (n, V, k, B) = (n + 1, ur V n (nm c.2), k, B) := by unfold stepA; simp [h0]
    rw [e] at hj ⊢
    by_cases hjn : j = n
    · subst hjn; show bnd m (ur V j _ j); rw [ur_at]; exact hn h0
    · show bnd m (ur V n _ j); rw [ur_ne _ _ hjn]; exact h j (show j < n by have : j < n + 1 := hj; omega)
  · intro j hj
    have e : stepA nm c (n, V, k, B) = (n, ur V (n - 1) (-(V (n - 1))), k, B) := by unfold stepA; simp [h0]
    rw [e] at hj ⊢
    by_cases hjn : j = n - 1
    · subst hjn; show bnd m (ur V (n - 1) _ (n - 1)); rw [ur_at]; have := h (n - 1) (show n - 1 < n by omega); unfold bnd at this ⊢; simp only at this ⊢; omega
    · show bnd m (ur V (n - 1) _ j); rw [ur_ne _ _ hjn]; exact h j hj
  · intro j hj
    have e : stepA nm c (n, V, k, B) = (n - 1, ur V (n - 2) (twoA c.1 (V (n - 2)) (V (n - 1))), k, B) := by unfold stepA; simp [show ¬ c.1 = 0 by omega, show ¬ c.1 = 1 by omega, show ¬ c.1 = 2 by omega, show c.1 < 10 by omega]
    rw [e] at hj ⊢
    have hj : j < n - 1 := hj
    by_cases hjn : j = n - 2
    · subst hjn; show bnd m (ur V (n - 2) _ (n - 2)); rw [ur_at]; exact twoA_bnd hm (h (n - 2) (show n - 2 < n by omega)) (h (n - 1) (show n - 1 < n by omega))
    · show bnd m (ur V (n - 2) _ j); rw [ur_ne _ _ hjn]; exact h j (show j < n by omega)
  · intro j hj
    have e : stepA nm c (n, V, k, B) = (n - 2, V, k + 1, ur B k (askA c.1 (V (n - 2)) (V (n - 1)))) := by unfold stepA; simp [show ¬ c.1 = 0 by omega, show ¬ c.1 = 1 by omega, show ¬ c.1 = 2 by omega, show ¬ c.1 < 10 by omega, show c.1 < 20 by omega]
    rw [e] at hj ⊢
    exact h j (show j < n by have : j < n - 2 := hj; omega)
  · intro j hj
    have e : (stepA nm c (n, V, k, B)).1 = n ∧ (stepA nm c (n, V, k, B)).2.1 = V := by unfold stepA; simp [h0]
    rw [e.1] at hj
    omega
  · intro j hj
    have e : (stepA nm c (n, V, k, B)).1 = n := by
      unfold stepA
      simp [show ¬ c.1 = 0 by omega, show ¬ c.1 = 1 by omega, show ¬ c.1 = 2 by omega, show ¬ c.1 < 10 by omega, show ¬ c.1 < 20 by omega, show ¬ c.1 = 20 by omega]
    rw [e] at hj
    omega
theorem runA_bnd {m : Int} (hm : 1000000 ≤ m) {nm : Nat → Int} {cd : Nat → Nat × Nat} {n' k' : Nat} : ∀ (d i : Nat) (s : AS), shpA cd d i s.1 s.2.2.1 n' k' → (∀ j, i ≤ j → j < i + d → (cd j).1 = 1 → bnd m (nm (cd j).2)) → bdM m s → bdM m (runA nm cd d i s) ∧ (runA nm cd d i s).1 = n'
  | 0, _, s, hs, _, hb => ⟨hb, hs.1⟩
  | d + 1, i, s, hs, hn, hb => by
    have hnk := stepA_nk nm (cd i) s
    exact runA_bnd hm d (i + 1) (stepA nm (cd i) s) (by rw [hnk.1, hnk.2]; exact hs.2) (fun j h1 h2 => hn j (by omega) (by omega)) (stepA_bnd hm hs.1 hb (fun h => hn i (Nat.le_refl _) (by omega) h))
theorem valL_bnd {m : Int} (hm : 1000000 ≤ m) {L : Option XT} (hL : ∀ X, L = some X → XW X) {s : Nat} (hs2 : s ≤ 2) {nm : Nat → Int} {df : Int} (hd : bnd m df) (hn : ∀ v, isOfN s v = true → bnd m (nm v)) : bnd m (valL L s nm df) := by
  unfold valL
  cases e : L with
  | none => exact hd
  | some X =>
    show bnd m (match idx X s with | none => df | some c => valX X nm c)
    rcases idx_cases X s with ⟨e2, -⟩ | ⟨i, e2, hi, hs⟩
    · rw [e2]; exact hd
    · rw [e2]
      obtain ⟨a1, a2, a3, a4⟩ := (hL X e).2.2.2.2.1 i hi (by omega)
      obtain ⟨b1, b2⟩ := runA_bnd hm (nm := nm) (cd := xc X) _ _ aS0 a3 (fun j h1 h2 h3 => hn _ (by rw [← hs]; exact (a4 j h1 (by omega)).2 h3)) (fun j hj => absurd hj (Nat.not_lt_zero j))
      rw [if_neg (by omega)] at b2
      exact b1 0 (by rw [b2]; omega)
theorem holdT_bnd {W H M : Nat} {T : TP} {L : Option XT} (hD : dims W H) (hW : TW (W * H) M T) (hL : ∀ X, L = some X → XW X) {i : Nat} (hi : i < tk T) : bnd 1000000 (holdT W H T L i) := by
  obtain ⟨a1, a2, a3, a4⟩ := hW.2.2.1 i hi
  refine valL_bnd (by omega) hL (by omega) (by unfold bnd; omega) (fun v hv => ?_)
  have hC := hD.C
  have hb : besT W H T (tc T i) ≤ 4 := cnt_le _ _
  have hcd := cd_lt (H := H) hD.1 a1
  generalize hq : tc T i / W = q at hcd
  generalize hr : tc T i % W = r at hcd
  have h1 := hD.1
  have h2 := hD.2.1
  have h3 := hD.2.2.2
  have h24 : th T % 24 < 24 := Nat.mod_lt _ (by omega)
  unfold nmB bnd
  rw [hq, hr]
  split
  · omega
  split
  · omega
  split
  · omega
  split
  · omega
  split
  · omega
  split
  · omega
  · omega
/-! HOW FAR A BONE MAY GO: the class's stepsBy, the reference's reckoning in goes -/
def c09 (m : Nat) (x : Int) : Nat := (if x < 0 then 0 else if (m : Int) < x then (m : Int) else x).toNat
theorem c09_le (m : Nat) (x : Int) : c09 m x ≤ m := by
  unfold c09
  split
  · omega
  split <;> omega
theorem iI_sub {x y : Int} (h1 : -100000000 ≤ x) (h2 : x ≤ 100000000) (h3 : -100000000 ≤ y) (h4 : y ≤ 100000000) : iI x - iI y = iI (x - y) := by
  rw [i32_eq, Int32.toInt_sub, iI_t (by omega) (by omega), iI_t (by omega) (by omega), iI_t (by omega) (by omega)]
  simp only [Int.bmod]
  omega
theorem iI_add {x y : Int} (h1 : -100000000 ≤ x) (h2 : x ≤ 100000000) (h3 : -100000000 ≤ y) (h4 : y ≤ 100000000) : iI x + iI y = iI (x + y) := by
  rw [i32_eq, Int32.toInt_add, iI_t (by omega) (by omega), iI_t (by omega) (by omega), iI_t (by omega) (by omega)]
  simp only [Int.bmod]
  omega
theorem iI_d20 {x : Int} (h1 : 0 < x) (h2 : x ≤ 100000000) : iI x / (20 : Int32) = iI (x / 20) := by
  have h20 : (20 : Int32).toInt = 20 := rfl
  rw [i32_eq, Int32.toInt_div, iI_t (by omega) (by omega), h20, iI_t (by omega) (by omega), Int.tdiv_eq_ediv_of_nonneg (by omega)]
  simp only [Int.bmod]
  omega
theorem mm_C {m : Nat} (hm : m < 1000) {x : Int} (h1 : -100000000 ≤ x) (h2 : x ≤ 100000000) : imax 0 (imin (nI m) (iI x)) = nI (c09 m x) := by
  have hx := iI_t (x := x) (by omega) (by omega)
  have h0 : (0 : Int32).toInt = 0 := rfl
  have hl := c09_le m x
  have key : (imax 0 (imin (nI m) (iI x))).toInt = (if x < 0 then 0 else if (m : Int) < x then (m : Int) else x) := by
    unfold imax imin
    by_cases c1 : x < 0
    · rw [if_pos (show iI x < nI m by rw [i32_lt, hx, nI_t (by omega)]; omega), if_neg (show ¬ (0 : Int32) < iI x by rw [i32_lt, hx, h0]; omega), if_pos c1, h0]
    · rw [if_neg c1]
      by_cases c2 : (m : Int) < x
      · rw [if_neg (show ¬ iI x < nI m by rw [i32_lt, hx, nI_t (by omega)]; omega), if_pos c2]
        by_cases c3 : (0 : Int32) < nI m
        · rw [if_pos c3, nI_t (by omega)]
        · rw [if_neg c3, h0]
          rw [i32_lt, h0, nI_t (by omega)] at c3
          omega
      · rw [if_neg c2]
        by_cases c3 : x = m
        · rw [if_neg (show ¬ iI x < nI m by rw [i32_lt, hx, nI_t (by omega)]; omega)]
          by_cases c4 : (0 : Int32) < nI m
          · rw [if_pos c4, nI_t (by omega)]; omega
          · rw [if_neg c4, h0]
            rw [i32_lt, h0, nI_t (by omega)] at c4
            omega
        · rw [if_pos (show iI x < nI m by rw [i32_lt, hx, nI_t (by omega)]; omega)]
          by_cases c4 : (0 : Int32) < iI x
          · rw [if_pos c4, hx]
          · rw [if_neg c4, h0]
            rw [i32_lt, h0, hx] at c4
            omega
  rw [i32_eq, key, nI_t (by omega)]
  unfold c09
  split
  · omega
  split <;> omega
theorem mn_C {x : Int} (h1 : 0 < x) (h2 : x ≤ 100000000) : imin 9 (iI x) = nI (c09 9 x) := by
  have hx := iI_t (x := x) (by omega) (by omega)
  have h9 : (9 : Int32).toInt = 9 := rfl
  have hl := c09_le 9 x
  rw [i32_eq, nI_t (by omega)]
  unfold imin
  by_cases c2 : x < 9
  · rw [if_pos (show iI x < 9 by rw [i32_lt, hx, h9]; omega), hx]
    unfold c09
    rw [if_neg (by omega), if_neg (by omega)]; omega
  · rw [if_neg (show ¬ iI x < 9 by rw [i32_lt, hx, h9]; omega), h9]
    unfold c09
    rw [if_neg (by omega)]
    split <;> omega
theorem s_held {n : Nat} {S : MS} {m : Nat} (hm : m < 1000) {x : Int} (h1 : -100000000 ≤ x) (h2 : x ≤ 100000000) : f_X11_held n (jI x) (0 : Int32) (nI m) S = some (nI (c09 m x), S) := by
  have hx := jI_t (x := x) (by omega) (by omega)
  have h0 : (0 : Int32).toInt64.toInt = 0 := by decide
  have hmm : (nI m).toInt64.toInt = m := by rw [Int32.toInt_toInt64, nI_t (by omega)]
  have hl := c09_le m x
  unfold f_X11_held
  by_cases c1 : x < 0
  · rw [if_neg (by rw [cmp_ge, hx, h0]; omega)]
    have : c09 m x = 0 := by unfold c09; rw [if_pos c1]; rfl
    rw [this]; rfl
  · rw [if_pos (by rw [cmp_ge, hx, h0]; omega)]
    by_cases c2 : (m : Int) < x
    · rw [if_neg (by rw [cmp_le, hx, hmm]; omega)]
      have : c09 m x = m := by unfold c09; rw [if_neg c1, if_pos c2]; omega
      rw [this]
    · rw [if_pos (by rw [cmp_le, hx, hmm]; omega), jI_32 (by omega) (by omega), nI_iI (by omega)]
      have : ((c09 m x : Nat) : Int) = x := by unfold c09; rw [if_neg c1, if_neg c2]; omega
      rw [this]
noncomputable def nmF (W H : Nat) (T : TP) (i : Nat) (str : Nat) (sp : Int) (v : Nat) : Int := if v = 6 then (str : Int) else if v = 7 then sp else nmB W H T i v
/-- how many steps bone i may go at most by a wind of that strength -/
noncomputable def stpsT (W H : Nat) (T : TP) (L : Option XT) (i str : Nat) : Nat := if (str : Int) - holdT W H T L i ≤ 0 then 0 else c09 9 (valL L 1 (nmF W H T i str ((str : Int) - holdT W H T L i)) (1 + ((str : Int) - holdT W H T L i) / 20))
section ST
variable {n z t W H M B o C : Nat} {I : Nat → Nat → Int32} {J : Nat → Nat → Int64} {u : Option Nat} {T : TP} {L : Option XT}
theorem nmF_small (hD : dims W H) (hW : TW (W * H) M T) {i : Nat} (hi : i < tk T) {str : Nat} (hs : str < 100) {sp : Int} (hsp : 0 < sp) (hsp2 : sp ≤ 2000000) (v : Nat) : small (nmF W H T i str sp v) := by
  unfold nmF
  split
  · unfold small; omega
  split
  · unfold small; omega
  · exact nmB_small hD hW hi v
theorem lawX {la : Option Nat} (hL : LwC z t I L la) : ∀ X, L = some X → XW X := by
  intro X e
  rcases hL with ⟨e1, -⟩ | ⟨r, X', e1, -, -, -, hX, -⟩
  · rw [e] at e1; cases e1
  · rw [e] at e1; cases e1; exact hX
theorem lawY (hL : LawR z t I L) : ∀ X, L = some X → XW X := by
  intro X e
  rcases hL with ⟨e1, -⟩ | ⟨r, X', tx, e1, hr, htx, hrt, h7, h8, h4, hX, hCx, hR⟩
  · rw [e] at e1; cases e1
  · rw [e] at e1; cases e1; exact hX
/-- a row of names for far -/
theorem nmF_row {i str : Nat} {sp : Int} {nr r0 : Nat → Int32} (hstr : str < 100) (h : NmR W H T i nr r0) : ∀ v, v < 8 → ur (ur nr 6 (nI str)) 7 (iI sp) v = iI (nmF W H T i str sp v) := by
  intro v hv
  unfold nmF
  by_cases h7 : v = 7
  · subst h7; rw [ur_at]; rfl
  · rw [ur_ne _ _ h7]
    by_cases h6 : v = 6
    · subst h6; rw [ur_at, if_pos rfl, nI_iI (by omega)]
    · rw [ur_ne _ _ h6, if_neg h6, if_neg h7]; exact h.1 v (by omega)
/-- the class's stepsBy -/
theorem s_stepsBy (hn : 100000 ≤ n) (hM : M < 100000) (hD : dims W H) (hG : GeoR W H (I (z + 30)) (J (z + 30)) (J (z + 31))) (ho : isP o) (hW : TW (W * H) M T) (hT : ClsT z (W * H) o I J T) {la : Option Nat} (hL : LwC z t I L la) {i str : Nat} (hi : i < tk T) (hstr : str < 100) :
    ∃ I', f_X5_stepsBy n (z + 23) (z + o) (nI i) (nI str) la (mk z (W * H) I J t u) = some (nI (stpsT W H T L i str), mk z (W * H) I' J t u) ∧ Sc z I I' := by
  have h24 := hW.1
  have ho2 := isP_ge ho
  obtain ⟨a1, a2, a3, a4⟩ := hW.2.2.1 i hi
  have hwe : mI (mk z (W * H) I J t u) (z + (o + 2)) i = nI (tw T i) := (hT.2.2.1 i hi).2.1
  have hhb := holdT_bnd hD hW (lawX hL) hi
  unfold bnd at hhb
  have h0 : (0 : Int32).toInt = 0 := rfl
  -- spare and the steps without far
  have fin0 : ∀ S : MS, idL L 1 = none → (if 0 < iI ((str : Int) - holdT W H T L i) then dv (20 : Int32) (some ((imin (9 : Int32) ((1 : Int32) + (iI ((str : Int) - holdT W H T L i) / (20 : Int32)))), S)) else some ((0 : Int32), S)) = some (nI (stpsT W H T L i str), S) := by
    intro S e1
    unfold stpsT
    have hv : valL L 1 (nmF W H T i str ((str : Int) - holdT W H T L i)) (1 + ((str : Int) - holdT W H T L i) / 20) = 1 + ((str : Int) - holdT W H T L i) / 20 := by
      generalize holdT W H T L i = hh
      unfold valL
      cases hL' : L with
      | none => rfl
      | some X =>
        rw [hL'] at e1
        show (match idx X 1 with | none => _ | some c => _) = _
        rw [show idx X 1 = none from e1]
    rw [hv]
    generalize hsp : (str : Int) - holdT W H T L i = sp
    have b1 : sp ≤ 1000100 := by omega
    have b2 : -1000100 ≤ sp := by omega
    have hst := iI_t (x := sp) (by omega) (by omega)
    by_cases c : sp ≤ 0
    · rw [if_neg (by rw [i32_lt, h0, hst]; omega), if_pos c]; rfl
    · rw [if_pos (by rw [i32_lt, h0, hst]; omega), if_neg c, dv, if_neg (by decide), iI_d20 (by omega) (by omega), show (1 : Int32) = iI 1 from rfl, iI_add (by omega) (by omega) (by omega) (by omega), mn_C (by omega) (by omega)]
  rcases id hL with ⟨e1, e2⟩ | ⟨r, X, e1, e2, hr, hr4, hX, hC⟩
  · subst e1 e2
    refine ⟨I, ?_, Sc.rf z I⟩
    unfold f_X5_stepsBy
    simp only [jn, bd, if_pos (rfl : (none : Option Nat) = none), if_pos (rfl : (0 : Int32) = 0)]
    rw [gP_2 ho, nP_2 ho, ck_t (inb_nI (by omega) (by omega)), cl_nI (by omega), hwe, nI_iI (show str < 1000000 by omega), nI_iI (show tw T i < 1000000 by omega), iI_sub (by omega) (by omega) (by omega) (by omega)]
    exact fin0 _ rfl
  · have hm := hX.1
    obtain ⟨nr, e4, hnr⟩ := s_nameC (n := n) (t := t) (u := u) hM hD hG ho hW hT hi
    have h7 : ∀ c, idx X 0 = some c → I (z + (97 + 6 * r)) 7 = nI c := fun c e => by
      rcases idx_cases X 0 with ⟨e3, -⟩ | ⟨c', e3, hc, hcs⟩
      · rw [e] at e3; cases e3
      · rw [e] at e3; cases e3; exact (hC.2.2.1 0 (by omega)).1 c hc hcs
    have h7n : idx X 0 = none → I (z + (97 + 6 * r)) 7 = -1 := fun e => by
      rcases idx_cases X 0 with ⟨e3, h⟩ | ⟨c', e3, hc, hcs⟩
      · exact (hC.2.2.1 0 (by omega)).2 h
      · rw [e] at e3; cases e3
    have h8 : ∀ c, idx X 1 = some c → I (z + (97 + 6 * r)) 8 = nI c := fun c e => by
      rcases idx_cases X 1 with ⟨e3, -⟩ | ⟨c', e3, hc, hcs⟩
      · rw [e] at e3; cases e3
      · rw [e] at e3; cases e3; exact (hC.2.2.1 1 (by omega)).1 c hc hcs
    have h8n : idx X 1 = none → I (z + (97 + 6 * r)) 8 = -1 := fun e => by
      rcases idx_cases X 1 with ⟨e3, h⟩ | ⟨c', e3, hc, hcs⟩
      · exact (hC.2.2.1 1 (by omega)).2 h
      · rw [e] at e3; cases e3
    have hcb : ∀ s c, idx X s = some c → c < 1000000 ∧ c < xm X ∧ xs X c = s := fun s c e => by
      rcases idx_cases X s with ⟨e3, -⟩ | ⟨c', e3, hc, hcs⟩
      · rw [e] at e3; cases e3
      · rw [e] at e3; cases e3; exact ⟨by omega, hc, hcs⟩
    -- from spare on, with far
    have fin1 : ∀ (c : Nat), idx X 1 = some c → ∀ (I1 : Nat → Nat → Int32), Sc z (upr I (z + 24) nr) I1 → I1 (z + 24) = nr → ∃ I', (if 0 < iI ((str : Int) - holdT W H T L i) then gR (mk z (W * H) I1 J t u) (mR (mk z (W * H) I1 J t u) (z + 23) 0) 12 fun q18 => ck (inb (6 : Int32) (mN (mk z (W * H) I1 J t u) q18)) (gR (sI (mk z (W * H) I1 J t u) q18 (6 : Int32).toNatClampNeg (nI str)) (mR (sI (mk z (W * H) I1 J t u) q18 (6 : Int32).toNatClampNeg (nI str)) (z + 23) 0) 12 fun q23 => ck (inb (7 : Int32) (mN (sI (mk z (W * H) I1 J t u) q18 (6 : Int32).toNatClampNeg (nI str)) q23)) (cl (f_X5_value n (z + 23) (some (z + (97 + 6 * r))) (mI (sI (sI (mk z (W * H) I1 J t u) q18 (6 : Int32).toNatClampNeg (nI str)) q23 (7 : Int32).toNatClampNeg (iI ((str : Int) - holdT W H T L i))) (z + (97 + 6 * r)) 8) (sI (sI (mk z (W * H) I1 J t u) q18 (6 : Int32).toNatClampNeg (nI str)) q23 (7 : Int32).toNatClampNeg (iI ((str : Int) - holdT W H T L i)))) fun x33 S30 => some ((imax (0 : Int32) (imin (9 : Int32) x33)), S30))) else some ((0 : Int32), mk z (W * H) I1 J t u)) = some (nI (stpsT W H T L i str), mk z (W * H) I' J t u) ∧ Sc z I I' := by
      intro c ec I1 hS1 h24r
      have hv : valL L 1 (nmF W H T i str ((str : Int) - holdT W H T L i)) (1 + ((str : Int) - holdT W H T L i) / 20) = valX X (nmF W H T i str ((str : Int) - holdT W H T L i)) c := by
        generalize holdT W H T L i = hh
        unfold valL
        rw [e1]
        show (match idx X 1 with | none => _ | some c => _) = _
        rw [ec]
      unfold stpsT
      rw [hv]
      generalize hsp : (str : Int) - holdT W H T L i = sp
      have b1 : sp ≤ 1000100 := by omega
      have b2 : -1000100 ≤ sp := by omega
      have hst := iI_t (x := sp) (by omega) (by omega)
      have hSc : Sc z I I1 := Sc.tr Sc.u24 hS1
      by_cases cc : sp ≤ 0
      · rw [if_neg (by rw [i32_lt, h0, hst]; omega), if_pos cc]
        exact ⟨I1, rfl, hSc⟩
      · rw [if_pos (by rw [i32_lt, h0, hst]; omega), if_neg cc, g23_0, n24, ck_t (by decide), sI_mk, g23_0, n24, ck_t (by decide), sI_mk, mI_mk, show (6 : Int32).toNatClampNeg = 6 from rfl, show (7 : Int32).toNatClampNeg = 7 from rfl, up2_upr1 I1, up2_upr, h24r]
        obtain ⟨k1, k2, k3⟩ := hcb 1 c ec
        have hne : ∀ q, z + 97 ≤ q → upr I1 (z + 24) (ur (ur nr 6 (nI str)) 7 (iI sp)) q = I q := fun q hq => by rw [upr_ne (by omega), hSc q (by omega) (by omega)]
        obtain ⟨st, e5⟩ := s_valX (n := n) (C := W * H) (I := upr I1 (z + 24) (ur (ur nr 6 (nI str)) 7 (iI sp))) (J := J) (u := u) hn hr hX (hC.congr hne) k2 k3 (by omega) (nm := nmF W H T i str sp) (fun v hv => ⟨nmF_small hD hW hi hstr (by omega) (by omega) v, by rw [upr_at]; exact nmF_row hstr hnr v (of1 v hv)⟩)
        have hsm := valX_small hX k2 k3 (by omega) (nm := nmF W H T i str sp) (fun v _ => nmF_small hD hW hi hstr (by omega) (by omega) v)
        unfold small at hsm
        refine ⟨_, ?_, hSc.tr (Sc.tr (Sc.u24 (g := ur (ur nr 6 (nI str)) 7 (iI sp))) (Sc.u25 (g := st)))⟩
        rw [hne _ (by omega), h8 c ec, e5, cl_some, show (9 : Int32) = nI 9 from rfl, mm_C (by omega) (by omega) (by omega)]
    subst e2
    unfold f_X5_stepsBy
    simp only [jn, bd, nn, if_neg (show ¬ (some (z + (97 + 6 * r)) : Option Nat) = none by simp)]
    have hid0 : idL L 0 = idx X 0 := by rw [e1]; rfl
    have hid1 : idL L 1 = idx X 1 := by rw [e1]; rfl
    have hh0 : idx X 0 = none → holdT W H T L i = tw T i := fun e => by
      unfold holdT valL
      rw [e1]
      show (match idx X 0 with | none => _ | some c => _) = _
      rw [e]
    have hh1 : ∀ c, idx X 0 = some c → holdT W H T L i = valX X (nmB W H T i) c := fun c e => by
      unfold holdT valL
      rw [e1]
      show (match idx X 0 with | none => _ | some c => _) = _
      rw [e]
    have hwe' : ∀ g : Nat → Int32, mI (mk z (W * H) (upr I (z + 24) g) J t u) (z + (o + 2)) i = nI (tw T i) := fun g => by rw [mI_mk, upr_ne (by omega)]; exact hwe
    cases c0 : idx X 0 with
    | none =>
      rw [if_pos (show mI (mk z (W * H) I J t u) (z + (97 + 6 * r)) 7 = -1 from h7n c0)]
      cases c1 : idx X 1 with
      | none =>
        rw [if_pos (show mI (mk z (W * H) I J t u) (z + (97 + 6 * r)) 8 = -1 from h8n c1)]
        refine ⟨I, ?_, Sc.rf z I⟩
        rw [gP_2 ho, nP_2 ho, ck_t (inb_nI (by omega) (by omega)), cl_nI (by omega), hwe, nI_iI (show str < 1000000 by omega), nI_iI (show tw T i < 1000000 by omega), iI_sub (by omega) (by omega) (by omega) (by omega), ← hh0 c0]
        exact fin0 _ (by rw [hid1]; exact c1)
      | some c =>
        rw [if_neg (show ¬ mI (mk z (W * H) I J t u) (z + (97 + 6 * r)) 8 = -1 by rw [mI_mk, h8 c c1]; exact nI_nm1 (hcb 1 c c1).1)]
        simp only [if_pos (rfl : (0 : Int32) = 0), if_neg (show ¬ (1 : Int32) = 0 by decide)]
        rw [e4, cv_some, gP_2 ho, nP_2 ho, ck_t (inb_nI (by omega) (by omega)), cl_nI (by omega), hwe', show nI str - nI (tw T i) = iI ((str : Int) - holdT W H T L i) by rw [hh0 c0, nI_iI (show str < 1000000 by omega), nI_iI (show tw T i < 1000000 by omega), iI_sub (by omega) (by omega) (by omega) (by omega)]]
        exact fin1 c c1 _ (Sc.rf z _) (upr_at _ _ _)
    | some c' =>
      obtain ⟨k1, k2, k3⟩ := hcb 0 c' c0
      obtain ⟨st, e5⟩ := s_valX (n := n) (C := W * H) (I := upr I (z + 24) nr) (J := J) (u := u) hn hr hX (hC.congr (fun q hq => upr_ne (by omega))) k2 k3 (by omega) (nm := nmB W H T i) (fun v hv => ⟨nmB_small hD hW hi v, by rw [upr_at]; exact hnr.1 v (of0 v hv)⟩)
      have h7' : mI (mk z (W * H) (upr I (z + 24) nr) J t u) (z + (97 + 6 * r)) 7 = nI c' := by rw [mI_mk, upr_ne (by omega)]; exact h7 c' c0
      have hsb : nI str - iI (valX X (nmB W H T i) c') = iI ((str : Int) - holdT W H T L i) := by rw [hh1 c' c0] at hhb ⊢; rw [nI_iI (show str < 1000000 by omega), iI_sub (by omega) (by omega) (by omega) (by omega)]
      rw [if_neg (show ¬ mI (mk z (W * H) I J t u) (z + (97 + 6 * r)) 7 = -1 by rw [mI_mk, h7 c' c0]; exact nI_nm1 k1)]
      cases c1 : idx X 1 with
      | none =>
        rw [if_pos (show mI (mk z (W * H) I J t u) (z + (97 + 6 * r)) 8 = -1 from h8n c1)]
        simp only [if_pos (rfl : (0 : Int32) = 0), if_neg (show ¬ (1 : Int32) = 0 by decide)]
        rw [e4, cv_some, h7', e5, cl_some, hsb]
        exact ⟨_, fin0 _ (by rw [hid1]; exact c1), Sc.tr Sc.u24 Sc.u25⟩
      | some c =>
        rw [if_neg (show ¬ mI (mk z (W * H) I J t u) (z + (97 + 6 * r)) 8 = -1 by rw [mI_mk, h8 c c1]; exact nI_nm1 (hcb 1 c c1).1)]
        simp only [if_neg (show ¬ (1 : Int32) = 0 by decide)]
        rw [e4, cv_some, h7', e5, cl_some, hsb]
        exact fin1 c c1 _ Sc.u25 (by rw [upr_ne (by omega), upr_at])
end ST
