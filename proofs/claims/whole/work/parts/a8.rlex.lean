/-! THE REFERENCE'S TOKENS -/
section RL
variable {n z C t : Nat} {u : Option Nat} {L : Nat} {tp : Nat → Nat}
def TpR (z L : Nat) (tp : Nat → Nat) (I : Nat → Nat → Int32) : Prop := I (z + 83) 7 = nI L ∧ L ≤ 300 ∧ ∀ j, j < L → I (z + 86) j = nI (tp j) ∧ tp j < 256
def byV (L : Nat) (tp : Nat → Nat) (p : Nat) : Int32 := if p < L then nI (tp p) else -1
theorem q_by {I : Nat → Nat → Int32} {J : Nat → Nat → Int64} (h : TpR z L tp I) {p : Nat} (hp : p ≤ 1000) : f_X11_byteAt n (z + 83) (nI p) (mk z C I J t u) = some (byV L tp p, mk z C I J t u) := by
  obtain ⟨h1, h2, h3⟩ := h
  have m7 : mI (mk z C I J t u) (z + 83) 7 = nI L := h1
  unfold f_X11_byteAt byV
  rw [m7]
  by_cases e : p < L
  · rw [if_neg (fun w => by have := (nI_le' (by omega) (by omega)).mp w; omega), g83_6, n86, ck_t (inb_nI (by omega) (by omega)), cl_nI (by omega), mI_mk, (h3 p e).1, if_pos e]
  · rw [if_pos ((nI_le' (by omega) (by omega)).mpr (by omega)), if_neg e]
theorem in_rN {b lo hi : Nat} (hb : b < 1000) (hl : lo < 1000) (hh : hi < 1000) (S : MS) : f_X11_isIn n (nI b) (nI lo) (nI hi) S = some (bWC (decide (lo ≤ b ∧ b ≤ hi)), S) := by
  unfold f_X11_isIn
  simp only [zb_0, zb_1]
  by_cases e1 : b < lo
  · rw [if_pos ((nI_lt' (by omega) (by omega)).mpr e1), decide_eq_false (by omega)]; rfl
  rw [if_neg (fun w => e1 ((nI_lt' (by omega) (by omega)).mp w))]
  by_cases e2 : hi < b
  · rw [if_pos ((nI_lt' (by omega) (by omega)).mpr e2), decide_eq_false (by omega)]; rfl
  · rw [if_neg (fun w => e2 ((nI_lt' (by omega) (by omega)).mp w)), decide_eq_true (by omega)]; rfl
theorem q_ltr (hb : ∀ j, j < L → tp j < 256) (p : Nat) (S : MS) : f_X11_isLetter n (byV L tp p) S = some (bWC (decide (p < L) && ltB (tp p)), S) := by
  unfold f_X11_isLetter byV
  by_cases e : p < L
  · have := hb p e
    rw [if_pos e, decide_eq_true e, Bool.true_and, show (97 : Int32) = nI 97 from rfl, show (122 : Int32) = nI 122 from rfl, show (65 : Int32) = nI 65 from rfl, show (90 : Int32) = nI 90 from rfl, in_rN (by omega) (by omega) (by omega), cl_some, in_rN (by omega) (by omega) (by omega), cl_some]
    simp only [zb_0, zb_1]
    unfold ltB
    by_cases a : 97 ≤ tp p ∧ tp p ≤ 122
    · rw [decide_eq_true a, if_neg (by decide), decide_eq_true (Or.inl a)]; rfl
    · rw [decide_eq_false a, if_pos (show bWC false = 0 from rfl)]
      by_cases b : 65 ≤ tp p ∧ tp p ≤ 90
      · rw [decide_eq_true b, if_neg (by decide), decide_eq_true (Or.inr b)]; rfl
      · rw [decide_eq_false b, if_pos (show bWC false = 0 from rfl), decide_eq_false (fun w => w.elim a b)]; rfl
  · rw [if_neg e, decide_eq_false e, Bool.false_and]
    rfl
theorem q_dgr (hb : ∀ j, j < L → tp j < 256) (p : Nat) (S : MS) : f_X11_isDigit n (byV L tp p) S = some (bWC (decide (p < L) && dgB (tp p)), S) := by
  unfold f_X11_isDigit byV
  by_cases e : p < L
  · have := hb p e
    rw [if_pos e, decide_eq_true e, Bool.true_and, show (48 : Int32) = nI 48 from rfl, show (57 : Int32) = nI 57 from rfl, in_rN (by omega) (by omega) (by omega), cl_some]
    unfold dgB
    by_cases a : 48 ≤ tp p ∧ tp p ≤ 57
    · rw [decide_eq_true a]; exact zb_1 _
    · rw [decide_eq_false a]; exact zb_0 _
  · rw [if_neg e, decide_eq_false e, Bool.false_and]
    rfl
theorem up2_x {α : Type} {f : Nat → Nat → α} {a k b j : Nat} {v : α} (h : ¬ (b = a ∧ j = k)) : up2 f a k v b j = f b j := by
  unfold up2
  by_cases e : b = a
  · rw [if_pos e, if_neg (fun w => h ⟨e, w⟩)]
  · rw [if_neg e]
theorem up2_v {α : Type} {f : Nat → Nat → α} {a k : Nat} {v : α} : up2 f a k v a k = v := by unfold up2; rw [if_pos rfl, if_pos rfl]
/-- only these fields are another -/
def OnF (z : Nat) (P : Nat → Prop) (I I' : Nat → Nat → Int32) : Prop := ∀ q j, ¬ (q = z + 83 ∧ P j) → I' q j = I q j
theorem OnF.ro {P : Nat → Prop} {I : Nat → Nat → Int32} : OnF z P I I := fun _ _ _ => rfl
theorem OnF.to {P : Nat → Prop} {I I1 I2 : Nat → Nat → Int32} (h : OnF z P I I1) (h2 : OnF z P I1 I2) : OnF z P I I2 := fun q j w => (h2 q j w).trans (h q j w)
theorem OnF.up {P : Nat → Prop} {I I1 : Nat → Nat → Int32} (h : OnF z P I I1) {k : Nat} {v : Int32} (hk : P k) : OnF z P I (up2 I1 (z + 83) k v) := fun q j w => by rw [up2_x (fun y => w ⟨y.1, by rw [y.2]; exact hk⟩)]; exact h q j w
theorem OnF.mo {P Q : Nat → Prop} {I I1 : Nat → Nat → Int32} (h : OnF z P I I1) (hk : ∀ j, P j → Q j) : OnF z Q I I1 := fun q j w => h q j (fun y => w ⟨y.1, hk j y.2⟩)
theorem TpR.on {P : Nat → Prop} {I I' : Nat → Nat → Int32} (h : TpR z L tp I) (f : OnF z P I I') (hP : ¬ P 7) : TpR z L tp I' := by
  obtain ⟨h1, h2, h3⟩ := h
  exact ⟨by rw [f _ _ (fun w => hP w.2)]; exact h1, h2, fun j hj => by rw [f _ _ (fun w => by omega)]; exact h3 j hj⟩
/-- spaces -/
theorem q_L0 {J : Nat → Nat → Int64} {K : MS → Option MS} : ∀ k p (I : Nat → Nat → Int32), L - p < k → p ≤ L → TpR z L tp I → I (z + 83) 10 = nI p → ∃ I', f_X11_nextToken_L0 n (z + 83) K k (mk z C I J t u) = K (mk z C I' J t u) ∧ OnF z (fun j => j = 10) I I' ∧ I' (z + 83) 10 = nI (skP L tp p) := by
  intro k
  induction k with
  | zero => intro p I h; omega
  | succ k ih =>
    intro p I hk hp hT h10
    obtain ⟨h1, h2, h3⟩ := id hT
    have m10 : mI (mk z C I J t u) (z + 83) 10 = nI p := h10
    have bv : ∀ v, v < 200 → (byV L tp p = nI v ↔ p < L ∧ tp p = v) := fun v hv => by
      unfold byV
      by_cases e : p < L
      · rw [if_pos e, nI_inj (by have := (h3 p e).2; omega) (by omega)]; exact ⟨fun w => ⟨e, w⟩, fun w => w.2⟩
      · rw [if_neg e]; exact ⟨fun w => absurd w.symm (nI_n1 (by omega)), fun w => absurd w.1 e⟩
    rw [f_X11_nextToken_L0]
    simp only [jn, bd]
    rw [m10, q_by hT (by omega), cl_some, m10, q_by hT (by omega), cl_some]
    by_cases sp : p < L ∧ spB (tp p) = true
    · have go := ih (p + 1) (up2 I (z + 83) 10 (nI (p + 1))) (by omega) (by omega) (hT.on (P := fun j => j = 10) (OnF.ro.up rfl) (by decide)) up2_v
      obtain ⟨I', e, a, b⟩ := go
      refine ⟨I', ?_, OnF.to (P := fun j => j = 10) (OnF.ro.up rfl) a, by rw [b]; exact congrArg nI (runE_s sp.1 sp.2).symm⟩
      have : tp p = 32 ∨ tp p = 10 := of_decide_eq_true sp.2
      rw [sI_mk, show nI p + (1 : Int32) = nI (p + 1) from nI_pl p 1]
      by_cases y : tp p = 32
      · rw [if_pos (show byV L tp p = (32 : Int32) from (bv 32 (by omega)).mpr ⟨sp.1, y⟩)]; exact e
      · rw [if_neg (show ¬ byV L tp p = (32 : Int32) from fun w => y ((bv 32 (by omega)).mp w).2), if_pos (show byV L tp p = (10 : Int32) from (bv 10 (by omega)).mpr ⟨sp.1, by omega⟩), m10, sI_mk, show nI p + (1 : Int32) = nI (p + 1) from nI_pl p 1]; exact e
    · refine ⟨I, ?_, OnF.ro, by rw [h10]; exact congrArg nI (runE_e sp).symm⟩
      rw [if_neg (show ¬ byV L tp p = (32 : Int32) from fun w => sp (by have := (bv 32 (by omega)).mp w; exact ⟨this.1, decide_eq_true (Or.inl this.2)⟩)), if_neg (show ¬ byV L tp p = (10 : Int32) from fun w => sp (by have := (bv 10 (by omega)).mp w; exact ⟨this.1, decide_eq_true (Or.inr this.2)⟩))]
/-- digits -/
def RvN (m v : Nat) : Prop := m < 1000000 ∧ ((m ≤ 9999 ∧ v = m) ∨ (9999 < m ∧ v = 10000))
theorem q_L85 {J : Nat → Nat → Int64} : ∀ k p m v (I : Nat → Nat → Int32), L - p < k → p ≤ L → TpR z L tp I → I (z + 83) 10 = nI p → I (z + 83) 13 = nI m → RvN m v → ∃ I' m', f_X11_nextToken_L85 n (z + 83) k (mk z C I J t u) = some (mk z C I' J t u) ∧ OnF z (fun j => j = 10 ∨ j = 13) I I' ∧ I' (z + 83) 10 = nI (runE L tp dgB p) ∧ I' (z + 83) 13 = nI m' ∧ RvN m' (valF L tp (L - p) p v) := by
  intro k
  induction k with
  | zero => intro p m v I h; omega
  | succ k ih =>
    intro p m v I hk hp hT h10 h13 hv
    obtain ⟨h1, h2, h3⟩ := id hT
    have hb : ∀ j, j < L → tp j < 256 := fun j hj => (h3 j hj).2
    have m10 : mI (mk z C I J t u) (z + 83) 10 = nI p := h10
    have m13 : mI (mk z C I J t u) (z + 83) 13 = nI m := h13
    rw [f_X11_nextToken_L85]
    simp only [jn, bd]
    rw [m10, q_by hT (by omega), cl_some, q_dgr hb, cl_some]
    by_cases q : p < L ∧ dgB (tp p) = true
    · have hq : 48 ≤ tp p ∧ tp p ≤ 57 := of_decide_eq_true q.2
      rw [decide_eq_true q.1, q.2, Bool.true_and, if_neg (by decide), m13, m10, sI_mk, show nI p + (1 : Int32) = nI (p + 1) from nI_pl p 1, q_by hT (by omega), cl_some, sI_mk, show byV L tp p = nI (tp p) from if_pos q.1, show (10 : Int32) * nI m = nI (10 * m) from nI_ml 10 m, nI_pl, show (48 : Int32) = nI 48 from rfl, nI_sb (by omega)]
      rw [runE_s q.1 q.2, show L - p = L - (p + 1) + 1 by omega, valF, if_pos q]
      unfold RvN at hv
      by_cases y : 100000 ≤ m
      · rw [if_pos (show (100000 : Int32) ≤ nI m from (nI_le' (a := 100000) (by omega) (by omega)).mpr y)]
        obtain ⟨I', m', e, a, b, c, d⟩ := ih (p + 1) m (min (v * 10 + tp p - 48) 10000) (up2 I (z + 83) 10 (nI (p + 1))) (by omega) (by omega) (hT.on (P := fun j => j = 10) (OnF.ro.up rfl) (by decide)) up2_v (by rw [up2_x (by omega)]; exact h13) ⟨by omega, by omega⟩
        exact ⟨I', m', e, (OnF.ro.up (Or.inl rfl)).to a, b, c, d⟩
      · rw [if_neg (show ¬ (100000 : Int32) ≤ nI m from fun w => y ((nI_le' (a := 100000) (by omega) (by omega)).mp w))]
        have m10' : mI (mk z C (up2 I (z + 83) 13 (nI (10 * m + tp p - 48))) J t u) (z + 83) 10 = nI p := by rw [mI_mk, up2_x (by omega)]; exact h10
        obtain ⟨I', m', e, a, b, c, d⟩ := ih (p + 1) (10 * m + tp p - 48) (min (v * 10 + tp p - 48) 10000) (up2 (up2 I (z + 83) 13 (nI (10 * m + tp p - 48))) (z + 83) 10 (nI (p + 1))) (by omega) (by omega) (hT.on (P := fun j => j = 10 ∨ j = 13) ((OnF.ro.up (Or.inr rfl)).up (Or.inl rfl)) (by decide)) up2_v (by rw [up2_x (by omega), up2_v]) ⟨by omega, by omega⟩
        refine ⟨I', m', ?_, ((OnF.ro.up (Or.inr rfl)).up (Or.inl rfl)).to a, b, c, d⟩
        rw [m10', sI_mk, show nI p + (1 : Int32) = nI (p + 1) from nI_pl p 1]; exact e
    · have : (decide (p < L) && dgB (tp p)) = false := by
        by_cases e : p < L
        · rw [decide_eq_true e, Bool.true_and]; exact Bool.not_eq_true _ ▸ (fun w => q ⟨e, w⟩)
        · rw [decide_eq_false e, Bool.false_and]
      rw [this, if_pos (show bWC false = 0 from rfl), runE_e q]
      refine ⟨I, m, rfl, OnF.ro, h10, h13, ?_⟩
      cases L - p with
      | zero => exact hv
      | succ f => rw [valF, if_neg q]; exact hv
theorem ch12 {α : Type} {A B : α} {b : Nat} (hb : b < 256) : (if nI b = (60 : Int32) then A else (if nI b = (62 : Int32) then A else (if nI b = (61 : Int32) then A else (if nI b = (35 : Int32) then A else (if nI b = (43 : Int32) then A else (if nI b = (45 : Int32) then A else (if nI b = (42 : Int32) then A else (if nI b = (47 : Int32) then A else (if nI b = (40 : Int32) then A else (if nI b = (41 : Int32) then A else (if nI b = (59 : Int32) then A else (if nI b = (44 : Int32) then A else B)))))))))))) = if sgX b = 40 then B else A := by
  have h := (sg_ok b hb).2.2.2
  by_cases e60 : b = 60
  · rw [if_pos (show nI b = (60 : Int32) by rw [e60]; rfl), if_neg (fun w => (h.mp w) (by omega))]
  rw [if_neg (show ¬ nI b = (60 : Int32) from fun w => e60 ((nI_inj (by omega) (by omega)).mp (show nI b = nI 60 from w)))]
  by_cases e62 : b = 62
  · rw [if_pos (show nI b = (62 : Int32) by rw [e62]; rfl), if_neg (fun w => (h.mp w) (by omega))]
  rw [if_neg (show ¬ nI b = (62 : Int32) from fun w => e62 ((nI_inj (by omega) (by omega)).mp (show nI b = nI 62 from w)))]
  by_cases e61 : b = 61
  · rw [if_pos (show nI b = (61 : Int32) by rw [e61]; rfl), if_neg (fun w => (h.mp w) (by omega))]
  rw [if_neg (show ¬ nI b = (61 : Int32) from fun w => e61 ((nI_inj (by omega) (by omega)).mp (show nI b = nI 61 from w)))]
  by_cases e35 : b = 35
  · rw [if_pos (show nI b = (35 : Int32) by rw [e35]; rfl), if_neg (fun w => (h.mp w) (by omega))]
  rw [if_neg (show ¬ nI b = (35 : Int32) from fun w => e35 ((nI_inj (by omega) (by omega)).mp (show nI b = nI 35 from w)))]
  by_cases e43 : b = 43
  · rw [if_pos (show nI b = (43 : Int32) by rw [e43]; rfl), if_neg (fun w => (h.mp w) (by omega))]
  rw [if_neg (show ¬ nI b = (43 : Int32) from fun w => e43 ((nI_inj (by omega) (by omega)).mp (show nI b = nI 43 from w)))]
  by_cases e45 : b = 45
  · rw [if_pos (show nI b = (45 : Int32) by rw [e45]; rfl), if_neg (fun w => (h.mp w) (by omega))]
  rw [if_neg (show ¬ nI b = (45 : Int32) from fun w => e45 ((nI_inj (by omega) (by omega)).mp (show nI b = nI 45 from w)))]
  by_cases e42 : b = 42
  · rw [if_pos (show nI b = (42 : Int32) by rw [e42]; rfl), if_neg (fun w => (h.mp w) (by omega))]
  rw [if_neg (show ¬ nI b = (42 : Int32) from fun w => e42 ((nI_inj (by omega) (by omega)).mp (show nI b = nI 42 from w)))]
  by_cases e47 : b = 47
  · rw [if_pos (show nI b = (47 : Int32) by rw [e47]; rfl), if_neg (fun w => (h.mp w) (by omega))]
  rw [if_neg (show ¬ nI b = (47 : Int32) from fun w => e47 ((nI_inj (by omega) (by omega)).mp (show nI b = nI 47 from w)))]
  by_cases e40 : b = 40
  · rw [if_pos (show nI b = (40 : Int32) by rw [e40]; rfl), if_neg (fun w => (h.mp w) (by omega))]
  rw [if_neg (show ¬ nI b = (40 : Int32) from fun w => e40 ((nI_inj (by omega) (by omega)).mp (show nI b = nI 40 from w)))]
  by_cases e41 : b = 41
  · rw [if_pos (show nI b = (41 : Int32) by rw [e41]; rfl), if_neg (fun w => (h.mp w) (by omega))]
  rw [if_neg (show ¬ nI b = (41 : Int32) from fun w => e41 ((nI_inj (by omega) (by omega)).mp (show nI b = nI 41 from w)))]
  by_cases e59 : b = 59
  · rw [if_pos (show nI b = (59 : Int32) by rw [e59]; rfl), if_neg (fun w => (h.mp w) (by omega))]
  rw [if_neg (show ¬ nI b = (59 : Int32) from fun w => e59 ((nI_inj (by omega) (by omega)).mp (show nI b = nI 59 from w)))]
  by_cases e44 : b = 44
  · rw [if_pos (show nI b = (44 : Int32) by rw [e44]; rfl), if_neg (fun w => (h.mp w) (by omega))]
  rw [if_neg (show ¬ nI b = (44 : Int32) from fun w => e44 ((nI_inj (by omega) (by omega)).mp (show nI b = nI 44 from w)))]
  rw [if_pos (h.mpr (by omega))]
end RL
