/-! THE REFERENCE'S FIELDS: findFields -/
theorem up2_upr {α : Type} (f : Nat → Nat → α) (a k : Nat) (g : Nat → α) (v : α) : up2 (upr f a g) a k v = upr f a (ur g k v) := by
  funext b j
  simp only [up2, upr, ur]
  split <;> rfl
/-- the reference's numbers: W, H, cells, and where the row in use begins -/
def ModR (z W H B : Nat) (I : Nat → Nat → Int32) : Prop := I (z + 83) 1 = nI W ∧ I (z + 83) 2 = nI H ∧ I (z + 83) 3 = nI (W * H) ∧ I (z + 83) 4 = nI B
def dims (W H : Nat) : Prop := 3 ≤ W ∧ W ≤ 8 ∧ 3 ≤ H ∧ H ≤ 6
theorem dims.C {W H : Nat} (h : dims W H) : W * H ≤ 48 := WH h.2.1 h.2.2.2
theorem ModR.upr {z W H B : Nat} {I : Nat → Nat → Int32} (h : ModR z W H B I) {a : Nat} (ha : a ≠ z + 83) {g : Nat → Int32} : ModR z W H B (upr I a g) := by
  unfold ModR
  rw [upr_ne (Ne.symm ha)]; exact h
/-- the sum of the labels -/
def wt (g : Nat → Int32) : Nat → Nat
  | 0 => 0
  | k + 1 => wt g k + (g k).toNatClampNeg
theorem wt_le {g h : Nat → Int32} : ∀ k, (∀ i, i < k → (g i).toNatClampNeg ≤ (h i).toNatClampNeg) → wt g k ≤ wt h k
  | 0, _ => Nat.le_refl _
  | k + 1, q => by
    have := wt_le k (fun i hi => q i (by omega))
    have := q k (by omega)
    rw [wt, wt]; omega
theorem wt_lt {g : Nat → Int32} {c : Nat} {v : Int32} (hv : v.toNatClampNeg < (g c).toNatClampNeg) : ∀ k, c < k → wt (ur g c v) k < wt g k
  | 0, h => by omega
  | k + 1, h => by
    rw [wt, wt]
    by_cases hck : c = k
    · subst hck
      have := wt_le (g := ur g c v) (h := g) c (fun i hi => by rw [ur_ne _ _ (by omega)]; exact Nat.le_refl _)
      rw [ur_at]; omega
    · have := wt_lt hv k (by omega)
      rw [ur_ne _ _ (by omega)]; omega
theorem wt_bd {g : Nat → Int32} {m : Nat} : ∀ k, (∀ i, i < k → (g i).toNatClampNeg ≤ m) → wt g k ≤ k * m
  | 0, _ => by rw [wt]; omega
  | k + 1, q => by
    have := wt_bd k (fun i hi => q i (by omega))
    have := q k (by omega)
    rw [wt, Nat.succ_mul]; omega
/-- the labels while they are found -/
def LabI (W C : Nat) (F : Nat → Prop) (g : Nat → Int32) : Prop := ∀ c, c < C → (F c → ∃ m, g c = nI m ∧ Rch W F c m ∧ m ≤ c) ∧ (¬ F c → g c = -1)
/-- the labels, found: the lowest cell of what hangs together -/
def LabR (W C : Nat) (F : Nat → Prop) (g : Nat → Int32) : Prop := ∀ c, c < C → (F c → ∃ m, g c = nI m ∧ Rch W F c m ∧ ∀ d, Rch W F c d → m ≤ d) ∧ (¬ F c → g c = -1)
/-- no neighbour of c has a lower label -/
def LabC (W H : Nat) (F : Nat → Prop) (g : Nat → Int32) (s c : Nat) : Prop := F c → ∀ r, s ≤ r → r < 4 → ∀ d, stp W H c (sdx r) (sdy r) = some d → F d → ¬ g d < g c
theorem cl_m1 : (-1 : Int32).toNatClampNeg = 0 := by decide
section FF
variable {n z C t W H B : Nat} {I : Nat → Nat → Int32} {J : Nat → Nat → Int64} {u : Option Nat}
theorem s_sideOf {c s : Nat} (hD : dims W H) (hM : ModR z W H B I) (hc : c < W * H) (hs : s < 4) : f_X11_sideOf n (z + 83) (nI c) (nI s) (mk z C I J t u) = some (oI (stp W H c (sdx s) (sdy s)), mk z C I J t u) := by
  obtain ⟨d1, d2, d3, d4⟩ := hD
  obtain ⟨m1, m2, m3, m4⟩ := hM
  have k : ∀ dx dy : Int32, st1 dx → st1 dy → f_X11_stepTo n (z + 83) (nI c) dx dy (mk z C I J t u) = some (oI (stp W H c dx.toInt dy.toInt), mk z C I J t u) := fun dx dy hx hy => s_stepTo d1 d2 d4 m1 m2 hc hx hy
  unfold f_X11_sideOf
  simp only [jn]
  rcases (show s = 0 ∨ s = 1 ∨ s = 2 ∨ s = 3 by omega) with rfl | rfl | rfl | rfl
  · rw [if_neg (by decide), if_neg (by decide), if_neg (by decide), if_pos (by decide), k _ _ (Or.inr (Or.inl rfl)) (Or.inl rfl), cl_some]; rfl
  · rw [if_pos (by decide), if_neg (by decide), if_neg (by decide), k _ _ (Or.inr (Or.inr rfl)) (Or.inr (Or.inl rfl)), cl_some]; rfl
  · rw [if_neg (by decide), if_neg (by decide), if_pos (by decide), k _ _ (Or.inr (Or.inl rfl)) (Or.inr (Or.inr rfl)), cl_some]; rfl
  · rw [if_neg (by decide), if_pos (by decide), if_neg (by decide), if_neg (by decide), k _ _ (Or.inl rfl) (Or.inr (Or.inl rfl)), cl_some]; rfl
/-- the free cells of the reference's row from B on -/
def Fr (C B : Nat) (a : Nat → Int32) (c : Nat) : Prop := c < C ∧ a (B + 290 + c) = 0
theorem ff_init (hD : dims W H) (hM : ModR z W H B I) (hB : B ≤ 2380) (hL : ∀ c, c < W * H → I (z + 84) (B + 290 + c) = 0 ∨ ¬ I (z + 84) (B + 290 + c) ≤ 0) (K : MS → Option MS) :
    ∀ (d i k : Nat) (g : Nat → Int32), i + d = W * H → d < k → ∃ g', f_X11_findFields_L2 n (z + 83) K k (nI i) (mk z (W * H) (upr I (z + 93) g) J t u) = K (mk z (W * H) (upr I (z + 93) g') J t u) ∧ (∀ c, c < i → g' c = g c) ∧ ∀ c, i ≤ c → c < W * H → (Fr (W * H) B (I (z + 84)) c → g' c = nI c) ∧ (¬ Fr (W * H) B (I (z + 84)) c → g' c = -1) := by
  have hC := hD.C
  have m3 := hM.2.2.1
  have m4 := hM.2.2.2
  intro d
  induction d with
  | zero =>
    intro i k g hi hk
    obtain ⟨k, rfl⟩ : ∃ m, k = m + 1 := ⟨k - 1, by omega⟩
    obtain rfl : i = W * H := by omega
    refine ⟨g, ?_, fun _ _ => rfl, fun c h1 h2 => by omega⟩
    rw [f_X11_findFields_L2]
    simp only [jn]
    rw [mI_mk, upr_ne (by omega), m3, if_pos ((nI_le' (by omega) (by omega)).mpr (Nat.le_refl _))]
  | succ d ih =>
    intro i k g hi hk
    obtain ⟨k, rfl⟩ : ∃ m, k = m + 1 := ⟨k - 1, by omega⟩
    have e1 : nI B + (290 : Int32) + nI i = nI (B + 290 + i) := by rw [show (290 : Int32) = nI 290 from rfl, nI_pl, nI_pl]
    have e2 : nI i + (1 : Int32) = nI (i + 1) := nI_pl i 1
    rw [f_X11_findFields_L2]
    simp only [jn, bd]
    have m3' : mI (mk z (W * H) (upr I (z + 93) g) J t u) (z + 83) 3 = nI (W * H) := by rw [mI_mk, upr_ne (by omega), m3]
    have m4' : mI (mk z (W * H) (upr I (z + 93) g) J t u) (z + 83) 4 = nI B := by rw [mI_mk, upr_ne (by omega), m4]
    rw [m3', m4', if_neg (show ¬ nI (W * H) ≤ nI i by rw [nI_le' (by omega) (by omega)]; omega), g83_30, g83_0, n84, n93, e1, ck_t (inb_nI (by omega) (by omega)), ck_t (inb_nI (by omega) (by omega)), cl_nI (by omega), cl_nI (by omega), sI_mk, sI_mk, up2_upr, up2_upr, e2, ck_t (inb_nI (by omega) (by omega))]
    by_cases h0 : I (z + 84) (B + 290 + i) = 0
    · rw [if_pos (show mI (mk z (W * H) (upr I (z + 93) g) J t u) (z + 84) (B + 290 + i) ≤ 0 by rw [mI_mk, upr_ne (by omega), h0]; decide)]
      obtain ⟨g', q1, q2, q3⟩ := ih (i + 1) k (ur g i (nI i)) (by omega) (by omega)
      refine ⟨g', q1, fun c hc => by rw [q2 c (by omega), ur_ne _ _ (by omega)], fun c h1 h2 => ?_⟩
      by_cases hci : c = i
      · subst hci
        rw [q2 c (by omega), ur_at]
        exact ⟨fun _ => rfl, fun w => absurd ⟨h2, h0⟩ w⟩
      · exact q3 c (by omega) h2
    · have h0' := (hL i (by omega)).resolve_left h0
      rw [if_neg (show ¬ mI (mk z (W * H) (upr I (z + 93) g) J t u) (z + 84) (B + 290 + i) ≤ 0 by rw [mI_mk, upr_ne (by omega)]; exact h0')]
      obtain ⟨g', q1, q2, q3⟩ := ih (i + 1) k (ur g i (-1)) (by omega) (by omega)
      refine ⟨g', q1, fun c hc => by rw [q2 c (by omega), ur_ne _ _ (by omega)], fun c h1 h2 => ?_⟩
      by_cases hci : c = i
      · subst hci
        rw [q2 c (by omega), ur_at]
        exact ⟨fun w => absurd w.2 h0, fun _ => rfl⟩
      · exact q3 c (by omega) h2
theorem LabI.lt {F : Nat → Prop} {g : Nat → Int32} (h : LabI W C F g) (hC : C ≤ 48) {c : Nat} (hc : c < C) : (g c < 0 ↔ ¬ F c) ∧ (g c).toNatClampNeg ≤ c := by
  by_cases hF : F c
  · obtain ⟨m, e, -, hm⟩ := (h c hc).1 hF
    rw [e, cl_nI (by omega)]
    exact ⟨⟨fun w => absurd w (nI_pos (by omega)), fun w => absurd hF w⟩, hm⟩
  · rw [(h c hc).2 hF, cl_m1]
    exact ⟨⟨fun _ => hF, fun _ => by decide⟩, Nat.zero_le _⟩
theorem ff_sides (hD : dims W H) (hM : ModR z W H B I) {F : Nat → Prop} (hFC : ∀ c, F c → c < W * H) {c : Nat} (hc : c < W * H) (K : Int32 → MS → Option MS) :
    ∀ (d s k : Nat) (g : Nat → Int32) (f : Int32), s + d = 4 → d < k → LabI W (W * H) F g → ∃ g' f', f_X11_findFields_L65 n (z + 83) (nI c) K k f (nI s) (mk z (W * H) (upr I (z + 93) g) J t u) = K f' (mk z (W * H) (upr I (z + 93) g') J t u) ∧ LabI W (W * H) F g' ∧ ((f' = f ∧ g' = g ∧ LabC W H F g s c) ∨ (f' = 1 ∧ wt g' (W * H) < wt g (W * H))) := by
  have hC := hD.C
  intro d
  induction d with
  | zero =>
    intro s k g f hs hk hI
    obtain ⟨k, rfl⟩ : ∃ m, k = m + 1 := ⟨k - 1, by omega⟩
    obtain rfl : s = 4 := by omega
    refine ⟨g, f, ?_, hI, Or.inl ⟨rfl, rfl, fun _ r h1 h2 => by omega⟩⟩
    rw [f_X11_findFields_L65]
    simp only [jn]
    rw [if_pos (by decide)]
  | succ d ih =>
    intro s k g f hs hk hI
    obtain ⟨k, rfl⟩ : ∃ m, k = m + 1 := ⟨k - 1, by omega⟩
    have e2 : nI s + (1 : Int32) = nI (s + 1) := nI_pl s 1
    have hgc := (hI.lt hC hc)
    rw [f_X11_findFields_L65]
    simp only [jn, bd]
    rw [if_neg (show ¬ (4 : Int32) ≤ nI s by rw [show (4 : Int32) = nI 4 from rfl, nI_le' (by omega) (by omega)]; omega), g83_30, n93, ck_t (inb_nI (by omega) (by omega)), cl_nI (show c < 1000000 by omega), mI_mk, upr_at]
    by_cases hF : F c
    · rw [if_neg (fun w => hgc.1.mp w hF), s_sideOf hD (hM.upr (by omega)) hc (by omega), cl_some, e2]
      cases hst : stp W H c (sdx s) (sdy s) with
      | none =>
        rw [if_pos (show oI none < 0 by decide)]
        obtain ⟨g', f', q1, q2, q3⟩ := ih (s + 1) k g f (by omega) (by omega) hI
        refine ⟨g', f', q1, q2, q3.imp (fun ⟨a1, a2, a3⟩ => ⟨a1, a2, fun w r h1 h2 d hd => ?_⟩) id⟩
        by_cases hrs : r = s
        · subst hrs; rw [hst] at hd; cases hd
        · exact a3 w r (by omega) h2 d hd
      | some d0 =>
        have hd0 := stp_lt hD.1 hD.2.1 hst
        have hgd := (hI.lt hC hd0)
        rw [if_neg (show ¬ oI (some d0) < 0 from nI_pos (by omega)), show oI (some d0) = nI d0 from rfl]
        simp only [g83_30, n93, ck_t (inb_nI (show d0 < 48 by omega) (show 48 < 1000000 by omega)), ck_t (inb_nI (show c < 48 by omega) (show 48 < 1000000 by omega)), cl_nI (show d0 < 1000000 by omega), cl_nI (show c < 1000000 by omega), mI_mk, upr_at, sI_mk, up2_upr]
        by_cases hFd : F d0
        · rw [if_neg (fun w => hgd.1.mp w hFd)]
          by_cases hlt : g d0 < g c
          · rw [if_pos hlt]
            obtain ⟨m, em, hm1, hm2⟩ := (hI c hc).1 hF
            obtain ⟨m', em', hm1', hm2'⟩ := (hI d0 hd0).1 hFd
            have hmm : m' < m := by rw [em, em', nI_lt' (by omega) (by omega)] at hlt; exact hlt
            have hadj : adj W c d0 := ((stp_side hD.1 hD.2.1 hc d0).mp ⟨s, by omega, hst⟩).2
            have hI' : LabI W (W * H) F (ur g c (g d0)) := by
              intro x hx
              by_cases hxc : x = c
              · subst hxc
                rw [ur_at]
                exact ⟨fun _ => ⟨m', em', ((Rch.rf hF).st hFd hadj).tr hm1', by omega⟩, fun w => absurd hF w⟩
              · rw [ur_ne _ _ hxc]; exact hI x hx
            have hw : wt (ur g c (g d0)) (W * H) < wt g (W * H) := wt_lt (by rw [em, em', cl_nI (by omega), cl_nI (by omega)]; exact hmm) _ hc
            obtain ⟨g', f', q1, q2, q3⟩ := ih (s + 1) k (ur g c (g d0)) 1 (by omega) (by omega) hI'
            refine ⟨g', f', q1, q2, Or.inr ?_⟩
            rcases q3 with ⟨a1, a2, -⟩ | ⟨a1, a2⟩
            · exact ⟨a1, by rw [a2]; exact hw⟩
            · exact ⟨a1, by omega⟩
          · rw [if_neg hlt]
            obtain ⟨g', f', q1, q2, q3⟩ := ih (s + 1) k g f (by omega) (by omega) hI
            refine ⟨g', f', q1, q2, q3.imp (fun ⟨a1, a2, a3⟩ => ⟨a1, a2, fun w r h1 h2 d hd hFd2 => ?_⟩) id⟩
            by_cases hrs : r = s
            · subst hrs; rw [hst] at hd; cases hd; exact hlt
            · exact a3 w r (by omega) h2 d hd hFd2
        · rw [if_pos (hgd.1.mpr hFd)]
          obtain ⟨g', f', q1, q2, q3⟩ := ih (s + 1) k g f (by omega) (by omega) hI
          refine ⟨g', f', q1, q2, q3.imp (fun ⟨a1, a2, a3⟩ => ⟨a1, a2, fun w r h1 h2 d hd hFd2 => ?_⟩) id⟩
          by_cases hrs : r = s
          · subst hrs; rw [hst] at hd; cases hd; exact absurd hFd2 hFd
          · exact a3 w r (by omega) h2 d hd hFd2
    · rw [if_pos (hgc.1.mpr hF)]
      exact ⟨g, f, rfl, hI, Or.inl ⟨rfl, rfl, fun w => absurd w hF⟩⟩
theorem ff_cells (hn : 100000 ≤ n) (hD : dims W H) (hM : ModR z W H B I) {F : Nat → Prop} (hFC : ∀ c, F c → c < W * H) (K : Int32 → MS → Option MS) :
    ∀ (d i k : Nat) (g : Nat → Int32) (f : Int32), i + d = W * H → d < k → LabI W (W * H) F g → ∃ g' f', f_X11_findFields_L55 n (z + 83) K k f (nI i) (mk z (W * H) (upr I (z + 93) g) J t u) = K f' (mk z (W * H) (upr I (z + 93) g') J t u) ∧ LabI W (W * H) F g' ∧ ((f' = f ∧ g' = g ∧ ∀ c, i ≤ c → c < W * H → LabC W H F g 0 c) ∨ (f' = 1 ∧ wt g' (W * H) < wt g (W * H))) := by
  have hC := hD.C
  have m3 := hM.2.2.1
  intro d
  induction d with
  | zero =>
    intro i k g f hi hk hI
    obtain ⟨k, rfl⟩ : ∃ m, k = m + 1 := ⟨k - 1, by omega⟩
    obtain rfl : i = W * H := by omega
    refine ⟨g, f, ?_, hI, Or.inl ⟨rfl, rfl, fun c h1 h2 => by omega⟩⟩
    rw [f_X11_findFields_L55]
    simp only [jn]
    rw [mI_mk, upr_ne (by omega), m3, if_pos ((nI_le' (by omega) (by omega)).mpr (Nat.le_refl _))]
  | succ d ih =>
    intro i k g f hi hk hI
    obtain ⟨k, rfl⟩ : ∃ m, k = m + 1 := ⟨k - 1, by omega⟩
    have e2 : nI i + (1 : Int32) = nI (i + 1) := nI_pl i 1
    rw [f_X11_findFields_L55]
    simp only [jn, bd]
    rw [mI_mk, upr_ne (by omega), m3, if_neg (show ¬ nI (W * H) ≤ nI i by rw [nI_le' (by omega) (by omega)]; omega), e2]
    obtain ⟨g1, f1, q1, q2, q3⟩ := ff_sides (n := n) (J := J) (t := t) (u := u) hD hM hFC (c := i) (by omega) (fun x19 S20 => f_X11_findFields_L55 n (z + 83) K k x19 (nI (i + 1)) S20) 4 0 n g f rfl (by omega) hI
    obtain ⟨g2, f2, r1, r2, r3⟩ := ih (i + 1) k g1 f1 (by omega) (by omega) q2
    refine ⟨g2, f2, q1.trans r1, r2, ?_⟩
    rcases q3 with ⟨rfl, rfl, a3⟩ | ⟨rfl, a2⟩
    · refine r3.imp (fun ⟨b1, b2, b3⟩ => ⟨b1, b2, fun c h1 h2 => ?_⟩) id
      by_cases hci : c = i
      · subst hci; exact a3
      · exact b3 c (by omega) h2
    · right
      rcases r3 with ⟨b1, b2, -⟩ | ⟨b1, b2⟩
      · exact ⟨b1, by rw [b2]; exact a2⟩
      · exact ⟨b1, by omega⟩
theorem ff_all (hn : 100000 ≤ n) (hD : dims W H) (hM : ModR z W H B I) {F : Nat → Prop} (hFC : ∀ c, F c → c < W * H) :
    ∀ (k : Nat) (g : Nat → Int32), wt g (W * H) + 2 ≤ k → LabI W (W * H) F g → ∃ g', f_X11_findFields_L47 n (z + 83) k 1 (mk z (W * H) (upr I (z + 93) g) J t u) = some (mk z (W * H) (upr I (z + 93) g') J t u) ∧ LabI W (W * H) F g' ∧ ∀ c, c < W * H → LabC W H F g' 0 c := by
  have hC := hD.C
  intro k
  induction k with
  | zero => intro g h; omega
  | succ k ih =>
    intro g hk hI
    rw [f_X11_findFields_L47]
    simp only [jn]
    rw [if_neg (by decide)]
    obtain ⟨g1, f1, q1, q2, q3⟩ := ff_cells (n := n) (J := J) (t := t) (u := u) hn hD hM hFC (fun x10 S11 => f_X11_findFields_L47 n (z + 83) k x10 S11) (W * H) 0 n g 0 (by omega) (by omega) hI
    rcases q3 with ⟨rfl, rfl, a3⟩ | ⟨rfl, a2⟩
    · refine ⟨g1, q1.trans ?_, q2, fun c hc => a3 c (Nat.zero_le _) hc⟩
      obtain ⟨k, rfl⟩ : ∃ m, k = m + 1 := ⟨k - 1, by omega⟩
      show f_X11_findFields_L47 n (z + 83) (k + 1) 0 _ = _
      rw [f_X11_findFields_L47]
      simp only [jn]
      rw [if_pos trivial]
    · obtain ⟨g2, r1, r2, r3⟩ := ih g1 (by omega) q2
      exact ⟨g2, q1.trans r1, r2, r3⟩
theorem lab_done (hD : dims W H) {F : Nat → Prop} (hFC : ∀ c, F c → c < W * H) {g : Nat → Int32} (hI : LabI W (W * H) F g) (hc : ∀ c, c < W * H → LabC W H F g 0 c) : LabR W (W * H) F g := by
  have hC := hD.C
  have hle : ∀ x y, F x → F y → adj W x y → ¬ g y < g x := by
    intro x y hx hy ha
    obtain ⟨s, hs, e⟩ := (stp_side hD.1 hD.2.1 (hFC x hx) y).mpr ⟨hFC y hy, ha⟩
    exact hc x (hFC x hx) hx s (Nat.zero_le _) hs y e hy
  have heq : ∀ c d, Rch W F c d → g d = g c := by
    intro c d h
    refine (h.2 (fun q => F q ∧ g q = g c) ⟨h.1, rfl⟩ ?_).2
    rintro x y ⟨hx, ex⟩ hy ha
    refine ⟨hy, ?_⟩
    have a1 := hle x y hx hy ha
    have a2 := hle y x hy hx (adj_sm ha)
    rw [i32_lt] at a1 a2
    rw [← ex, i32_eq]; omega
  intro c hcc
  refine ⟨fun hF => ?_, (hI c hcc).2⟩
  obtain ⟨m, em, hm1, hm2⟩ := (hI c hcc).1 hF
  refine ⟨m, em, hm1, fun d hd => ?_⟩
  obtain ⟨m', em', -, hm'⟩ := (hI d (hFC d hd.en)).1 hd.en
  have := heq c d hd
  have hl := hFC d hd.en
  rw [em, em', nI_inj (by omega) (by omega)] at this
  omega
theorem upr_self (I : Nat → Nat → Int32) (a : Nat) : upr I a (I a) = I := by
  funext b j
  simp only [upr]
  split
  · next h => rw [h]
  · rfl
/-- findFields -/
theorem s_findFields (hn : 100000 ≤ n) (hD : dims W H) (hM : ModR z W H B I) (hB : B ≤ 2380) (hL : ∀ c, c < W * H → I (z + 84) (B + 290 + c) = 0 ∨ ¬ I (z + 84) (B + 290 + c) ≤ 0) :
    ∃ g, f_X11_findFields n (z + 83) (mk z (W * H) I J t u) = some (mk z (W * H) (upr I (z + 93) g) J t u) ∧ LabR W (W * H) (Fr (W * H) B (I (z + 84))) g := by
  have hC := hD.C
  have hFC : ∀ c, Fr (W * H) B (I (z + 84)) c → c < W * H := fun c h => h.1
  obtain ⟨g0, e0, -, q0⟩ := ff_init (n := n) (J := J) (t := t) (u := u) hD hM hB hL (fun S3 => f_X11_findFields_L47 n (z + 83) n (1 : Int32) S3) (W * H) 0 n (I (z + 93)) (by omega) (by omega)
  have hI : LabI W (W * H) (Fr (W * H) B (I (z + 84))) g0 := fun c hc => ⟨fun hF => ⟨c, (q0 c (Nat.zero_le _) hc).1 hF, Rch.rf hF, Nat.le_refl _⟩, (q0 c (Nat.zero_le _) hc).2⟩
  have hw := wt_bd (g := g0) (m := 48) (W * H) (fun i hi => by have := (hI.lt hC hi).2; omega)
  obtain ⟨g, e1, r2, r3⟩ := ff_all (n := n) (J := J) (t := t) (u := u) hn hD hM hFC n g0 (by have : W * H * 48 ≤ 48 * 48 := Nat.mul_le_mul hC (Nat.le_refl _); omega) hI
  refine ⟨g, ?_, lab_done hD hFC r2 r3⟩
  rw [upr_self] at e0
  unfold f_X11_findFields
  simp only [jn]
  exact e0.trans e1
end FF
