/-! THE REFERENCE'S GOES -/
/-- row 84: what may change of the plain from B on; wells, fines and all else stay -/
def Q84 (B : Nat) (a a' : Nat → Int32) : Prop := (∀ j, (j < B ∨ B + 340 ≤ j) → a' j = a j) ∧ (∀ j, plj j = false → a' (B + j) = a (B + j)) ∧ (∀ j, j < 48 → a' (B + 190 + j) = a (B + 190 + j)) ∧ (∀ j, j < 6 → a' (B + 92 + j) = a (B + 92 + j))
theorem Q84.rf (B : Nat) (a : Nat → Int32) : Q84 B a a := ⟨fun _ _ => rfl, fun _ _ => rfl, fun _ _ => rfl, fun _ _ => rfl⟩
theorem Q84.tr {B : Nat} {a a' a2 : Nat → Int32} (h : Q84 B a a') (h2 : Q84 B a' a2) : Q84 B a a2 := ⟨fun j w => (h2.1 j w).trans (h.1 j w), fun j w => (h2.2.1 j w).trans (h.2.1 j w), fun j w => (h2.2.2.1 j w).trans (h.2.2.1 j w), fun j w => (h2.2.2.2 j w).trans (h.2.2.2 j w)⟩
theorem Q84.out {B : Nat} {a a' : Nat → Int32} (h : Q84 B a a') (hB : B = 0 ∨ 340 ≤ B) {j : Nat} (hj : plj j = false) (hj2 : j < 340) : a' j = a j := by
  rcases hB with rfl | hB
  · have := h.2.1 j hj; rwa [Nat.zero_add] at this
  · exact h.1 j (Or.inl (by omega))
/-- what a step of the reference may change -/
def Sg (z B : Nat) (I I' : Nat → Nat → Int32) (J J' : Nat → Nat → Int64) : Prop := (∀ q, q ≠ z + 84 → q ≠ z + 88 → q ≠ z + 90 → I' q = I q) ∧ (∀ q, q ≠ z + 89 → J' q = J q) ∧ Q84 B (I (z + 84)) (I' (z + 84))
theorem Sg.of {z B : Nat} {I I' : Nat → Nat → Int32} {J J' : Nat → Nat → Int64} (h : Sr z I I' J J') : Sg z B I I' J J' := ⟨fun q _ a b => h.1 q a b, h.2, by rw [h.1 (z + 84) (by omega) (by omega)]; exact Q84.rf _ _⟩
theorem Sg.tr {z B : Nat} {I I' I2 : Nat → Nat → Int32} {J J' J2 : Nat → Nat → Int64} (h : Sg z B I I' J J') (h2 : Sg z B I' I2 J' J2) : Sg z B I I2 J J2 := ⟨fun q a b c => (h2.1 q a b c).trans (h.1 q a b c), fun q a => (h2.2.1 q a).trans (h.2.1 q a), h.2.2.tr h2.2.2⟩
theorem Sg.mod {z B W H : Nat} {I I' : Nat → Nat → Int32} {J J' : Nat → Nat → Int64} (h : Sg z B I I' J J') (hM : ModR z W H B I) : ModR z W H B I' := by
  unfold ModR
  rw [h.1 (z + 83) (by omega) (by omega) (by omega)]; exact hM
theorem Sg.law {z B t : Nat} {I I' : Nat → Nat → Int32} {J J' : Nat → Nat → Int64} {L : Option XT} (hB : B = 0 ∨ 340 ≤ B) (h : Sg z B I I' J J') (hL : LawR z t I L) : LawR z t I' L :=
  hL.congr (fun j _ => by rw [h.1 (z + 1) (by omega) (by omega) (by omega)]) (h.2.2.out hB (by decide) (by omega)) (h.1 _ (by omega) (by omega) (by omega)) (fun q hq => h.1 q (by omega) (by omega) (by omega))
/-- the reference's wind -/
def WnR (a : Nat → Int32) (w : Nat) (dx dy : Int32) (str : Nat) : Prop := w < 6 ∧ st1 dx ∧ st1 dy ∧ str < 100 ∧ a (100 + 4 * w) = dx ∧ a (101 + 4 * w) = dy ∧ a (102 + 4 * w) = nI str
theorem plj_w {j : Nat} (h1 : 98 ≤ j) (h2 : j < 190) : plj j = false := by
  cases h : plj j with
  | false => rfl
  | true => have := plj_b h; omega
theorem Sg.wn {z B : Nat} {I I' : Nat → Nat → Int32} {J J' : Nat → Nat → Int64} (hB : B = 0 ∨ 340 ≤ B) (h : Sg z B I I' J J') {w str : Nat} {dx dy : Int32} (hw : WnR (I (z + 84)) w dx dy str) : WnR (I' (z + 84)) w dx dy str := by
  obtain ⟨a1, a2, a3, a4, a5, a6, a7⟩ := hw
  refine ⟨a1, a2, a3, a4, ?_, ?_, ?_⟩
  · rw [h.2.2.out hB (plj_w (by omega) (by omega)) (by omega)]; exact a5
  · rw [h.2.2.out hB (plj_w (by omega) (by omega)) (by omega)]; exact a6
  · rw [h.2.2.out hB (plj_w (by omega) (by omega)) (by omega)]; exact a7
section GR
variable {n z t W H M B : Nat} {I I' : Nat → Nat → Int32} {J J' : Nat → Nat → Int64} {u : Option Nat} {T : TP} {L : Option XT}
theorem goes_L (hn : 100000 ≤ n) (hD : dims W H) (hM' : ModR z W H B I) (hB : B ≤ 2380) (hW : TW (W * H) M T) (hT : RefT z (W * H) B I T) {w str : Nat} {dx dy : Int32} (hw : WnR (I (z + 84)) w dx dy str) (x : Int32) {s : Nat} (hs : s ≤ 9) (K : Int32 → MS → Option (Int32 × MS)) :
    ∀ (d i k c : Nat), i + d = s → d < k → c < W * H → f_X11_goes_L144 n (z + 83) x (nI (100 + 4 * w)) (nI s) (fun x43 S44 => K x43 S44) K k (nI c) (nI i) (mk z (W * H) I J t u) = K (nI (rchT W H T dx.toInt dy.toInt d c)) (mk z (W * H) I J t u) := by
  have hC := hD.C
  obtain ⟨a1, a2, a3, a4, a5, a6, a7⟩ := hw
  intro d
  induction d with
  | zero =>
    intro i k c hi hk hc
    obtain ⟨k, rfl⟩ : ∃ m, k = m + 1 := ⟨k - 1, by omega⟩
    rw [f_X11_goes_L144]
    simp only [jn]
    rw [if_pos (show nI s ≤ nI i by rw [nI_le' (by omega) (by omega)]; omega)]
    rfl
  | succ d ih =>
    intro i k c hi hk hc
    obtain ⟨k, rfl⟩ : ∃ m, k = m + 1 := ⟨k - 1, by omega⟩
    rw [f_X11_goes_L144]
    simp only [jn, bd]
    rw [if_neg (show ¬ nI s ≤ nI i by rw [nI_le' (by omega) (by omega)]; omega), g83_0, n84, ck_t (inb_nI (by omega) (by omega)), g83_0, n84, show nI (100 + 4 * w) + (1 : Int32) = nI (101 + 4 * w) by rw [show (1 : Int32) = nI 1 from rfl, nI_pl]; congr 1; omega, ck_t (inb_nI (by omega) (by omega)), cl_nI (by omega), cl_nI (by omega), mI_mk, mI_mk, a5, a6, s_stepTo hD.1 hD.2.1 hD.2.2.2 hM'.1 hM'.2.1 hc a2 a3, cl_some, show nI i + (1 : Int32) = nI (i + 1) from nI_pl i 1]
    cases e : stp W H c dx.toInt dy.toInt with
    | none =>
      rw [if_pos (show oI none < 0 by decide), rchT_none _ (fun d' w => by rw [e] at w; cases w)]
    | some d' =>
      have hd' := stp_lt hD.1 hD.2.1 e
      rw [show oI (some d') = nI d' from rfl, if_neg (nI_pos (by omega)), s_isFreeT hn hD hM' hB hW hT hd', cl_some]
      by_cases h : opn T d'
      · rw [if_neg (by rw [bD_t h]; decide), rchT_some d e h]
        exact ih (i + 1) k d' (by omega) (by omega) hd'
      · rw [if_pos (by rw [bD_f h]), rchT_none _ (fun d2 w => by rw [e] at w; cases w; exact h)]
theorem rch_still {c : Nat} (s : Nat) (hD : dims W H) (hc : c < W * H) (hb : Bn T c) : rchT W H T 0 0 s c = c := by
  refine rchT_none s (fun d e w => ?_)
  have : d = c := by
    rw [stp_iff] at e
    obtain ⟨-, e⟩ := e
    have h1 := hD.1
    have h2 := hD.2.1
    rcases Wc h1 h2 with rfl | rfl | rfl | rfl | rfl | rfl <;> omega
  subst this
  exact w.1 hb
theorem s_goes (hn : 100000 ≤ n) (hM : M < 100000) (hD : dims W H) (hM' : ModR z W H B I) (hB : B ≤ 2380) (hB0 : B = 0 ∨ 340 ≤ B) (hW : TW (W * H) M T) (hT : RefT z (W * H) B I T) (hL : LawR z t I L) {w str : Nat} {dx dy : Int32} (hw : WnR (I (z + 84)) w dx dy str) {i : Nat} (hi : i < tk T) :
    ∃ I' J', Sg z B I I' J J' ∧
      ((rchT W H T dx.toInt dy.toInt (stpsT W H T L i str) (tc T i) = tc T i ∧ f_X11_goes n (z + 83) (nI i) (nI w) (mk z (W * H) I J t u) = some (0, mk z (W * H) I' J' t u) ∧ RefT z (W * H) B I' T) ∨
       (rchT W H T dx.toInt dy.toInt (stpsT W H T L i str) (tc T i) ≠ tc T i ∧ f_X11_goes n (z + 83) (nI i) (nI w) (mk z (W * H) I J t u) = some (1, mk z (W * H) I' J' t u) ∧ RefT z (W * H) B I' (layT T i (rchT W H T dx.toInt dy.toInt (stpsT W H T L i str) (tc T i))))) := by
  have hC := hD.C
  have h24 := hW.1
  have hci := (hW.2.2.1 i hi).1
  have hbn : Bn T (tc T i) := ⟨i, hi, rfl⟩
  obtain ⟨a1, a2, a3, a4, a5, a6, a7⟩ := id hw
  obtain ⟨I1, J1, e1, hS1, hnm⟩ := s_holdOf (n := n) (J := J) (u := u) hn hM hD hM' hB hW hT hL hi
  have hhb := holdT_bnd hD hW (lawY hL) hi
  unfold bnd at hhb
  have hSg1 : Sg z B I I1 J J1 := Sg.of hS1
  have r84 : I1 (z + 84) = I (z + 84) := hS1.1 _ (by omega) (by omega)
  have hT1 : RefT z (W * H) B I1 T := by unfold RefT; rw [r84]; exact hT
  have hM1 := hSg1.mod hM'
  have hL1 := hSg1.law hB0 hL
  have hw1 : WnR (I1 (z + 84)) w dx dy str := by rw [r84]; exact hw
  have x1 : (100 : Int32) + (4 : Int32) * nI w = nI (100 + 4 * w) := by rw [show (4 : Int32) * nI w = nI (4 * w) from nI_ml 4 w]; exact nI_pl 100 _
  have x2 : nI (100 + 4 * w) + (2 : Int32) = nI (102 + 4 * w) := by rw [show (2 : Int32) = nI 2 from rfl, nI_pl]; congr 1; omega
  have x3 : nI (100 + 4 * w) + (1 : Int32) = nI (101 + 4 * w) := by rw [show (1 : Int32) = nI 1 from rfl, nI_pl]; congr 1; omega
  have h0 : (0 : Int32).toInt = 0 := rfl
  have hsp : nI str - iI (holdT W H T L i) = iI ((str : Int) - holdT W H T L i) := by rw [nI_iI (show str < 1000000 by omega), iI_sub (by omega) (by omega) (by omega) (by omega)]
  have hcl := s_clauseOf (n := n) (C := W * H) (J := J1) (u := u) hn hL1 (s := 1) (by omega)
  -- when it doesn't go
  have stay : rchT W H T dx.toInt dy.toInt (stpsT W H T L i str) (tc T i) = tc T i → f_X11_goes n (z + 83) (nI i) (nI w) (mk z (W * H) I J t u) = some (0, mk z (W * H) I1 J1 t u) → ∃ I' J', Sg z B I I' J J' ∧ ((rchT W H T dx.toInt dy.toInt (stpsT W H T L i str) (tc T i) = tc T i ∧ f_X11_goes n (z + 83) (nI i) (nI w) (mk z (W * H) I J t u) = some (0, mk z (W * H) I' J' t u) ∧ RefT z (W * H) B I' T) ∨ (rchT W H T dx.toInt dy.toInt (stpsT W H T L i str) (tc T i) ≠ tc T i ∧ f_X11_goes n (z + 83) (nI i) (nI w) (mk z (W * H) I J t u) = some (1, mk z (W * H) I' J' t u) ∧ RefT z (W * H) B I' (layT T i (rchT W H T dx.toInt dy.toInt (stpsT W H T L i str) (tc T i))))) := fun w1 w2 => ⟨I1, J1, hSg1, Or.inl ⟨w1, w2, hT1⟩⟩
  -- from far on
  have fin : ∀ (I2 : Nat → Nat → Int32) (J2 : Nat → Nat → Int64), Sr z I1 I2 J1 J2 → ∃ I' J', Sg z B I I' J J' ∧ ∃ r, (cl (f_X11_cellOf n (z + 83) (nI i) (mk z (W * H) I2 J2 t u)) fun x29 S26 => f_X11_goes_L144 n (z + 83) (nI i) (nI (100 + 4 * w)) (nI (stpsT W H T L i str)) (fun (x43 : Int32) (S44 : MS) => cl (f_X11_cellOf n (z + 83) (nI i) S44) fun x37 S34 => (if x43 = x37 then zb (0 : Int32) (some ((0 : Int32), S34)) else cv (f_X11_lay n (z + 83) (nI i) x43 S34) fun S38 => zb (1 : Int32) (some ((1 : Int32), S38)))) (fun (x32 : Int32) (S33 : MS) => cl (f_X11_cellOf n (z + 83) (nI i) S33) fun x37 S34 => (if x32 = x37 then zb (0 : Int32) (some ((0 : Int32), S34)) else cv (f_X11_lay n (z + 83) (nI i) x32 S34) fun S38 => zb (1 : Int32) (some ((1 : Int32), S38)))) n x29 (0 : Int32) S26) = some (r, mk z (W * H) I' J' t u) ∧ ((rchT W H T dx.toInt dy.toInt (stpsT W H T L i str) (tc T i) = tc T i ∧ r = 0 ∧ RefT z (W * H) B I' T) ∨ (rchT W H T dx.toInt dy.toInt (stpsT W H T L i str) (tc T i) ≠ tc T i ∧ r = 1 ∧ RefT z (W * H) B I' (layT T i (rchT W H T dx.toInt dy.toInt (stpsT W H T L i str) (tc T i))))) := by
    intro I2 J2 hS2
    have hSg2 : Sg z B I I2 J J2 := hSg1.tr (Sg.of hS2)
    have r842 : I2 (z + 84) = I (z + 84) := by rw [hS2.1 _ (by omega) (by omega), r84]
    have hT2 : RefT z (W * H) B I2 T := by unfold RefT; rw [r842]; exact hT
    have hM2 := hSg2.mod hM'
    have hs9 : stpsT W H T L i str ≤ 9 := by
      unfold stpsT
      split
      · omega
      · exact c09_le _ _
    have hgl := goes_L (n := n) (J := J2) (t := t) (u := u) hn hD hM2 hB hW hT2 (by rw [r842]; exact hw) (nI i) hs9 (fun (x32 : Int32) (S33 : MS) => cl (f_X11_cellOf n (z + 83) (nI i) S33) fun x37 S34 => (if x32 = x37 then zb (0 : Int32) (some ((0 : Int32), S34)) else cv (f_X11_lay n (z + 83) (nI i) x32 S34) fun S38 => zb (1 : Int32) (some ((1 : Int32), S38)))) (stpsT W H T L i str) 0 n (tc T i) (by omega) (by omega) hci
    rw [s_cellOf hM2 hB hW hT2 hi, cl_some]
    have hgl' := hgl
    rw [show nI 0 = (0 : Int32) from rfl] at hgl'
    rw [hgl', s_cellOf hM2 hB hW hT2 hi, cl_some]
    rcases rchT_or (T := T) (dx := dx.toInt) (dy := dy.toInt) hD.1 hD.2.1 (stpsT W H T L i str) (tc T i) with e | ⟨ho, hlt⟩
    · rw [e, if_pos rfl, zb_0]
      exact ⟨I2, J2, hSg2, 0, rfl, Or.inl ⟨rfl, rfl, hT2⟩⟩
    · have hne : rchT W H T dx.toInt dy.toInt (stpsT W H T L i str) (tc T i) ≠ tc T i := fun e => by rw [e] at ho; exact ho.1 hbn
      obtain ⟨g, eg, hg1, hg2, hg3, hg4, hg5⟩ := s_lay (n := n) (J := J2) (t := t) (u := u) hD hM2 hB hW hT2 hi hlt ho
      rw [if_neg (by rw [nI_inj (by omega) (by omega)]; exact hne), eg, cv_some, zb_1]
      refine ⟨upr I2 (z + 84) g, J2, hSg2.tr ⟨fun q w1 _ _ => upr_ne w1, fun _ _ => rfl, ?_⟩, 1, rfl, Or.inr ⟨hne, rfl, ?_⟩⟩
      · rw [upr_at]; exact ⟨hg2, hg3, hg4, hg5⟩
      · unfold RefT; rw [upr_at]; exact hg1
  have goal : ∀ I2 J2, Sr z I1 I2 J1 J2 → (∀ r I' J', (cl (f_X11_cellOf n (z + 83) (nI i) (mk z (W * H) I2 J2 t u)) fun x29 S26 => f_X11_goes_L144 n (z + 83) (nI i) (nI (100 + 4 * w)) (nI (stpsT W H T L i str)) (fun (x43 : Int32) (S44 : MS) => cl (f_X11_cellOf n (z + 83) (nI i) S44) fun x37 S34 => (if x43 = x37 then zb (0 : Int32) (some ((0 : Int32), S34)) else cv (f_X11_lay n (z + 83) (nI i) x43 S34) fun S38 => zb (1 : Int32) (some ((1 : Int32), S38)))) (fun (x32 : Int32) (S33 : MS) => cl (f_X11_cellOf n (z + 83) (nI i) S33) fun x37 S34 => (if x32 = x37 then zb (0 : Int32) (some ((0 : Int32), S34)) else cv (f_X11_lay n (z + 83) (nI i) x32 S34) fun S38 => zb (1 : Int32) (some ((1 : Int32), S38)))) n x29 (0 : Int32) S26) = some (r, mk z (W * H) I' J' t u) → f_X11_goes n (z + 83) (nI i) (nI w) (mk z (W * H) I J t u) = some (r, mk z (W * H) I' J' t u)) → ∃ I' J', Sg z B I I' J J' ∧ ((rchT W H T dx.toInt dy.toInt (stpsT W H T L i str) (tc T i) = tc T i ∧ f_X11_goes n (z + 83) (nI i) (nI w) (mk z (W * H) I J t u) = some (0, mk z (W * H) I' J' t u) ∧ RefT z (W * H) B I' T) ∨ (rchT W H T dx.toInt dy.toInt (stpsT W H T L i str) (tc T i) ≠ tc T i ∧ f_X11_goes n (z + 83) (nI i) (nI w) (mk z (W * H) I J t u) = some (1, mk z (W * H) I' J' t u) ∧ RefT z (W * H) B I' (layT T i (rchT W H T dx.toInt dy.toInt (stpsT W H T L i str) (tc T i))))) := by
    intro I2 J2 hS2 hk
    obtain ⟨I', J', hSg, r, er, hor⟩ := fin I2 J2 hS2
    have := hk r I' J' er
    refine ⟨I', J', hSg, hor.imp ?_ ?_⟩
    · rintro ⟨w1, rfl, w3⟩; exact ⟨w1, this, w3⟩
    · rintro ⟨w1, rfl, w3⟩; exact ⟨w1, this, w3⟩
  have hgoes : f_X11_goes n (z + 83) (nI i) (nI w) (mk z (W * H) I J t u) = f_X11_goes n (z + 83) (nI i) (nI w) (mk z (W * H) I J t u) := rfl
  by_cases csp : (str : Int) - holdT W H T L i ≤ 0
  · have hst0 : stpsT W H T L i str = 0 := by unfold stpsT; rw [if_pos csp]
    refine stay (by rw [hst0]; rfl) ?_
    unfold f_X11_goes
    simp only [bd]
    rw [x1, x2, g83_0, n84, ck_t (inb_nI (by omega) (by omega)), e1, cl_some, cl_nI (by omega), mI_mk, a7, hsp, if_pos (by rw [i32_le, iI_t (by omega) (by omega), h0]; exact csp), zb_0]
  · have hpos : ¬ iI ((str : Int) - holdT W H T L i) ≤ 0 := by rw [i32_le, iI_t (by omega) (by omega), h0]; exact csp
    have hdx : mI (mk z (W * H) I1 J1 t u) (z + 84) (100 + 4 * w) = dx := by rw [mI_mk]; exact hw1.2.2.2.2.1
    have hdy : mI (mk z (W * H) I1 J1 t u) (z + 84) (101 + 4 * w) = dy := by rw [mI_mk]; exact hw1.2.2.2.2.2.1
    by_cases cst : dx = 0 ∧ dy = 0
    · refine stay (by rw [cst.1, cst.2]; exact rch_still _ hD hci hbn) ?_
      unfold f_X11_goes
      simp only [bd, jn]
      rw [x1, x2, g83_0, n84, ck_t (inb_nI (by omega) (by omega)), e1, cl_some, cl_nI (by omega), mI_mk, a7, hsp, if_neg hpos, g83_0, n84, ck_t (inb_nI (by omega) (by omega)), cl_nI (by omega), if_pos (show mI (mk z (W * H) I1 J1 t u) (z + 84) (100 + 4 * w) = 0 by rw [hdx]; exact cst.1), g83_0, n84, x3, ck_t (inb_nI (by omega) (by omega)), cl_nI (by omega), if_pos (show mI (mk z (W * H) I1 J1 t u) (z + 84) (101 + 4 * w) = 0 by rw [hdy]; exact cst.2), zb_0]
    · -- it may go
      have hstp : stpsT W H T L i str = c09 9 (valL L 1 (nmF W H T i str ((str : Int) - holdT W H T L i)) (1 + ((str : Int) - holdT W H T L i) / 20)) := by unfold stpsT; rw [if_neg csp]
      have head : ∀ Y : Option (Int32 × MS), (∀ Z : Option (Int32 × MS), (if mI (mk z (W * H) I1 J1 t u) (z + 84) (100 + 4 * w) = 0 then (if mI (mk z (W * H) I1 J1 t u) (z + 84) (101 + 4 * w) = 0 then Z else Y) else Y) = Y) := fun Y Z => by
        by_cases c1 : dx = 0
        · rw [if_pos (show mI (mk z (W * H) I1 J1 t u) (z + 84) (100 + 4 * w) = 0 by rw [hdx]; exact c1), if_neg (show ¬ mI (mk z (W * H) I1 J1 t u) (z + 84) (101 + 4 * w) = 0 by rw [hdy]; exact fun w => cst ⟨c1, w⟩)]
        · rw [if_neg (show ¬ mI (mk z (W * H) I1 J1 t u) (z + 84) (100 + 4 * w) = 0 by rw [hdx]; exact c1)]
      have hd20 : (1 : Int32) + iI ((str : Int) - holdT W H T L i) / (20 : Int32) = iI (1 + ((str : Int) - holdT W H T L i) / 20) := by
        rw [iI_d20 (by omega) (by omega), show (1 : Int32) = iI 1 from rfl, iI_add (by omega) (by omega) (by omega) (by omega)]
      have none_far : idL L 1 = none → ∃ I' J', Sg z B I I' J J' ∧ ((rchT W H T dx.toInt dy.toInt (stpsT W H T L i str) (tc T i) = tc T i ∧ f_X11_goes n (z + 83) (nI i) (nI w) (mk z (W * H) I J t u) = some (0, mk z (W * H) I' J' t u) ∧ RefT z (W * H) B I' T) ∨ (rchT W H T dx.toInt dy.toInt (stpsT W H T L i str) (tc T i) ≠ tc T i ∧ f_X11_goes n (z + 83) (nI i) (nI w) (mk z (W * H) I J t u) = some (1, mk z (W * H) I' J' t u) ∧ RefT z (W * H) B I' (layT T i (rchT W H T dx.toInt dy.toInt (stpsT W H T L i str) (tc T i))))) := by
        intro eid
        have hv : valL L 1 (nmF W H T i str ((str : Int) - holdT W H T L i)) (1 + ((str : Int) - holdT W H T L i) / 20) = 1 + ((str : Int) - holdT W H T L i) / 20 := by
          generalize holdT W H T L i = hh
          unfold valL
          cases hL' : L with
          | none => rfl
          | some X =>
            rw [hL'] at eid
            show (match idx X 1 with | none => _ | some c => _) = _
            rw [show idx X 1 = none from eid]
        have hstep : (if iI (1 + ((str : Int) - holdT W H T L i) / 20) ≤ (9 : Int32) then iI (1 + ((str : Int) - holdT W H T L i) / 20) else (9 : Int32)) = nI (stpsT W H T L i str) := by
          rw [hstp, hv, ← mn_C (by omega) (by omega)]
          unfold imin
          have h9 : (9 : Int32).toInt = 9 := rfl
          have ht := iI_t (x := 1 + ((str : Int) - holdT W H T L i) / 20) (by omega) (by omega)
          by_cases c : iI (1 + ((str : Int) - holdT W H T L i) / 20) ≤ 9
          · rw [if_pos c]
            by_cases c2 : iI (1 + ((str : Int) - holdT W H T L i) / 20) < 9
            · rw [if_pos c2]
            · rw [if_neg c2]
              rw [i32_le] at c
              rw [i32_lt] at c2
              rw [i32_eq]; omega
          · rw [if_neg c, if_neg (fun w => c (by rw [i32_lt] at w; rw [i32_le]; omega))]
        refine goal I1 J1 (Sr.rf z I1 J1) (fun r I' J' hk => ?_)
        unfold f_X11_goes
        simp only [bd, jn]
        rw [x1, x2, g83_0, n84, ck_t (inb_nI (by omega) (by omega)), e1, cl_some, cl_nI (show 102 + 4 * w < 1000000 by omega), mI_mk, a7, hsp, if_neg hpos, g83_0, n84, ck_t (inb_nI (by omega) (by omega)), cl_nI (show 100 + 4 * w < 1000000 by omega), g83_0, n84, x3, ck_t (inb_nI (by omega) (by omega)), cl_nI (show 101 + 4 * w < 1000000 by omega), head, dv, if_neg (show ¬ (20 : Int32) = 0 by decide), hd20, show (1 : Int32) = nI 1 from rfl, hcl, cl_some, eid, if_pos (show oI none < 0 by decide)]
        by_cases c : iI (1 + ((str : Int) - holdT W H T L i) / 20) ≤ (9 : Int32)
        · rw [if_pos c] at hstep ⊢
          rw [hstep]; exact hk
        · rw [if_neg c] at hstep ⊢
          rw [hstep]; exact hk
      cases hLc : L with
      | none =>
        subst hLc
        exact none_far rfl
      | some X =>
        rw [← hLc]
        rcases idx_cases X 1 with ⟨e3, hno⟩ | ⟨c, e3, hc, hcs⟩
        · exact none_far (by rw [hLc]; exact e3)
        · rcases id hL1 with ⟨q1, -⟩ | ⟨r, X', tx, q1, hr, htx, hrt, h7, h8, h4, hX, hCx, hR⟩
          · rw [hLc] at q1; cases q1
          · rw [hLc] at q1; cases q1
            have hm := hX.1
            have hid : idL L 1 = some c := by rw [hLc]; exact e3
            have hv : valL L 1 (nmF W H T i str ((str : Int) - holdT W H T L i)) (1 + ((str : Int) - holdT W H T L i) / 20) = valX X (nmF W H T i str ((str : Int) - holdT W H T L i)) c := by
              generalize holdT W H T L i = hh
              unfold valL
              rw [hLc]
              show (match idx X 1 with | none => _ | some c => _) = _
              rw [e3]
            have hnmr : NmR W H T i (I1 (z + 88)) (I1 (z + 88)) := ⟨hnm, fun _ _ => rfl⟩
            obtain ⟨tb, vj, e5, hvj, -⟩ := s_worX (n := n) (C := W * H) (I := upr I1 (z + 88) (ur (ur (I1 (z + 88)) 6 (nI str)) 7 (iI ((str : Int) - holdT W H T L i)))) (J := J1) (t := t) (u := u) hn (show r < 4 by omega) (by rw [upr_ne (by omega)]; exact h4) hX (hR.congr (upr_ne (by omega))) hc hcs (by omega) (nm := nmF W H T i str ((str : Int) - holdT W H T L i)) (fun v hv => ⟨nmF_small hD hW hi a4 (by omega) (by omega) v, by rw [upr_at]; exact nmF_row a4 hnmr v (of1 v hv)⟩)
            have hsm := valX_small hX hc hcs (by omega) (nm := nmF W H T i str ((str : Int) - holdT W H T L i)) (fun v _ => nmF_small hD hW hi a4 (by omega) (by omega) v)
            unfold small at hsm
            refine goal (upr (upr I1 (z + 88) (ur (ur (I1 (z + 88)) 6 (nI str)) 7 (iI ((str : Int) - holdT W H T L i)))) (z + 90) tb) (upr J1 (z + 89) vj) ⟨fun q w1 w2 => by rw [upr_ne w2, upr_ne w1], fun q w => upr_ne w⟩ (fun r' I' J' hk => ?_)
            unfold f_X11_goes
            simp only [bd, jn]
            rw [x1, x2, g83_0, n84, ck_t (inb_nI (by omega) (by omega)), e1, cl_some, cl_nI (show 102 + 4 * w < 1000000 by omega), mI_mk, a7, hsp, if_neg hpos, g83_0, n84, ck_t (inb_nI (by omega) (by omega)), cl_nI (show 100 + 4 * w < 1000000 by omega), g83_0, n84, x3, ck_t (inb_nI (by omega) (by omega)), cl_nI (show 101 + 4 * w < 1000000 by omega), head, dv, if_neg (show ¬ (20 : Int32) = 0 by decide), hd20, show (1 : Int32) = nI 1 from rfl, hcl, cl_some, hid, show oI (some c) = nI c from rfl, if_neg (nI_pos (by omega)), g83_25, g83_0, n84, ck_t (inb_nI (by omega) (by omega)), n88, ck_t (by decide), mI_mk, hw1.2.2.2.2.2.2, sI_mk, g83_25, n88, ck_t (by decide), sI_mk, show (6 : Int32).toNatClampNeg = 6 from rfl, show (7 : Int32).toNatClampNeg = 7 from rfl, up2_upr1 I1, up2_upr, e5, cv_some, g83_26, n89, ck_t (by decide), mJ_mk, upr_at, show (0 : Int32).toNatClampNeg = 0 from rfl, hvj (by omega), show (9 : Int32) = nI 9 from rfl, s_held (by omega) (by omega) (by omega), cl_some, ← hv, ← hstp]
            exact hk
end GR
