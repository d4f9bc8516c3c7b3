/-! A BONE GOES: how far it gets; it is laid there -/
def opn (T : TP) (d : Nat) : Prop := ¬ Bn T d ∧ ∀ f, f < 6 → ts T f ≠ some d
noncomputable def rchT (W H : Nat) (T : TP) (dx dy : Int) : Nat → Nat → Nat
  | 0, c => c
  | s + 1, c => match stp W H c dx dy with
    | none => c
    | some d => if dec (opn T d) = true then rchT W H T dx dy s d else c
theorem rchT_none {W H : Nat} {T : TP} {dx dy : Int} {c : Nat} (s : Nat) (h : ∀ d, stp W H c dx dy = some d → ¬ opn T d) : rchT W H T dx dy s c = c := by
  cases s with
  | zero => rfl
  | succ s =>
    unfold rchT
    cases e : stp W H c dx dy with
    | none => rfl
    | some d =>
      show (if dec (opn T d) = true then _ else _) = _
      rw [if_neg (fun w => h d e (dec_t.mp w))]
theorem rchT_some {W H : Nat} {T : TP} {dx dy : Int} {c d : Nat} (s : Nat) (e : stp W H c dx dy = some d) (h : opn T d) : rchT W H T dx dy (s + 1) c = rchT W H T dx dy s d := by
  rw [rchT]
  rw [e]
  show (if dec (opn T d) = true then _ else _) = _
  rw [if_pos (dec_t.mpr h)]
/-- where it ends it is the start, or an open cell -/
theorem rchT_or {W H : Nat} {T : TP} {dx dy : Int} (h1 : 3 ≤ W) (h2 : W ≤ 8) : ∀ (s c : Nat), rchT W H T dx dy s c = c ∨ (opn T (rchT W H T dx dy s c) ∧ rchT W H T dx dy s c < W * H)
  | 0, c => Or.inl rfl
  | s + 1, c => by
    by_cases h : ∃ d, stp W H c dx dy = some d ∧ opn T d
    · obtain ⟨d, e, ho⟩ := h
      rw [rchT_some s e ho]
      rcases rchT_or (T := T) (dx := dx) (dy := dy) h1 h2 s d with w | w
      · rw [w]; exact Or.inr ⟨ho, stp_lt h1 h2 e⟩
      · exact Or.inr w
    · exact Or.inl (rchT_none _ (fun d e w => h ⟨d, e, w⟩))
def layT (T : TP) (i d : Nat) : TP := (tk T, th T, ur (tc T) i d, tw T, tl T, ts T, ur (tr T) d (-1))
def lieT (T : TP) (i y : Nat) : TP := (tk T, th T, tc T, tw T, ur (tl T) i y, ts T, tr T)
theorem TW.lay {C M : Nat} {T : TP} (h : TW C M T) {i d : Nat} (hi : i < tk T) (hd : d < C) (ho : opn T d) : TW C M (layT T i d) := by
  obtain ⟨t1, t2, t3, t4, t5, t6⟩ := h
  have hne : ∀ j, j < tk T → tc T j ≠ d := fun j hj e => ho.1 ⟨j, hj, e⟩
  refine ⟨t1, t2, fun j hj => ?_, fun j k hj hk e => ?_, fun f hf c e => ?_, fun c hc => ?_⟩
  · show ur (tc T) i d j < C ∧ _
    by_cases hji : j = i
    · subst hji; rw [ur_at]; exact ⟨hd, (t3 j hj).2⟩
    · rw [ur_ne _ _ hji]; exact t3 j hj
  · have e : ur (tc T) i d j = ur (tc T) i d k := e
    by_cases hji : j = i
    · by_cases hki : k = i
      · rw [hji, hki]
      · rw [hji, ur_at, ur_ne _ _ hki] at e; exact absurd e.symm (hne k hk)
    · by_cases hki : k = i
      · rw [hki, ur_at, ur_ne _ _ hji] at e; exact absurd e (hne j hj)
      · rw [ur_ne _ _ hji, ur_ne _ _ hki] at e; exact t4 j k hj hk e
  · have hF := t5 f hf c e
    refine ⟨hF.1, ?_⟩
    rintro ⟨j, hj, ej⟩
    have ej : ur (tc T) i d j = c := ej
    by_cases hji : j = i
    · rw [hji, ur_at] at ej
      subst ej
      exact ho.2 f hf e
    · rw [ur_ne _ _ hji] at ej
      exact hF.2 ⟨j, hj, ej⟩
  · show ur (tr T) d (-1) c = -1 ∨ ∃ g, g ≤ th T ∧ ur (tr T) d (-1) c = nI g
    by_cases hcd : c = d
    · subst hcd; rw [ur_at]; exact Or.inl rfl
    · rw [ur_ne _ _ hcd]; exact t6 c hc
theorem TW.lie {C M : Nat} {T : TP} (h : TW C M T) {i y : Nat} (hy : y ≤ 99) : TW C M (lieT T i y) := by
  obtain ⟨t1, t2, t3, t4, t5, t6⟩ := h
  refine ⟨t1, t2, fun j hj => ?_, t4, t5, t6⟩
  obtain ⟨a1, a2, a3, a4⟩ := t3 j hj
  refine ⟨a1, a2, a3, ?_⟩
  show ur (tl T) i y j ≤ 99
  by_cases hji : j = i
  · subst hji; rw [ur_at]; exact hy
  · rw [ur_ne _ _ hji]; exact a4
theorem Bn_lay {T : TP} {i d : Nat} (hi : i < tk T) (hinj : ∀ a b, a < tk T → b < tk T → tc T a = tc T b → a = b) (c : Nat) : Bn (layT T i d) c ↔ (Bn T c ∧ c ≠ tc T i) ∨ c = d := by
  constructor
  · rintro ⟨j, hj, e⟩
    have hj : j < tk T := hj
    have e : ur (tc T) i d j = c := e
    by_cases hji : j = i
    · rw [hji, ur_at] at e; exact Or.inr e.symm
    · rw [ur_ne _ _ hji] at e
      exact Or.inl ⟨⟨j, hj, e⟩, fun w => hji (hinj j i hj hi (by rw [e, w]))⟩
  · rintro (⟨⟨j, hj, e⟩, hne⟩ | e)
    · refine ⟨j, hj, ?_⟩
      show ur (tc T) i d j = c
      rw [ur_ne _ _ (fun w => hne (by rw [← e, w]))]; exact e
    · refine ⟨i, hi, ?_⟩
      show ur (tc T) i d i = c
      rw [ur_at, e]
section GO
variable {n z t W H M B o C : Nat} {I I' : Nat → Nat → Int32} {J J' : Nat → Nat → Int64} {u : Option Nat} {T : TP} {L : Option XT}
theorem ClsT.keep (h : ClsT z C o I J T) (hr : ∀ i, i ≤ 6 → I' (z + (o + i)) = I (z + (o + i))) (hj : J' (z + o) = J (z + o)) : ClsT z C o I' J' T := by
  unfold ClsT at h ⊢
  rw [show I' (z + o) = I (z + o) from hr 0 (by omega), hr 1 (by omega), hr 2 (by omega), hr 3 (by omega), hr 4 (by omega), hr 6 (by omega), hj]
  exact h
theorem s_isOpenT (hD : dims W H) (hG2 : I (z + 30) 2 = nI (W * H)) (ho : isP o) (hT : ClsT z (W * H) o I J T) {x : Option Nat} (hx : ∀ d, x = some d → d < W * H) : f_X3_isOpen n (z + o) (oI x) (mk z (W * H) I J t u) = some (bD (∃ d, x = some d ∧ opn T d), mk z (W * H) I J t u) := by
  have hC := hD.C
  rcases s_isOpen (n := n) (t := t) (u := u) (J := J) ho hG2 hC (oI x) with ⟨q1, q2⟩ | ⟨c, hc, e, q⟩
  · rw [q2, bD_f]
    rintro ⟨d, rfl, -⟩
    have := hx d rfl
    exact q1 ⟨nI_pos (by omega), fun w => by
      have w : nI (W * H) ≤ nI d := w
      rw [nI_le' (by omega) (by omega)] at w; omega⟩
  · have hxc : x = some c := (oI_some (fun d e => by have := hx d e; omega) (by omega)).mp e
    rw [q, bD_I]
    congr 2
    refine bD_congr ⟨fun ⟨h1, h2⟩ => ⟨c, hxc, (fun w => by rw [(hT.2.2.2.2.2.1 c).mpr w] at h1; cases h1), (fun f hf w => by rw [(hT.2.2.2.2.2.2 c).mpr ⟨f, hf, w⟩] at h2; cases h2)⟩, ?_⟩
    rintro ⟨d, ed, h1, h2⟩
    rw [hxc] at ed; cases ed
    constructor
    · cases hb : bt (J (z + o) 10) c with
      | false => rfl
      | true => exact absurd ((hT.2.2.2.2.2.1 c).mp hb) h1
    · cases hb : bt (J (z + o) 11) c with
      | false => rfl
      | true =>
        obtain ⟨f, hf, w⟩ := (hT.2.2.2.2.2.2 c).mp hb
        exact absurd w (h2 f hf)
theorem reached_L (hD : dims W H) (hG : GeoR W H (I (z + 30)) (J (z + 30)) (J (z + 31))) (ho : isP o) (hT : ClsT z (W * H) o I J T) {dx dy : Int32} (hx : st1 dx) (hy : st1 dy) {s : Nat} (hs : s ≤ 9) : ∀ (d i k c : Nat), i + d = s → d < k → c < W * H → f_X9_reached_L6 n (z + o) (nI s) dx dy k (nI c) (nI i) (mk z (W * H) I J t u) = some (nI (rchT W H T dx.toInt dy.toInt d c), mk z (W * H) I J t u) := by
  have hC := hD.C
  intro d
  induction d with
  | zero =>
    intro i k c hi hk hc
    obtain ⟨k, rfl⟩ : ∃ m, k = m + 1 := ⟨k - 1, by omega⟩
    rw [f_X9_reached_L6]
    simp only [jn]
    rw [if_pos (show nI s ≤ nI i by rw [nI_le' (by omega) (by omega)]; omega)]
    rfl
  | succ d ih =>
    intro i k c hi hk hc
    obtain ⟨k, rfl⟩ : ∃ m, k = m + 1 := ⟨k - 1, by omega⟩
    rw [f_X9_reached_L6]
    simp only [jn, bd]
    rw [if_neg (show ¬ nI s ≤ nI i by rw [nI_le' (by omega) (by omega)]; omega), gP_0 ho, s_cellBeside hD.1 hD.2.1 hD.2.2.2 hG.1 hG.2.1 hc hx hy, cl_some, s_isOpenT hD hG.2.2.1 ho hT (fun d e => stp_lt hD.1 hD.2.1 e), cl_some, show nI i + (1 : Int32) = nI (i + 1) from nI_pl i 1]
    by_cases h : ∃ d', stp W H c dx.toInt dy.toInt = some d' ∧ opn T d'
    · rw [if_neg (by rw [bD_t h]; decide)]
      obtain ⟨d', e, hop⟩ := h
      rw [e, rchT_some d e hop]
      exact ih (i + 1) k d' (by omega) (by omega) (stp_lt hD.1 hD.2.1 e)
    · rw [if_pos (by rw [bD_f h]), rchT_none _ (fun d' e w => h ⟨d', e, w⟩)]
/-- the class lays a bone -/
theorem s_shift (hD : dims W H) (ho : isP o) (hW : TW (W * H) M T) (hT : ClsT z (W * H) o I J T) {i d : Nat} (hi : i < tk T) (hd : d < W * H) (hop : opn T d) :
    ∃ I' J', f_X3_shift n (z + o) (nI i) (nI d) (mk z (W * H) I J t u) = some (mk z (W * H) I' J' t u) ∧ ClsT z (W * H) o I' J' (lieT (layT T i d) i 0) ∧ (∀ q, q ≠ z + (o + 1) → q ≠ z + (o + 3) → q ≠ z + (o + 6) → I' q = I q) ∧ (∀ q, q ≠ z + o → J' q = J q) ∧ J' (z + o) 9 = J (z + o) 9 := by
  have hC := hD.C
  have h24 := hW.1
  have hci := (hW.2.2.1 i hi).1
  obtain ⟨a1, a2, a3, a4, a5, a6, a7⟩ := id hT
  have hce := (a3 i hi).1
  refine ⟨up2 (up2 (up2 I (z + (o + 1)) i (nI d)) (z + (o + 3)) i 0) (z + (o + 6)) d (-1), up2 J (z + o) 10 ((J (z + o) 10 &&& (lsh 1 (nI (tc T i)) ^^^ (-1))) ||| lsh 1 (nI d)), ?_, ?_, fun q w1 w2 w3 => by rw [up2_ne w3, up2_ne w2, up2_ne w1], fun q w => up2_ne w, by rw [up2_at, if_neg (by omega)]⟩
  · unfold f_X3_shift
    simp only [bd, gP_1 ho, gP_3 ho, gP_6 ho, nP_1 ho, nP_3 ho, nP_6 ho, ck_t (inb_nI (show i < 24 by omega) (show 24 < 1000000 by omega)), ck_t (inb_nI hd (show W * H < 1000000 by omega)), cl_nI (show i < 1000000 by omega), cl_nI (show d < 1000000 by omega), sI_mk, sJ_mk, mI_mk, mJ_mk, hce]
  · have r1 : ∀ I2 : Nat → Nat → Int32, I2 = up2 (up2 (up2 I (z + (o + 1)) i (nI d)) (z + (o + 3)) i 0) (z + (o + 6)) d (-1) → I2 (z + o) = I (z + o) ∧ I2 (z + (o + 1)) = ur (I (z + (o + 1))) i (nI d) ∧ I2 (z + (o + 2)) = I (z + (o + 2)) ∧ I2 (z + (o + 3)) = ur (I (z + (o + 3))) i 0 ∧ I2 (z + (o + 4)) = I (z + (o + 4)) ∧ I2 (z + (o + 6)) = ur (I (z + (o + 6))) d (-1) := by
      intro I2 e
      subst e
      refine ⟨by rw [up2_ne (by omega), up2_ne (by omega), up2_ne (by omega)], by rw [up2_ne (by omega), up2_ne (by omega), up2_r], by rw [up2_ne (by omega), up2_ne (by omega), up2_ne (by omega)], by rw [up2_ne (by omega), up2_r, up2_ne (by omega)], by rw [up2_ne (by omega), up2_ne (by omega), up2_ne (by omega)], by rw [up2_r, up2_ne (by omega), up2_ne (by omega)]⟩
    obtain ⟨k0, k1, k2, k3, k4, k6⟩ := r1 _ rfl
    unfold ClsT
    rw [k0, k1, k2, k3, k4, k6, up2_r]
    refine ⟨a1, a2, fun j hj => ?_, a4, fun c hc => ?_, fun c => ?_, fun c => ?_⟩
    · obtain ⟨b1, b2, b3⟩ := a3 j hj
      show ur (I (z + (o + 1))) i (nI d) j = nI (ur (tc T) i d j) ∧ _ ∧ ur (I (z + (o + 3))) i 0 j = nI (ur (tl T) i 0 j)
      by_cases hji : j = i
      · subst hji; rw [ur_at, ur_at, ur_at, ur_at]; exact ⟨rfl, b2, rfl⟩
      · rw [ur_ne _ _ hji, ur_ne _ _ hji, ur_ne _ _ hji, ur_ne _ _ hji]; exact ⟨b1, b2, b3⟩
    · show ur (I (z + (o + 6))) d (-1) c = ur (tr T) d (-1) c
      by_cases hcd : c = d
      · subst hcd; rw [ur_at, ur_at]
      · rw [ur_ne _ _ hcd, ur_ne _ _ hcd]; exact a5 c hc
    · rw [ur_at, bt_or, Bool.or_eq_true, bt_and, Bool.and_eq_true, bt_lsh (by omega), decide_eq_true_eq, a6 c]
      show _ ↔ Bn (layT T i d) c
      rw [Bn_lay hi hW.2.2.2.1 c]
      refine or_congr ?_ Iff.rfl
      by_cases h64 : c < 64
      · rw [bt_not _ h64, bt_lsh (by omega)]
        simp
      · constructor
        · rintro ⟨⟨j, hj, e⟩, -⟩
          have := (hW.2.2.1 j hj).1
          omega
        · rintro ⟨⟨j, hj, e⟩, -⟩
          have := (hW.2.2.1 j hj).1
          omega
    · rw [ur_ne _ _ (by omega)]; exact a7 c
theorem stakedB (hM' : ModR z W H B I) (hB : B ≤ 2380) (hT : RefT z C B I T) {a : Nat} (ha : a < 1000) (hsl : ∀ f, f < 6 → ∀ c, ts T f = some c → c < 1000) : ∀ (d f k : Nat), f + d = 6 → d < k → f_X11_isStaked_L2 n (z + 83) (nI a) k (nI f) (mk z C I J t u) = some (bD (∃ g, f ≤ g ∧ g < 6 ∧ ts T g = some a), mk z C I J t u) := by
  intro d
  induction d with
  | zero =>
    intro f k hf hk
    obtain ⟨k, rfl⟩ : ∃ m, k = m + 1 := ⟨k - 1, by omega⟩
    obtain rfl : f = 6 := by omega
    rw [f_X11_isStaked_L2]
    simp only [jn, zb_0]
    rw [if_pos (by decide), bD_f (fun ⟨g, h1, h2, _⟩ => by omega)]
  | succ d ih =>
    intro f k hf hk
    obtain ⟨k, rfl⟩ : ∃ m, k = m + 1 := ⟨k - 1, by omega⟩
    have hst := hT.stk (f := f) (by omega)
    have hi2 := ih (f + 1) k (by omega) (by omega)
    rw [f_X11_isStaked_L2]
    simp only [jn, bd]
    rw [if_neg (show ¬ (6 : Int32) ≤ nI f by rw [show (6 : Int32) = nI 6 from rfl, nI_le' (by omega) (by omega)]; omega), g83_0, n84, mI_mk, hM'.2.2.2, show nI B + (85 : Int32) = nI (B + 85) from nI_pl B 85, nI_pl, ck_t (inb_nI (by omega) (by omega)), cl_nI (by omega), show nI f + (1 : Int32) = nI (f + 1) from nI_pl f 1]
    by_cases h : ts T f = some a
    · rw [if_pos (show mI (mk z C I J t u) (z + 84) (B + 85 + f) = nI a by rw [mI_mk, hst, h]; rfl), zb_1, bD_t ⟨f, Nat.le_refl _, by omega, h⟩]
    · rw [if_neg (show ¬ mI (mk z C I J t u) (z + 84) (B + 85 + f) = nI a from fun w => by
        rw [mI_mk, hst] at w
        exact h ((oI_some (fun c e => by have := hsl f (by omega) c e; omega) (by omega)).mp w)), hi2]
      congr 2
      refine bD_congr ⟨fun ⟨g, h1, h2, h3⟩ => ⟨g, by omega, h2, h3⟩, fun ⟨g, h1, h2, h3⟩ => ⟨g, ?_, h2, h3⟩⟩
      by_cases hgf : g = f
      · subst hgf; exact absurd h3 h
      · omega
theorem s_isFreeT (hn : 100000 ≤ n) (hD : dims W H) (hM' : ModR z W H B I) (hB : B ≤ 2380) (hW : TW (W * H) M T) (hT : RefT z (W * H) B I T) {d : Nat} (hd : d < W * H) : f_X11_isFree n (z + 83) (nI d) (mk z (W * H) I J t u) = some (bD (opn T d), mk z (W * H) I J t u) := by
  have hC := hD.C
  unfold f_X11_isFree
  rw [g83_0, n84, mI_mk, hM'.2.2.2, show nI B + (290 : Int32) = nI (B + 290) from nI_pl B 290, nI_pl, ck_t (inb_nI (by omega) (by omega)), cl_nI (by omega)]
  rcases hT.lai hC hW hd with ⟨h1, h2⟩ | ⟨h1, h2⟩
  · rw [if_neg (show ¬ mI (mk z (W * H) I J t u) (z + 84) (B + 290 + d) = 0 from fun w => h2 (by
      have w : I (z + 84) (B + 290 + d) = 0 := w
      rw [w]; decide)), zb_0, bD_f (fun w => w.1 h1)]
  · have hs := stakedB (n := n) (J := J) (t := t) (u := u) hM' hB hT (a := d) (by omega) (fun f hf c e => by have := (hW.2.2.2.2.1 f hf c e).1; omega) 6 0 n rfl (by omega)
    rw [if_pos (show mI (mk z (W * H) I J t u) (z + 84) (B + 290 + d) = 0 from h2)]
    unfold f_X11_isStaked
    rw [show (0 : Int32) = nI 0 from rfl, hs, cl_some]
    by_cases h : ∃ g, 0 ≤ g ∧ g < 6 ∧ ts T g = some d
    · rw [bD_t h, if_neg (by decide), show nI 0 = (0 : Int32) from rfl, zb_0, bD_f]
      obtain ⟨g, -, hg, e⟩ := h
      exact fun w => w.2 g hg e
    · rw [bD_f h, if_pos (by rfl), zb_1, bD_t ⟨h1, fun f hf e => h ⟨f, Nat.zero_le _, hf, e⟩⟩]
/-- the reference lays a bone -/
theorem s_lay (hD : dims W H) (hM' : ModR z W H B I) (hB : B ≤ 2380) (hW : TW (W * H) M T) (hT : RefT z (W * H) B I T) {i d : Nat} (hi : i < tk T) (hd : d < W * H) (hop : opn T d) :
    ∃ g, f_X11_lay n (z + 83) (nI i) (nI d) (mk z (W * H) I J t u) = some (mk z (W * H) (upr I (z + 84) g) J t u) ∧ RefR (W * H) (pa g B) (layT T i d) ∧ (∀ j, (j < B ∨ B + 340 ≤ j) → g j = I (z + 84) j) ∧ (∀ j, plj j = false → g (B + j) = I (z + 84) (B + j)) ∧ (∀ j, j < 48 → g (B + 190 + j) = I (z + 84) (B + 190 + j)) ∧ (∀ j, j < 6 → g (B + 92 + j) = I (z + 84) (B + 92 + j)) := by
  have hC := hD.C
  have h24 := hW.1
  have hci := (hW.2.2.1 i hi).1
  have hne : tc T i ≠ d := fun e => hop.1 ⟨i, hi, e⟩
  refine ⟨ur (ur (ur (ur (I (z + 84)) (B + 290 + tc T i) 0) (B + 10 + 3 * i) (nI d)) (B + 290 + d) (nI (i + 1))) (B + 240 + d) (-1), ?_, ?_, ?_, ?_, ?_, ?_⟩
  · unfold f_X11_lay
    have m4 : mI (mk z (W * H) I J t u) (z + 83) 4 = nI B := hM'.2.2.2
    rw [g83_0, s_cellOf hM' hB hW hT hi, cl_some, m4, show nI B + (290 : Int32) = nI (B + 290) from nI_pl B 290, nI_pl, n84, ck_t (inb_nI (by omega) (by omega)), cl_nI (by omega)]
    have x1 : nI B + (10 : Int32) + (3 : Int32) * nI i = nI (B + 10 + 3 * i) := by
      rw [show nI B + (10 : Int32) = nI (B + 10) from nI_pl B 10, show (3 : Int32) * nI i = nI (3 * i) from nI_ml 3 i, nI_pl]
    have x2 : nI B + (290 : Int32) + nI d = nI (B + 290 + d) := by rw [show nI B + (290 : Int32) = nI (B + 290) from nI_pl B 290, nI_pl]
    have x3 : nI B + (240 : Int32) + nI d = nI (B + 240 + d) := by rw [show nI B + (240 : Int32) = nI (B + 240) from nI_pl B 240, nI_pl]
    simp only [bd, g83_0, n84, sI_mk, mI_mk, up2_ne (show z + 83 ≠ z + 84 by omega), hM'.2.2.2, x1, x2, x3, ck_t (inb_nI (show B + 10 + 3 * i < 2720 by omega) (show 2720 < 1000000 by omega)), ck_t (inb_nI (show B + 290 + d < 2720 by omega) (show 2720 < 1000000 by omega)), ck_t (inb_nI (show B + 240 + d < 2720 by omega) (show 2720 < 1000000 by omega)), cl_nI (show B + 10 + 3 * i < 1000000 by omega), cl_nI (show B + 290 + d < 1000000 by omega), cl_nI (show B + 240 + d < 1000000 by omega), show nI i + (1 : Int32) = nI (i + 1) from nI_pl i 1]
    rw [up2_upr1 I, up2_upr, up2_upr, up2_upr]
  · have p290 : ∀ c, c < 48 → plj (290 + c) = true := fun c hc => plj_290 (by omega)
    have p240 : ∀ c, c < 48 → plj (240 + c) = true := fun c hc => by have := plj_190 (i := 50 + c) (by omega); rwa [show 190 + (50 + c) = 240 + c by omega] at this
    have p10 : plj (10 + 3 * i) = true := plj_10 (by omega)
    rw [show B + 290 + tc T i = B + (290 + tc T i) by omega, show B + 10 + 3 * i = B + (10 + 3 * i) by omega, show B + 290 + d = B + (290 + d) by omega, show B + 240 + d = B + (240 + d) by omega, pa_ur (p240 d (by omega)), pa_ur (p290 d (by omega)), pa_ur p10, pa_ur (p290 _ (by omega))]
    obtain ⟨b1, b2, b3, b4, b5, b6⟩ := hT
    refine ⟨?_, ?_, fun j hj => ?_, fun f hf => ?_, fun c hc => ?_, fun c hc hb => ?_⟩
    · rw [ur_ne _ _ (by omega), ur_ne _ _ (by omega), ur_ne _ _ (by omega), ur_ne _ _ (by omega)]; exact b1
    · rw [ur_ne _ _ (by omega), ur_ne _ _ (by omega), ur_ne _ _ (by omega), ur_ne _ _ (by omega)]; exact b2
    · have hj : j < tk T := hj
      obtain ⟨e1, e2, e3, e4⟩ := b3 j hj
      have hcj := (hW.2.2.1 j hj).1
      show _ = nI (ur (tc T) i d j) ∧ _ ∧ _ ∧ ur (ur (ur (ur (pa (I (z + 84)) B) (290 + tc T i) 0) (10 + 3 * i) (nI d)) (290 + d) (nI (i + 1))) (240 + d) (-1) (290 + ur (tc T) i d j) = nI (j + 1)
      by_cases hji : j = i
      · subst hji
        rw [ur_at]
        refine ⟨?_, ?_, ?_, ?_⟩
        · rw [ur_ne _ _ (by omega), ur_ne _ _ (by omega), ur_at]
        · rw [ur_ne _ _ (by omega), ur_ne _ _ (by omega), ur_ne _ _ (by omega), ur_ne _ _ (by omega)]; exact e2
        · rw [ur_ne _ _ (by omega), ur_ne _ _ (by omega), ur_ne _ _ (by omega), ur_ne _ _ (by omega)]; exact e3
        · rw [ur_ne _ _ (by omega), ur_at]
      · have hcn : tc T j ≠ tc T i := fun w => hji (hW.2.2.2.1 j i hj hi w)
        have hcd : tc T j ≠ d := fun w => hop.1 ⟨j, hj, w⟩
        rw [ur_ne (tc T) _ hji]
        refine ⟨?_, ?_, ?_, ?_⟩
        · rw [ur_ne _ _ (by omega), ur_ne _ _ (by omega), ur_ne _ _ (by omega), ur_ne _ _ (by omega)]; exact e1
        · rw [ur_ne _ _ (by omega), ur_ne _ _ (by omega), ur_ne _ _ (by omega), ur_ne _ _ (by omega)]; exact e2
        · rw [ur_ne _ _ (by omega), ur_ne _ _ (by omega), ur_ne _ _ (by omega), ur_ne _ _ (by omega)]; exact e3
        · rw [ur_ne _ _ (by omega), ur_ne _ _ (by omega), ur_ne _ _ (by omega), ur_ne _ _ (by omega)]; exact e4
    · rw [ur_ne _ _ (by omega), ur_ne _ _ (by omega), ur_ne _ _ (by omega), ur_ne _ _ (by omega)]; exact b4 f hf
    · show _ = ur (tr T) d (-1) c
      by_cases hcd : c = d
      · subst hcd; rw [ur_at, ur_at]
      · rw [ur_ne _ _ (by omega), ur_ne _ _ (by omega), ur_ne _ _ (by omega), ur_ne _ _ (by omega), ur_ne _ _ hcd]; exact b5 c hc
    · have hb' : ¬ ((Bn T c ∧ c ≠ tc T i) ∨ c = d) := fun w => hb ((Bn_lay hi hW.2.2.2.1 c).mpr w)
      have hcd : c ≠ d := fun w => hb' (Or.inr w)
      rw [ur_ne _ _ (by omega), ur_ne _ _ (by omega), ur_ne _ _ (by omega)]
      by_cases hci2 : c = tc T i
      · subst hci2; rw [ur_at]
      · rw [ur_ne _ _ (by omega)]
        exact b6 c hc (fun w => hb' (Or.inl ⟨w, hci2⟩))
  · intro j hj
    rw [ur_ne _ _ (by omega), ur_ne _ _ (by omega), ur_ne _ _ (by omega), ur_ne _ _ (by omega)]
  · intro j hj
    have k1 : j ≠ 240 + d := fun e => by rw [e] at hj; rw [show plj (240 + d) = true by have := plj_190 (i := 50 + d) (by omega); rwa [show 190 + (50 + d) = 240 + d by omega] at this] at hj; cases hj
    have k2 : ∀ c, c < 48 → j ≠ 290 + c := fun c hc e => by rw [e, plj_290 (by omega)] at hj; cases hj
    have k3 : j ≠ 10 + 3 * i := fun e => by rw [e, plj_10 (by omega)] at hj; cases hj
    have := k2 d (by omega)
    have := k2 (tc T i) (by omega)
    rw [ur_ne _ _ (by omega), ur_ne _ _ (by omega), ur_ne _ _ (by omega), ur_ne _ _ (by omega)]
  · intro j hj
    rw [ur_ne _ _ (by omega), ur_ne _ _ (by omega), ur_ne _ _ (by omega), ur_ne _ _ (by omega)]
  · intro j hj
    rw [ur_ne _ _ (by omega), ur_ne _ _ (by omega), ur_ne _ _ (by omega), ur_ne _ _ (by omega)]
end GO
