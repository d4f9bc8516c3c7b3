/-! AN HOUR BY A WIND, abstract; the class's blow -/
/-- bone i goes, or lies on -/
noncomputable def go1 (W H : Nat) (L : Option XT) (dx dy : Int) (str : Nat) (s : TP × Nat) (i : Nat) : TP × Nat := if rchT W H s.1 dx dy (stpsT W H s.1 L i str) (tc s.1 i) = tc s.1 i then (lieT s.1 i (if tl s.1 i < 99 then tl s.1 i + 1 else 99), s.2) else (lieT (layT s.1 i (rchT W H s.1 dx dy (stpsT W H s.1 L i str) (tc s.1 i))) i 0, s.2 + 1)
noncomputable def blS (W H : Nat) (L : Option XT) (dx dy : Int) (str : Nat) (T : TP) : Nat → TP × Nat
  | 0 => (T, 0)
  | p + 1 => go1 W H L dx dy str (blS W H L dx dy str T p) (ordT (kyT W T dx dy) (tk T) p)
def hrT (T : TP) : TP := (tk T, th T + 1, tc T, tw T, tl T, ts T, tr T)
/-- the plain behind the hour, and how many went -/
noncomputable def blT (W H : Nat) (L : Option XT) (dx dy : Int) (str : Nat) (T : TP) : TP × Nat := (hrT (blS W H L dx dy str T (tk T)).1, (blS W H L dx dy str T (tk T)).2)
theorem go1_tk {W H : Nat} {L : Option XT} {dx dy : Int} {str : Nat} {s : TP × Nat} {i : Nat} : tk (go1 W H L dx dy str s i).1 = tk s.1 ∧ th (go1 W H L dx dy str s i).1 = th s.1 ∧ ts (go1 W H L dx dy str s i).1 = ts s.1 ∧ tw (go1 W H L dx dy str s i).1 = tw s.1 := by
  unfold go1
  split <;> exact ⟨rfl, rfl, rfl, rfl⟩
theorem blS_tk {W H : Nat} {L : Option XT} {dx dy : Int} {str : Nat} {T : TP} : ∀ p, tk (blS W H L dx dy str T p).1 = tk T ∧ th (blS W H L dx dy str T p).1 = th T ∧ ts (blS W H L dx dy str T p).1 = ts T ∧ tw (blS W H L dx dy str T p).1 = tw T
  | 0 => ⟨rfl, rfl, rfl, rfl⟩
  | p + 1 => by
    have a := go1_tk (W := W) (H := H) (L := L) (dx := dx) (dy := dy) (str := str) (s := blS W H L dx dy str T p) (i := ordT (kyT W T dx dy) (tk T) p)
    have b := blS_tk (W := W) (H := H) (L := L) (dx := dx) (dy := dy) (str := str) (T := T) p
    exact ⟨a.1.trans b.1, a.2.1.trans b.2.1, a.2.2.1.trans b.2.2.1, a.2.2.2.trans b.2.2.2⟩
theorem go1_W {W H M : Nat} {L : Option XT} {dx dy : Int} {str : Nat} {s : TP × Nat} {i : Nat} (hD : dims W H) (hW : TW (W * H) M s.1) (hi : i < tk s.1) : TW (W * H) M (go1 W H L dx dy str s i).1 := by
  unfold go1
  have hl := (hW.2.2.1 i hi).2.2.2
  split
  · exact hW.lie (by split <;> omega)
  · next h =>
    rcases rchT_or (T := s.1) (dx := dx) (dy := dy) hD.1 hD.2.1 (stpsT W H s.1 L i str) (tc s.1 i) with e | ⟨ho, hlt⟩
    · exact absurd e h
    · exact (hW.lay hi hlt ho).lie (by omega)
theorem blS_W {W H M : Nat} {L : Option XT} {dx dy : Int} {str : Nat} {T : TP} (hD : dims W H) (hW : TW (W * H) M T) : ∀ p, p ≤ tk T → TW (W * H) M (blS W H L dx dy str T p).1
  | 0, _ => hW
  | p + 1, h => by
    have := blS_W (L := L) (dx := dx) (dy := dy) (str := str) hD hW p (by omega)
    exact go1_W hD this (by rw [(blS_tk p).1]; exact (ordT_ok (by omega)).1)
theorem blS_went {W H : Nat} {L : Option XT} {dx dy : Int} {str : Nat} {T : TP} : ∀ p, (blS W H L dx dy str T p).2 ≤ p
  | 0 => Nat.le_refl _
  | p + 1 => by
    have := blS_went (W := W) (H := H) (L := L) (dx := dx) (dy := dy) (str := str) (T := T) p
    show (go1 W H L dx dy str (blS W H L dx dy str T p) _).2 ≤ p + 1
    unfold go1
    split
    · show (blS W H L dx dy str T p).2 ≤ p + 1; omega
    · show (blS W H L dx dy str T p).2 + 1 ≤ p + 1; omega
theorem TW.hr {C M : Nat} {T : TP} (h : TW C M T) (hM : th T < M) : TW C M (hrT T) := by
  obtain ⟨t1, t2, t3, t4, t5, t6⟩ := h
  refine ⟨t1, hM, t3, t4, t5, fun c hc => (t6 c hc).imp id (fun ⟨g, a, b⟩ => ⟨g, ?_, b⟩)⟩
  show g ≤ th T + 1
  omega
theorem blT_W {W H M : Nat} {L : Option XT} {dx dy : Int} {str : Nat} {T : TP} (hD : dims W H) (hW : TW (W * H) M T) (hM : th T < M) : TW (W * H) M (blT W H L dx dy str T).1 :=
  (blS_W hD hW (tk T) (Nat.le_refl _)).hr (by rw [(blS_tk (tk T)).2.1]; exact hM)
/-- the class's wind -/
def WnC (z : Nat) (I : Nat → Nat → Int32) (w : Nat) (dx dy : Int32) (str : Nat) : Prop := w < 6 ∧ st1 dx ∧ st1 dy ∧ str < 100 ∧ I (z + 2) w = dx ∧ I (z + 3) w = dy ∧ I (z + 4) w = nI str
section BC
variable {n z t W H M o : Nat} {I : Nat → Nat → Int32} {J : Nat → Nat → Int64} {u : Option Nat} {T : TP} {L : Option XT}
/-- what the class's blow may change beside the plain at o: names and stack -/
def SbC (z o : Nat) (I I' : Nat → Nat → Int32) (J J' : Nat → Nat → Int64) : Prop := (∀ q, q ≠ z + 24 → q ≠ z + 25 → (q < z + o ∨ z + (o + 7) ≤ q) → I' q = I q) ∧ (∀ q, q ≠ z + o → J' q = J q) ∧ J' (z + o) 9 = J (z + o) 9 ∧ I' (z + (o + 5)) = I (z + (o + 5))
theorem SbC.rf (z o : Nat) (I : Nat → Nat → Int32) (J : Nat → Nat → Int64) : SbC z o I I J J := ⟨fun _ _ _ _ => rfl, fun _ _ => rfl, rfl, rfl⟩
theorem SbC.tr {o : Nat} {I I' I2 : Nat → Nat → Int32} {J J' J2 : Nat → Nat → Int64} (h : SbC z o I I' J J') (h2 : SbC z o I' I2 J' J2) : SbC z o I I2 J J2 := ⟨fun q a b c => (h2.1 q a b c).trans (h.1 q a b c), fun q a => (h2.2.1 q a).trans (h.2.1 q a), h2.2.2.1.trans h.2.2.1, h2.2.2.2.trans h.2.2.2⟩
theorem Sc.sb {I I' : Nat → Nat → Int32} {J : Nat → Nat → Int64} (ho : isP o) (h : Sc z I I') : SbC z o I I' J J := ⟨fun q a b _ => h q a b, fun _ _ => rfl, rfl, h _ (by have := isP_ge ho; omega) (by have := isP_ge ho; omega)⟩
theorem ClsT.sc {C : Nat} {I' : Nat → Nat → Int32} (ho : isP o) (h : ClsT z C o I J T) (hs : Sc z I I') : ClsT z C o I' J T := h.keep (fun i _ => hs _ (by have := isP_ge ho; omega) (by have := isP_ge ho; omega)) rfl
theorem ClsT.lie {C : Nat} (ho : isP o) {i y : Nat} (h : ClsT z C o I J T) : ClsT z C o (up2 I (z + (o + 3)) i (nI y)) J (lieT T i y) := by
  obtain ⟨a1, a2, a3, a4, a5, a6, a7⟩ := h
  unfold ClsT
  rw [up2_ne (by omega), up2_ne (by omega), up2_ne (by omega), up2_r, up2_ne (by omega), up2_ne (by omega)]
  refine ⟨a1, a2, fun j hj => ?_, a4, a5, a6, a7⟩
  obtain ⟨b1, b2, b3⟩ := a3 j hj
  refine ⟨b1, b2, ?_⟩
  show ur (I (z + (o + 3))) i (nI y) j = nI (ur (tl T) i y j)
  by_cases hji : j = i
  · subst hji; rw [ur_at, ur_at]
  · rw [ur_ne _ _ hji, ur_ne _ _ hji]; exact b3
theorem blow_L (hn : 100000 ≤ n) (hM : M < 100000) (hD : dims W H) (ho : isP o) (hW : TW (W * H) M T) {la : Option Nat} {w str : Nat} {dx dy : Int32} {still : Int32} (hstill : (still = 1 ∧ dx = 0 ∧ dy = 0) ∨ (still = 0 ∧ ¬ (dx = 0 ∧ dy = 0))) :
    ∀ (d p k : Nat) (I : Nat → Nat → Int32) (J : Nat → Nat → Int64), p + d = tk T → d < k → GeoR W H (I (z + 30)) (J (z + 30)) (J (z + 31)) → ClsT z (W * H) o I J (blS W H L dx.toInt dy.toInt str T p).1 → LwC z t I L la → WnC z I w dx dy str → (∀ q, q < tk T → I (z + 29) q = nI (ordT (kyT W T dx.toInt dy.toInt) (tk T) q)) →
    ∃ I' J', f_X9_blow_L57 n (z + 26) (z + o) (nI w) dx dy still la k (nI (blS W H L dx.toInt dy.toInt str T p).2) (nI p) (mk z (W * H) I J t u) = some (nI (blS W H L dx.toInt dy.toInt str T (tk T)).2, mk z (W * H) I' J' t u) ∧ ClsT z (W * H) o I' J' (blT W H L dx.toInt dy.toInt str T).1 ∧ SbC z o I I' J J' := by
  have hC := hD.C
  have h24 := hW.1
  have ho2 := isP_ge ho
  intro d
  induction d with
  | zero =>
    intro p k I J hp hk hG hT hL hwn hod
    obtain ⟨k, rfl⟩ : ∃ m, k = m + 1 := ⟨k - 1, by omega⟩
    obtain rfl : p = tk T := by omega
    have hb := blS_tk (W := W) (H := H) (L := L) (dx := dx.toInt) (dy := dy.toInt) (str := str) (T := T) (tk T)
    have hhor := hW.2.1
    refine ⟨up2 I (z + o) 8 (nI (th T + 1)), J, ?_, ?_, ⟨fun q _ _ c => up2_ne (by omega), fun _ _ => rfl, rfl, up2_ne (by omega)⟩⟩
    · rw [f_X9_blow_L57]
      simp only [jn, bd]
      rw [mI_mk, hT.1, hb.1, if_pos ((nI_le' (by omega) (by omega)).mpr (Nat.le_refl _)), mI_mk, hT.2.1, hb.2.1, sI_mk, show nI (th T) + (1 : Int32) = nI (th T + 1) from nI_pl _ 1]
    · obtain ⟨a1, a2, a3, a4, a5, a6, a7⟩ := hT
      unfold ClsT
      rw [up2_r, up2_ne (by omega), up2_ne (by omega), up2_ne (by omega), up2_ne (by omega), up2_ne (by omega)]
      refine ⟨?_, ?_, a3, a4, a5, a6, a7⟩
      · rw [ur_ne _ _ (by omega)]; exact a1
      · rw [ur_at]
        show nI (th T + 1) = nI (th (blS W H L dx.toInt dy.toInt str T (tk T)).1 + 1)
        rw [hb.2.1]
  | succ d ih =>
    intro p k I J hp hk hG hT hL hwn hod
    obtain ⟨k, rfl⟩ : ∃ m, k = m + 1 := ⟨k - 1, by omega⟩
    obtain ⟨w1, w2, w3, w4, w5, w6, w7⟩ := id hwn
    have hpT : p < tk T := by omega
    have hb := blS_tk (W := W) (H := H) (L := L) (dx := dx.toInt) (dy := dy.toInt) (str := str) (T := T) p
    have hWp := blS_W (L := L) (dx := dx.toInt) (dy := dy.toInt) (str := str) hD hW p (by omega)
    have hwt := blS_went (W := W) (H := H) (L := L) (dx := dx.toInt) (dy := dy.toInt) (str := str) (T := T) p
    obtain ⟨o1, o2⟩ := ordT_ok (kf := kyT W T dx.toInt dy.toInt) hpT
    have hodp := hod p hpT
    generalize hi0 : ordT (kyT W T dx.toInt dy.toInt) (tk T) p = i at o1 o2 hodp
    have hnext : blS W H L dx.toInt dy.toInt str T (p + 1) = go1 W H L dx.toInt dy.toInt str (blS W H L dx.toInt dy.toInt str T p) i := by rw [← hi0]; rfl
    generalize hs0 : blS W H L dx.toInt dy.toInt str T p = s at hT hb hWp hwt hnext
    have hi : i < tk s.1 := by rw [hb.1]; exact o1
    obtain ⟨c1, c2, c3, c4⟩ := hWp.2.2.1 i hi
    have hce : mI (mk z (W * H) I J t u) (z + (o + 1)) i = nI (tc s.1 i) := (hT.2.2.1 i hi).1
    have m7 : mI (mk z (W * H) I J t u) (z + o) 7 = nI (tk T) := by rw [mI_mk, hT.1, hb.1]
    have od' : mI (mk z (W * H) I J t u) (z + 29) p = nI i := hodp
    -- what comes behind the steps are known
    have fin : ∀ (sp : Nat) (I1 : Nat → Nat → Int32), Sc z I I1 → sp ≤ 9 → rchT W H s.1 dx.toInt dy.toInt sp (tc s.1 i) = rchT W H s.1 dx.toInt dy.toInt (stpsT W H s.1 L i str) (tc s.1 i) →
        ∃ I' J', (cl (f_X9_reached n (z + o) (nI (tc s.1 i)) (nI sp) dx dy (mk z (W * H) I1 J t u)) fun x50 S47 => (if x50 = nI (tc s.1 i) then gR S47 (mR S47 (z + o) 3) 12 fun q56 => gR S47 (mR S47 (z + o) 3) 12 fun q58 => ck (inb (nI i) (mN S47 q58)) (ck (inb (nI i) (mN S47 q56)) (f_X9_blow_L57 n (z + 26) (z + o) (nI w) dx dy still la k (nI s.2) (nI (p + 1)) (sI S47 q56 i (imin (99 : Int32) ((mI S47 q58 i) + (1 : Int32)))))) else cv (f_X3_shift n (z + o) (nI i) x50 S47) fun S64 => f_X9_blow_L57 n (z + 26) (z + o) (nI w) dx dy still la k (nI s.2 + (1 : Int32)) (nI (p + 1)) S64)) = some (nI (blS W H L dx.toInt dy.toInt str T (tk T)).2, mk z (W * H) I' J' t u) ∧ ClsT z (W * H) o I' J' (blT W H L dx.toInt dy.toInt str T).1 ∧ SbC z o I I' J J' := by
      intro sp I1 hS hsp hre
      have hT1 := hT.sc ho hS
      have hG1 : GeoR W H (I1 (z + 30)) (J (z + 30)) (J (z + 31)) := by rw [hS _ (by omega) (by omega)]; exact hG
      have hrl := reached_L (n := n) (t := t) (u := u) hD hG1 ho hT1 w2 w3 hsp sp 0 n (tc s.1 i) (by omega) (by omega) c1
      have hL1 : LwC z t I1 L la := hL.congr (fun q hq => hS q (by omega) (by omega))
      have hwn1 : WnC z I1 w dx dy str := by
        refine ⟨w1, w2, w3, w4, ?_, ?_, ?_⟩
        · rw [hS _ (by omega) (by omega)]; exact w5
        · rw [hS _ (by omega) (by omega)]; exact w6
        · rw [hS _ (by omega) (by omega)]; exact w7
      have hod1 : ∀ q, q < tk T → I1 (z + 29) q = nI (ordT (kyT W T dx.toInt dy.toInt) (tk T) q) := fun q hq => by rw [hS _ (by omega) (by omega)]; exact hod q hq
      unfold f_X9_reached
      rw [show (0 : Int32) = nI 0 from rfl, hrl, cl_some]
      by_cases hg : rchT W H s.1 dx.toInt dy.toInt (stpsT W H s.1 L i str) (tc s.1 i) = tc s.1 i
      · have hgo : go1 W H L dx.toInt dy.toInt str s i = (lieT s.1 i (if tl s.1 i < 99 then tl s.1 i + 1 else 99), s.2) := by unfold go1; rw [if_pos hg]
        rw [hgo] at hnext
        have hli : mI (mk z (W * H) I1 J t u) (z + (o + 3)) i = nI (tl s.1 i) := (hT1.2.2.1 i hi).2.2
        have hmin : imin (99 : Int32) (nI (tl s.1 i) + (1 : Int32)) = nI (if tl s.1 i < 99 then tl s.1 i + 1 else 99) := by
          rw [show (1 : Int32) = nI 1 from rfl, nI_pl, show (99 : Int32) = nI 99 from rfl]
          unfold imin
          by_cases h99 : tl s.1 i < 98
          · rw [if_pos (by rw [nI_lt' (by omega) (by omega)]; omega), if_pos (by omega)]
          · rw [if_neg (by rw [nI_lt' (by omega) (by omega)]; omega)]
            by_cases h98 : tl s.1 i < 99
            · rw [if_pos h98]; congr 1; omega
            · rw [if_neg h98]
        rw [hre, hg, if_pos rfl, gP_3 ho, gP_3 ho, nP_3 ho, ck_t (inb_nI (by omega) (by omega)), ck_t (inb_nI (by omega) (by omega)), hli, hmin, sI_mk]
        have hT2 : ClsT z (W * H) o (up2 I1 (z + (o + 3)) i (nI (if tl s.1 i < 99 then tl s.1 i + 1 else 99))) J (blS W H L dx.toInt dy.toInt str T (p + 1)).1 := by rw [hnext]; exact hT1.lie ho
        obtain ⟨I', J', e, r1, r2⟩ := ih (p + 1) k _ J (by omega) (by omega) (by rw [up2_ne (by omega)]; exact hG1) hT2 (hL1.congr (fun q hq => up2_ne (by omega))) (by
          obtain ⟨y1, y2, y3, y4, y5, y6, y7⟩ := hwn1
          exact ⟨y1, y2, y3, y4, by rw [up2_ne (by omega)]; exact y5, by rw [up2_ne (by omega)]; exact y6, by rw [up2_ne (by omega)]; exact y7⟩) (fun q hq => by rw [up2_ne (by omega)]; exact hod1 q hq)
        rw [hnext] at e
        exact ⟨I', J', e, r1, (hS.sb ho).tr (SbC.tr ⟨fun q a b c => up2_ne (by omega), fun _ _ => rfl, rfl, up2_ne (by omega)⟩ r2)⟩
      · have hgo : go1 W H L dx.toInt dy.toInt str s i = (lieT (layT s.1 i (rchT W H s.1 dx.toInt dy.toInt (stpsT W H s.1 L i str) (tc s.1 i))) i 0, s.2 + 1) := by unfold go1; rw [if_neg hg]
        rw [hgo] at hnext
        rcases rchT_or (T := s.1) (dx := dx.toInt) (dy := dy.toInt) hD.1 hD.2.1 (stpsT W H s.1 L i str) (tc s.1 i) with e0 | ⟨hop, hlt⟩
        · exact absurd e0 hg
        · obtain ⟨I2, J2, e2, hT2, k1, k2, k3⟩ := s_shift (n := n) (t := t) (u := u) hD ho hWp hT1 hi hlt hop
          rw [hre, if_neg (by rw [nI_inj (by omega) (by omega)]; exact hg), e2, cv_some, show nI s.2 + (1 : Int32) = nI (s.2 + 1) from nI_pl _ 1]
          have hT3 : ClsT z (W * H) o I2 J2 (blS W H L dx.toInt dy.toInt str T (p + 1)).1 := by rw [hnext]; exact hT2
          obtain ⟨I', J', e, r1, r2⟩ := ih (p + 1) k I2 J2 (by omega) (by omega) (by rw [k1 _ (by omega) (by omega) (by omega), k2 _ (by omega), k2 _ (by omega)]; exact hG1) hT3 (hL1.congr (fun q hq => k1 q (by omega) (by omega) (by omega))) (by
            obtain ⟨y1, y2, y3, y4, y5, y6, y7⟩ := hwn1
            exact ⟨y1, y2, y3, y4, by rw [k1 _ (by omega) (by omega) (by omega)]; exact y5, by rw [k1 _ (by omega) (by omega) (by omega)]; exact y6, by rw [k1 _ (by omega) (by omega) (by omega)]; exact y7⟩) (fun q hq => by rw [k1 _ (by omega) (by omega) (by omega)]; exact hod1 q hq)
          rw [hnext] at e
          exact ⟨I', J', e, r1, (hS.sb ho).tr (SbC.tr ⟨fun q a b c => k1 q (by omega) (by omega) (by omega), k2, k3, k1 _ (by omega) (by omega) (by omega)⟩ r2)⟩
    rw [f_X9_blow_L57]
    simp only [jn, bd]
    rw [m7, if_neg (show ¬ nI (tk T) ≤ nI p by rw [nI_le' (by omega) (by omega)]; omega), g26_5, n29, ck_t (inb_nI (by omega) (by omega)), cl_nI (show p < 1000000 by omega), od', gP_1 ho, nP_1 ho, ck_t (inb_nI (by omega) (by omega)), cl_nI (show i < 1000000 by omega), hce, show nI p + (1 : Int32) = nI (p + 1) from nI_pl p 1]
    rcases hstill with ⟨q1, q2, q3⟩ | ⟨q1, q2⟩
    · rw [q1, if_neg (show ¬ (1 : Int32) = 0 by decide), if_neg (show ¬ (1 : Int32) = 0 by decide)]
      have := fin 0 I (Sc.rf z I) (by omega) (by rw [q2, q3]; exact (rch_still (T := s.1) _ hD c1 ⟨i, hi, rfl⟩).symm)
      rw [q1] at this
      exact this
    · rw [q1, if_pos rfl, gP_0 ho, s_cellBeside hD.1 hD.2.1 hD.2.2.2 hG.1 hG.2.1 c1 w2 w3, cl_some, s_isOpenT hD hG.2.2.1 ho hT (fun d e => stp_lt hD.1 hD.2.1 e), cl_some]
      by_cases hop : ∃ d', stp W H (tc s.1 i) dx.toInt dy.toInt = some d' ∧ opn s.1 d'
      · rw [if_neg (by rw [bD_t hop]; decide), if_pos trivial, g26_2, g26_0, g1_2, n4, ck_t (inb_nI w1 (by omega)), cl_nI (by omega), mI_mk, w7]
        obtain ⟨I1, e1, hS1⟩ := s_stepsBy (n := n) (u := u) hn hM hD hG ho hWp hT hL hi w4
        rw [e1, cl_some]
        have hs9 : stpsT W H s.1 L i str ≤ 9 := by
          unfold stpsT
          split
          · omega
          · exact c09_le _ _
        have := fin _ I1 hS1 hs9 rfl
        rw [q1] at this
        exact this
      · rw [if_pos (by rw [bD_f hop]), if_neg (show ¬ (1 : Int32) = 0 by decide)]
        have := fin 0 I (Sc.rf z I) (by omega) ((rchT_none 0 (fun d' e w => hop ⟨d', e, w⟩)).trans (rchT_none _ (fun d' e w => hop ⟨d', e, w⟩)).symm)
        rw [q1] at this
        exact this
end BC
