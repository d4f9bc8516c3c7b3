/-! THE CLASS'S FIELDS over an abstract plain -/
noncomputable def dec (p : Prop) : Bool := @decide p (Classical.propDecidable p)
theorem dec_t {p : Prop} : dec p = true ↔ p := by unfold dec; exact @decide_eq_true_iff p (Classical.propDecidable p)
theorem dec_f {p : Prop} : dec p = false ↔ ¬ p := by unfold dec; exact @decide_eq_false_iff_not p (Classical.propDecidable p)
theorem dec_congr {p q : Prop} (h : p ↔ q) : dec p = dec q := by rw [show p = q from propext h]
theorem eq_dec {b : Bool} {p : Prop} (h : b = true ↔ p) : b = dec p := by
  cases b with
  | true => exact (dec_t.mpr (h.mp rfl)).symm
  | false => exact (dec_f.mpr (fun w => by have := h.mpr w; cases this)).symm
/-- a truth value as an int -/
noncomputable def bD (p : Prop) : Int32 := if dec p = true then 1 else 0
theorem bD_t {p : Prop} (h : p) : bD p = 1 := if_pos (dec_t.mpr h)
theorem bD_f {p : Prop} (h : ¬ p) : bD p = 0 := if_neg (fun w => h (dec_t.mp w))
theorem bD_I {p : Prop} [Decidable p] : bI p = bD p := by
  by_cases h : p
  · rw [bD_t h]; exact if_pos h
  · rw [bD_f h]; exact if_neg h
theorem ite_bD {α : Type} {p : Prop} (A B : α) : (if bD p = 0 then A else B) = if dec p = true then B else A := by
  by_cases h : p
  · rw [bD_t h, if_neg (by decide), if_pos (dec_t.mpr h)]
  · rw [bD_f h, if_pos rfl, if_neg (fun w => h (dec_t.mp w))]
theorem zb_bD {α : Type} {p : Prop} (t : Option α) : zb (bD p) t = t := by
  by_cases h : p
  · rw [bD_t h, zb_1]
  · rw [bD_f h, zb_0]
def hasT (W C : Nat) (T : TP) (f c : Nat) : Prop := ∃ s, ts T f = some s ∧ Rch W (Ft C T) s c
/-- the cells of the field of s -/
noncomputable def sizT (W C : Nat) (T : TP) (s : Nat) : Nat := cnt (fun c => dec (Rch W (Ft C T) s c)) C
/-- who has the field of s -/
noncomputable def havT (W C : Nat) (T : TP) (s : Nat) : Nat → Bool := fun f => dec (hasT W C T f s)
noncomputable def areaT (W C : Nat) (T : TP) (f : Nat) : Nat := match ts T f with
  | none => 0
  | some s => sizT W C T s / cnt (havT W C T s) 6
theorem areaT_n {W C : Nat} {T : TP} {f : Nat} (h : ts T f = none) : areaT W C T f = 0 := by unfold areaT; rw [h]
theorem areaT_s {W C : Nat} {T : TP} {f s : Nat} (h : ts T f = some s) : areaT W C T f = sizT W C T s / cnt (havT W C T s) 6 := by unfold areaT; rw [h]
theorem bits_C {r : Int64} {C : Nat} (hC : C ≤ 48) (h : ∀ c, C ≤ c → bt r c = false) : bits r = cnt (bt r) C := by
  have := cnt_stop (f := bt r) (m := C) h (64 - C)
  rw [show C + (64 - C) = 64 by omega] at this
  exact this
section CF
variable {n z t W H M o : Nat} {I : Nat → Nat → Int32} {J : Nat → Nat → Int64} {u : Option Nat} {T : TP}
theorem Fb_Ft {C : Nat} {x : Int64} (hC : C ≤ 48) (h : ∀ c, bt x c = true ↔ Bn T c) (c : Nat) : Fb C (x ^^^ (-1)) c ↔ Ft C T c := by
  unfold Fb Ft
  constructor
  · rintro ⟨h1, h2⟩
    rw [bt_not _ (by omega)] at h2
    exact ⟨h1, fun w => by rw [(h c).mpr w] at h2; cases h2⟩
  · rintro ⟨h1, h2⟩
    refine ⟨h1, ?_⟩
    rw [bt_not _ (by omega)]
    cases hb : bt x c with
    | false => rfl
    | true => exact absurd ((h c).mp hb) h2
theorem Rch.lt {W C : Nat} {T : TP} {s c : Nat} (h : Rch W (Ft C T) s c) : c < C := h.en.1
theorem s_fieldAt (hn : 100000 ≤ n) (hD : dims W H) (hG : GeoR W H (I (z + 30)) (J (z + 30)) (J (z + 31))) (ho : isP o) (hT : ClsT z (W * H) o I J T) {c : Nat} (hc : c < W * H) :
    ∃ r, f_X3_fieldAt n (z + o) (nI c) (mk z (W * H) I J t u) = some (r, mk z (W * H) I J t u) ∧ ∀ q, bt r q = true ↔ Rch W (Ft (W * H) T) c q := by
  obtain ⟨r, e, hr⟩ := s_spread1 (n := n) (C := W * H) (t := t) (u := u) hn hD.1 hD.2.1 hD.2.2.2 hG (J (z + o) 10 ^^^ (-1)) hc
  refine ⟨r, ?_, fun q => (hr q).trans ?_⟩
  · unfold f_X3_fieldAt
    rw [gP_0 ho, mJ_mk, e, cl_some]
  · exact ⟨fun h => h.congr (Fb_Ft hD.C hT.2.2.2.2.2.1), fun h => h.congr (fun q => (Fb_Ft hD.C hT.2.2.2.2.2.1 q).symm)⟩
theorem s_fieldHad (hn : 100000 ≤ n) (hD : dims W H) (hG : GeoR W H (I (z + 30)) (J (z + 30)) (J (z + 31))) (ho : isP o) (hW : TW (W * H) M T) (hT : ClsT z (W * H) o I J T) {f : Nat} (hf : f < 6) :
    ∃ r, f_X3_fieldHad n (z + o) (nI f) (mk z (W * H) I J t u) = some (r, mk z (W * H) I J t u) ∧ ∀ q, bt r q = true ↔ hasT W (W * H) T f q := by
  have hC := hD.C
  have hs := hT.2.2.2.1 f hf
  have hsl : ∀ c, ts T f = some c → c < W * H := fun c e => (hW.2.2.2.2.1 f hf c e).1
  unfold f_X3_fieldHad
  simp only [gP_4 ho, nP_4 ho, ck_t (inb_nI (show f < 6 from hf) (by omega)), cl_nI (show f < 1000000 by omega), gP_0 ho, mI_mk, mJ_mk]
  cases e : ts T f with
  | none =>
    rw [e] at hs
    rw [if_pos (show I (z + (o + 4)) f = -1 from hs)]
    refine ⟨0, rfl, fun q => ⟨fun w => (by rw [bt_0] at w; cases w), ?_⟩⟩
    rintro ⟨s, w, -⟩
    rw [e] at w; cases w
  | some s =>
    rw [e] at hs
    have hsl' := hsl s e
    rw [if_neg (by rw [hs]; exact nI_nm1 (by omega)), hs]
    obtain ⟨r, e1, hr⟩ := s_spread1 (n := n) (C := W * H) (t := t) (u := u) hn hD.1 hD.2.1 hD.2.2.2 hG (J (z + o) 10 ^^^ (-1)) hsl'
    refine ⟨r, ?_, fun q => (hr q).trans ?_⟩
    · show cl (f_X1_spread n (z + 30) (lsh 1 (nI s)) (J (z + o) 10 ^^^ -1) _) _ = _
      rw [e1, cl_some]
    · constructor
      · intro h
        exact ⟨s, e, h.congr (Fb_Ft hC hT.2.2.2.2.2.1)⟩
      · rintro ⟨s', w, h⟩
        rw [e] at w; cases w
        exact h.congr (fun q => (Fb_Ft hC hT.2.2.2.2.2.1 q).symm)
/-- those who have the field r, by their bits -/
theorem holders_L (hD : dims W H) (ho : isP o) (hW : TW (W * H) M T) (hT : ClsT z (W * H) o I J T) (r : Int64) {hv : Nat → Bool} (hh : ∀ f, f < 6 → (hv f = true ↔ ∃ s, ts T f = some s ∧ bt r s = true)) :
    ∀ (d f k : Nat), f + d = 6 → d < k → f_X3_holders_L5 n (z + o) r k (nI (msk hv f)) (nI f) (mk z (W * H) I J t u) = some (nI (msk hv 6), mk z (W * H) I J t u) := by
  have hC := hD.C
  intro d
  induction d with
  | zero =>
    intro f k hf hk
    obtain ⟨k, rfl⟩ : ∃ m, k = m + 1 := ⟨k - 1, by omega⟩
    obtain rfl : f = 6 := by omega
    rw [f_X3_holders_L5]
    simp only [jn]
    rw [if_pos (by decide)]
  | succ d ih =>
    intro f k hf hk
    obtain ⟨k, rfl⟩ : ∃ m, k = m + 1 := ⟨k - 1, by omega⟩
    have e2 : nI f + (1 : Int32) = nI (f + 1) := nI_pl f 1
    have hs := hT.2.2.2.1 f (by omega)
    have hsl : ∀ c, ts T f = some c → c < W * H := fun c e => (hW.2.2.2.2.1 f (by omega) c e).1
    rw [f_X3_holders_L5]
    simp only [jn, bd, gP_4 ho, nP_4 ho, ck_t (inb_nI (show f < 6 by omega) (by omega)), cl_nI (show f < 1000000 by omega), mI_mk, e2]
    rw [if_neg (show ¬ (6 : Int32) ≤ nI f by rw [show (6 : Int32) = nI 6 from rfl, nI_le' (by omega) (by omega)]; omega), msk_or f (by omega) _ (msk_lt hv f)]
    have hno : hv f = false → nI (msk hv (f + 1)) = nI (msk hv f) := fun w => by rw [msk, w]; rfl
    have hye : hv f = true → nI (msk hv (f + 1)) = nI (msk hv f + 2 ^ f) := fun w => by rw [msk, w]; rfl
    have hi := ih (f + 1) k (by omega) (by omega)
    cases e : ts T f with
    | none =>
      rw [e] at hs
      rw [if_pos (show I (z + (o + 4)) f = -1 from hs)]
      have : hv f = false := by
        cases hb : hv f with
        | false => rfl
        | true => obtain ⟨s, w, -⟩ := (hh f (by omega)).mp hb; rw [e] at w; cases w
      rw [hno this] at hi; exact hi
    | some s =>
      rw [e] at hs
      have hsl' := hsl s e
      rw [hs, if_neg (show ¬ oI (some s) = -1 from nI_nm1 (by omega)), show oI (some s) = nI s from rfl]
      by_cases hb : bt r s = true
      · rw [if_neg (fun w => by rw [bit_0 r (by omega), hb] at w; cases w)]
        have : hv f = true := (hh f (by omega)).mpr ⟨s, e, hb⟩
        rw [hye this] at hi; exact hi
      · have hb' : bt r s = false := by cases h : bt r s with | false => rfl | true => exact absurd h hb
        rw [if_pos ((bit_0 r (by omega)).mpr hb')]
        have : hv f = false := by
          cases h : hv f with
          | false => rfl
          | true => obtain ⟨s', w, w2⟩ := (hh f (by omega)).mp h; rw [e] at w; cases w; exact absurd w2 hb
        rw [hno this] at hi; exact hi
theorem s_holders (hn : 100000 ≤ n) (hD : dims W H) (ho : isP o) (hW : TW (W * H) M T) (hT : ClsT z (W * H) o I J T) (r : Int64) {hv : Nat → Bool} (hh : ∀ f, f < 6 → (hv f = true ↔ ∃ s, ts T f = some s ∧ bt r s = true)) : f_X3_holders n (z + o) r (mk z (W * H) I J t u) = some (nI (msk hv 6), mk z (W * H) I J t u) :=
  holders_L hD ho hW hT r hh 6 0 n rfl (by omega)
theorem msk64 (h : Nat → Bool) : msk h 6 < 64 := msk_lt h 6
/-- who has the field of s: whose stake lies in it -/
theorem hav_iff {C s : Nat} {r : Int64} (hr : ∀ q, bt r q = true ↔ Rch W (Ft C T) s q) (f : Nat) : havT W C T s f = true ↔ ∃ s', ts T f = some s' ∧ bt r s' = true := by
  unfold havT
  rw [dec_t]
  unfold hasT
  exact ⟨fun ⟨s', e, h⟩ => ⟨s', e, (hr s').mpr h.sm⟩, fun ⟨s', e, h⟩ => ⟨s', e, ((hr s').mp h).sm⟩⟩
theorem hav_iffH {C f0 s : Nat} {r : Int64} (h0 : ts T f0 = some s) (hr : ∀ q, bt r q = true ↔ hasT W C T f0 q) (f : Nat) : havT W C T s f = true ↔ ∃ s', ts T f = some s' ∧ bt r s' = true :=
  hav_iff (fun q => (hr q).trans ⟨fun ⟨s', e, h⟩ => by rw [h0] at e; cases e; exact h, fun h => ⟨s, h0, h⟩⟩) f
theorem bits_siz {C s : Nat} {r : Int64} (hC : C ≤ 48) (hr : ∀ q, bt r q = true ↔ Rch W (Ft C T) s q) : bits r = sizT W C T s := by
  rw [bits_C hC (fun c hc => by
    cases h : bt r c with
    | false => rfl
    | true => have := ((hr c).mp h).lt; omega)]
  exact cnt_congr _ (fun i _ => eq_dec (hr i))
/-- the area of a farmer -/
theorem s_share (hn : 100000 ≤ n) (hD : dims W H) (ho : isP o) (hW : TW (W * H) M T) (hT : ClsT z (W * H) o I J T) {f : Nat} (hf : f < 6) {r : Int64} (hr : ∀ q, bt r q = true ↔ hasT W (W * H) T f q) : f_X3_share n (z + o) r (mk z (W * H) I J t u) = some (nI (areaT W (W * H) T f), mk z (W * H) I J t u) := by
  have hC := hD.C
  unfold f_X3_share
  cases e : ts T f with
  | none =>
    have hr0 : ∀ q, bt r q = false := fun q => by
      cases h : bt r q with
      | false => rfl
      | true => obtain ⟨s, w, -⟩ := (hr q).mp h; rw [e] at w; cases w
    rw [s_holders hn hD ho hW hT r (hv := fun _ => false) (fun f _ => ⟨fun w => (by cases w), fun ⟨s, _, w⟩ => by rw [hr0] at w; cases w⟩), cl_some, s_bitCount6 (msk64 _), cl_some, pc_msk, cnt_zero 6 (fun _ _ => rfl), if_pos (by decide), areaT_n e]
    rfl
  | some s =>
    have hsF := hW.2.2.2.2.1 f hf s e
    have hrs : ∀ q, bt r q = true ↔ Rch W (Ft (W * H) T) s q := fun q => (hr q).trans ⟨fun ⟨s', w, h⟩ => by rw [e] at w; cases w; exact h, fun h => ⟨s, e, h⟩⟩
    have h1 : 1 ≤ cnt (havT W (W * H) T s) 6 := by
      have := cnt_lt (f := fun _ => false) (g := havT W (W * H) T s) 6 (fun _ _ w => by cases w) ⟨f, hf, rfl, dec_t.mpr ⟨s, e, Rch.rf hsF⟩⟩
      omega
    have h6 := cnt_le (havT W (W * H) T s) 6
    have hb := bits_le r
    rw [s_holders hn hD ho hW hT r (fun f' _ => hav_iff hrs f'), cl_some, s_bitCount6 (msk64 _), cl_some, pc_msk, if_neg (by rw [show (0 : Int32) = nI 0 from rfl, nI_inj (by omega) (by omega)]; omega), s_bitCount, cl_some, dv_n h1 (by omega), nI_dv (by omega) h1 (by omega), bits_siz hC hrs, areaT_s e]
end CF
