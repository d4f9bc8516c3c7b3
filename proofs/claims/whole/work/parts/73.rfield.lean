/-! THE REFERENCE'S FIELDS over an abstract plain; row 93 the labels -/
section RF
variable {n z t W H M B C : Nat} {I : Nat → Nat → Int32} {J : Nat → Nat → Int64} {u : Option Nat} {T : TP}
theorem pa_e {a : Nat → Int32} {j m : Nat} (h : plj j = true) (e : m = B + j) : a m = pa a B j := by rw [e]; exact (pa_in h).symm
theorem RefT.stk (hT : RefT z C B I T) {f : Nat} (hf : f < 6) : I (z + 84) (B + 85 + f) = oI (ts T f) := by
  exact (pa_e (a := I (z + 84)) (B := B) (j := 85 + f) (plj_85 (by omega)) (by omega)).trans (hT.2.2.2.1 f hf)
theorem RefT.cnt (hT : RefT z C B I T) : I (z + 84) (B + 1) = nI (tk T) := by
  exact (pa_e (a := I (z + 84)) (B := B) (j := 1) (by decide) rfl).trans (hT.1)
theorem RefT.hor (hT : RefT z C B I T) : I (z + 84) B = nI (th T) := by
  exact (pa_e (a := I (z + 84)) (B := B) (j := 0) (by decide) rfl).trans (hT.2.1)
theorem RefT.cel (hT : RefT z C B I T) (hW : TW C M T) {i : Nat} (hi : i < tk T) : I (z + 84) (B + 10 + 3 * i) = nI (tc T i) := by
  have := hW.1
  exact (pa_e (a := I (z + 84)) (B := B) (j := 10 + 3 * i) (plj_10 (by omega)) (by omega)).trans ((hT.2.2.1 i hi).1)
theorem RefT.wgt (hT : RefT z C B I T) (hW : TW C M T) {i : Nat} (hi : i < tk T) : I (z + 84) (B + 11 + 3 * i) = nI (tw T i) := by
  have := hW.1
  exact (pa_e (a := I (z + 84)) (B := B) (j := 11 + 3 * i) (by have := plj_10 (i := 1 + 3 * i) (by omega); rwa [show 10 + (1 + 3 * i) = 11 + 3 * i by omega] at this) (by omega)).trans ((hT.2.2.1 i hi).2.1)
theorem RefT.lie (hT : RefT z C B I T) (hW : TW C M T) {i : Nat} (hi : i < tk T) : I (z + 84) (B + 12 + 3 * i) = nI (tl T i) := by
  have := hW.1
  exact (pa_e (a := I (z + 84)) (B := B) (j := 12 + 3 * i) (by have := plj_10 (i := 2 + 3 * i) (by omega); rwa [show 10 + (2 + 3 * i) = 12 + 3 * i by omega] at this) (by omega)).trans ((hT.2.2.1 i hi).2.2.1)
theorem RefT.crp (hT : RefT z C B I T) (hC : C ≤ 48) {c : Nat} (hc : c < C) : I (z + 84) (B + 240 + c) = tr T c := by
  exact (pa_e (a := I (z + 84)) (B := B) (j := 240 + c) (by have := plj_190 (i := 50 + c) (by omega); rwa [show 190 + (50 + c) = 240 + c by omega] at this) (by omega)).trans (hT.2.2.2.2.1 c hc)
theorem RefT.lai (hT : RefT z C B I T) (hC : C ≤ 48) (hW : TW C M T) {c : Nat} (hc : c < C) : (Bn T c ∧ ¬ I (z + 84) (B + 290 + c) ≤ 0) ∨ (¬ Bn T c ∧ I (z + 84) (B + 290 + c) = 0) := by
  have := hW.1
  rw [show I (z + 84) (B + 290 + c) = pa (I (z + 84)) B (290 + c) from pa_e (plj_290 (by omega)) (by omega)]
  by_cases h : Bn T c
  · left
    obtain ⟨i, hi, rfl⟩ := h
    refine ⟨⟨i, hi, rfl⟩, ?_⟩
    rw [(hT.2.2.1 i hi).2.2.2, show (0 : Int32) = nI 0 from rfl, nI_le' (by omega) (by omega)]; omega
  · exact Or.inr ⟨h, hT.2.2.2.2.2 c hc h⟩
theorem Fr_Ft (hC : C ≤ 48) (hW : TW C M T) (hT : RefT z C B I T) (c : Nat) : Fr C B (I (z + 84)) c ↔ Ft C T c := by
  unfold Fr Ft
  refine and_congr_right (fun hc => ?_)
  rcases hT.lai hC hW hc with ⟨h1, h2⟩ | ⟨h1, h2⟩
  · exact ⟨fun w => absurd (by rw [w]; decide) h2, fun w => absurd h1 w⟩
  · exact ⟨fun _ => h1, fun _ => h2⟩
theorem LabR.congr {F G : Nat → Prop} {g : Nat → Int32} (hFG : ∀ q, F q ↔ G q) (h : LabR W C F g) : LabR W C G g := by
  intro c hc
  refine ⟨fun w => ?_, fun w => (h c hc).2 (fun q => w ((hFG c).mp q))⟩
  obtain ⟨m, e, h1, h2⟩ := (h c hc).1 ((hFG c).mpr w)
  exact ⟨m, e, h1.congr hFG, fun d hd => h2 d (hd.congr (fun q => (hFG q).symm))⟩
/-- findFields: row 93 holds the labels, no other row changes -/
theorem s_find (hn : 100000 ≤ n) (hD : dims W H) (hM : ModR z W H B I) (hB : B ≤ 2380) (hW : TW (W * H) M T) (hT : RefT z (W * H) B I T) :
    ∃ g, f_X11_findFields n (z + 83) (mk z (W * H) I J t u) = some (mk z (W * H) (upr I (z + 93) g) J t u) ∧ LabR W (W * H) (Ft (W * H) T) g := by
  obtain ⟨g, e, h⟩ := s_findFields (n := n) (J := J) (t := t) (u := u) hn hD hM hB (fun c hc => (hT.lai hD.C hW hc).elim (fun w => Or.inr w.2) (fun w => Or.inl w.2))
  exact ⟨g, e, h.congr (Fr_Ft hD.C hW hT)⟩
/-- a label is that of s just where it hangs together with s -/
theorem lab_eq {F : Nat → Prop} {g : Nat → Int32} (hC : C ≤ 48) (hFC : ∀ c, F c → c < C) (h : LabR W C F g) {s c : Nat} (hs : F s) (hc : c < C) : g c = g s ↔ Rch W F s c := by
  obtain ⟨m, e, h1, h2⟩ := (h s (hFC s hs)).1 hs
  have hm := hFC m h1.en
  by_cases hF : F c
  · obtain ⟨m', e', h1', h2'⟩ := (h c hc).1 hF
    have hm' := hFC m' h1'.en
    rw [e, e', nI_inj (by omega) (by omega)]
    constructor
    · intro w; subst w; exact h1.tr h1'.sm
    · intro w
      exact Nat.le_antisymm (h2' m (w.sm.tr h1)) (h2 m' (w.tr h1'))
  · rw [(h c hc).2 hF, e]
    exact ⟨fun w => absurd w.symm (nI_nm1 (by omega)), fun w => absurd w.en hF⟩
theorem lab_nn {F : Nat → Prop} {g : Nat → Int32} (hC : C ≤ 48) (hFC : ∀ c, F c → c < C) (h : LabR W C F g) {c : Nat} (hc : c < C) : (g c < 0 ↔ ¬ F c) := by
  by_cases hF : F c
  · obtain ⟨m, e, h1, -⟩ := (h c hc).1 hF
    have := hFC m h1.en
    rw [e]
    exact ⟨fun w => absurd w (nI_pos (by omega)), fun w => absurd hF w⟩
  · rw [(h c hc).2 hF]
    exact ⟨fun _ => hF, fun _ => by decide⟩
theorem FtC : ∀ c, Ft C T c → c < C := fun _ h => h.1
theorem s_stakeOf (hM : ModR z W H B I) (hB : B ≤ 2380) (hT : RefT z C B I T) {f : Nat} (hf : f < 6) : f_X11_stakeOf n (z + 83) (nI f) (mk z C I J t u) = some (oI (ts T f), mk z C I J t u) := by
  unfold f_X11_stakeOf
  have e1 : nI B + (85 : Int32) + nI f = nI (B + 85 + f) := by rw [show (85 : Int32) = nI 85 from rfl, nI_pl, nI_pl]
  rw [g83_0, n84, mI_mk, hM.2.2.2, e1, ck_t (inb_nI (by omega) (by omega)), cl_nI (by omega), mI_mk, hT.stk hf]
/-- the label of a farmer's field -/
def fo (T : TP) (g : Nat → Int32) (f : Nat) : Int32 := match ts T f with
  | none => -1
  | some s => g s
theorem s_fieldOf (hM : ModR z W H B I) (hB : B ≤ 2380) (hC : C ≤ 48) (hW : TW C M T) (hT : RefT z C B I T) {f : Nat} (hf : f < 6) : f_X11_fieldOf n (z + 83) (nI f) (mk z C I J t u) = some (fo T (I (z + 93)) f, mk z C I J t u) := by
  unfold f_X11_fieldOf fo
  rw [s_stakeOf hM hB hT hf, cl_some]
  cases e : ts T f with
  | none => rw [if_neg (show ¬ 0 ≤ oI none by decide)]
  | some s =>
    have hs := (hW.2.2.2.2.1 f hf s e).1
    rw [if_pos (show (0 : Int32) ≤ oI (some s) from (nI_le' (a := 0) (by omega) (by omega)).mpr (Nat.zero_le s)), g83_30, s_stakeOf hM hB hT hf, e, cl_some, n93, show oI (some s) = nI s from rfl, ck_t (inb_nI (by omega) (by omega)), cl_nI (by omega), mI_mk]
theorem fo_eq (hC : C ≤ 48) (hW : TW C M T) {g : Nat → Int32} (hg : LabR W C (Ft C T) g) {f : Nat} (hf : f < 6) {s : Nat} (hs : Ft C T s) : fo T g f = g s ↔ hasT W C T f s := by
  unfold fo hasT
  cases e : ts T f with
  | none =>
    obtain ⟨m, em, h1, -⟩ := (hg s hs.1).1 hs
    have := h1.en.1
    rw [em]
    exact ⟨fun w => absurd w.symm (nI_nm1 (by omega)), fun ⟨_, w, _⟩ => by cases w⟩
  | some s' =>
    have hs' := hW.2.2.2.2.1 f hf s' e
    show g s' = g s ↔ _
    rw [lab_eq hC FtC hg hs hs'.1]
    exact ⟨fun w => ⟨s', rfl, w.sm⟩, fun ⟨_, w, h⟩ => by cases w; exact h.sm⟩
theorem s_has (hM : ModR z W H B I) (hB : B ≤ 2380) (hC : C ≤ 48) (hW : TW C M T) (hT : RefT z C B I T) (hg : LabR W C (Ft C T) (I (z + 93))) {f : Nat} (hf : f < 6) {c : Nat} (hc : c < C) : f_X11_has n (z + 83) (nI f) (nI c) (mk z C I J t u) = some (bD (hasT W C T f c), mk z C I J t u) := by
  unfold f_X11_has
  simp only [g83_30, n93, ck_t (inb_nI (show c < 48 by omega) (show 48 < 1000000 by omega)), cl_nI (show c < 1000000 by omega), mI_mk, s_fieldOf hM hB hC hW hT hf, cl_some, zb_0, zb_1]
  by_cases hF : Ft C T c
  · rw [if_neg (fun w => (lab_nn hC FtC hg hc).mp w hF)]
    by_cases h : hasT W C T f c
    · exact (if_pos ((fo_eq hC hW hg hf hF).mpr h)).trans (by rw [bD_t h])
    · exact (if_neg (fun w => h ((fo_eq hC hW hg hf hF).mp w))).trans (by rw [bD_f h])
  · rw [if_pos ((lab_nn hC FtC hg hc).mpr hF), bD_f]
    rintro ⟨s, -, h⟩
    exact hF h.en
theorem sizeOf_L (hM : ModR z W H B I) (hC : W * H ≤ 48) (v : Int32) : ∀ (d i k : Nat), i + d = W * H → d < k → f_X11_sizeOf_L4 n (z + 83) v k (nI (cnt (fun c => decide (I (z + 93) c = v)) i)) (nI i) (mk z (W * H) I J t u) = some (nI (cnt (fun c => decide (I (z + 93) c = v)) (W * H)), mk z (W * H) I J t u) := by
  intro d
  induction d with
  | zero =>
    intro i k hi hk
    obtain ⟨k, rfl⟩ : ∃ m, k = m + 1 := ⟨k - 1, by omega⟩
    obtain rfl : i = W * H := by omega
    rw [f_X11_sizeOf_L4]
    simp only [jn]
    rw [mI_mk, hM.2.2.1, if_pos ((nI_le' (by omega) (by omega)).mpr (Nat.le_refl _))]
  | succ d ih =>
    intro i k hi hk
    obtain ⟨k, rfl⟩ : ∃ m, k = m + 1 := ⟨k - 1, by omega⟩
    have e2 : nI i + (1 : Int32) = nI (i + 1) := nI_pl i 1
    have hi2 := ih (i + 1) k (by omega) (by omega)
    rw [cnt] at hi2
    rw [f_X11_sizeOf_L4]
    simp only [jn, bd]
    rw [mI_mk, hM.2.2.1, if_neg (show ¬ nI (W * H) ≤ nI i by rw [nI_le' (by omega) (by omega)]; omega), g83_30, n93, ck_t (inb_nI (by omega) (by omega)), cl_nI (by omega), e2]
    by_cases h : I (z + 93) i = v
    · rw [if_pos (show mI (mk z (W * H) I J t u) (z + 93) i = v from h), show (1 : Int32) = nI 1 from rfl, nI_pl]
      rw [if_pos (by simpa using h)] at hi2
      exact hi2
    · rw [if_neg (show ¬ mI (mk z (W * H) I J t u) (z + 93) i = v from h), show (0 : Int32) = nI 0 from rfl, nI_pl]
      rw [if_neg (by simpa using h)] at hi2
      exact hi2
theorem s_sizeOf (hn : 100000 ≤ n) (hM : ModR z W H B I) (hC : W * H ≤ 48) (v : Int32) : f_X11_sizeOf n (z + 83) v (mk z (W * H) I J t u) = some (nI (cnt (fun c => decide (I (z + 93) c = v)) (W * H)), mk z (W * H) I J t u) := sizeOf_L hM hC v (W * H) 0 n (by omega) (by omega)
theorem havers_L (hM : ModR z W H B I) (hB : B ≤ 2380) (hC : C ≤ 48) (hW : TW C M T) (hT : RefT z C B I T) (v : Int32) : ∀ (d i k : Nat), i + d = 6 → d < k → f_X11_havers_L4 n (z + 83) v k (nI (cnt (fun f => decide (fo T (I (z + 93)) f = v)) i)) (nI i) (mk z C I J t u) = some (nI (cnt (fun f => decide (fo T (I (z + 93)) f = v)) 6), mk z C I J t u) := by
  intro d
  induction d with
  | zero =>
    intro i k hi hk
    obtain ⟨k, rfl⟩ : ∃ m, k = m + 1 := ⟨k - 1, by omega⟩
    obtain rfl : i = 6 := by omega
    rw [f_X11_havers_L4]
    simp only [jn]
    rw [if_pos (by decide)]
  | succ d ih =>
    intro i k hi hk
    obtain ⟨k, rfl⟩ : ∃ m, k = m + 1 := ⟨k - 1, by omega⟩
    have e2 : nI i + (1 : Int32) = nI (i + 1) := nI_pl i 1
    have hi2 := ih (i + 1) k (by omega) (by omega)
    rw [cnt] at hi2
    rw [f_X11_havers_L4]
    simp only [jn, bd]
    rw [if_neg (show ¬ (6 : Int32) ≤ nI i by rw [show (6 : Int32) = nI 6 from rfl, nI_le' (by omega) (by omega)]; omega), s_fieldOf hM hB hC hW hT (by omega), cl_some, e2]
    by_cases h : fo T (I (z + 93)) i = v
    · rw [if_pos h, show (1 : Int32) = nI 1 from rfl, nI_pl]
      rw [if_pos (by simpa using h)] at hi2
      exact hi2
    · rw [if_neg h, show (0 : Int32) = nI 0 from rfl, nI_pl]
      rw [if_neg (by simpa using h)] at hi2
      exact hi2
theorem s_havers (hn : 100000 ≤ n) (hM : ModR z W H B I) (hB : B ≤ 2380) (hC : C ≤ 48) (hW : TW C M T) (hT : RefT z C B I T) (v : Int32) : f_X11_havers n (z + 83) v (mk z C I J t u) = some (nI (cnt (fun f => decide (fo T (I (z + 93)) f = v)) 6), mk z C I J t u) := havers_L hM hB hC hW hT v 6 0 n rfl (by omega)
theorem whoHave_L (hM : ModR z W H B I) (hB : B ≤ 2380) (hC : C ≤ 48) (hW : TW C M T) (hT : RefT z C B I T) (v : Int32) : ∀ (d i k : Nat), i + d = 6 → d < k → f_X11_whoHave_L4 n (z + 83) v k (nI (msk (fun f => decide (fo T (I (z + 93)) f = v)) i)) (nI i) (mk z C I J t u) = some (nI (msk (fun f => decide (fo T (I (z + 93)) f = v)) 6), mk z C I J t u) := by
  intro d
  induction d with
  | zero =>
    intro i k hi hk
    obtain ⟨k, rfl⟩ : ∃ m, k = m + 1 := ⟨k - 1, by omega⟩
    obtain rfl : i = 6 := by omega
    rw [f_X11_whoHave_L4]
    simp only [jn]
    rw [if_pos (by decide)]
  | succ d ih =>
    intro i k hi hk
    obtain ⟨k, rfl⟩ : ∃ m, k = m + 1 := ⟨k - 1, by omega⟩
    have e2 : nI i + (1 : Int32) = nI (i + 1) := nI_pl i 1
    have hi2 := ih (i + 1) k (by omega) (by omega)
    rw [msk] at hi2
    rw [f_X11_whoHave_L4]
    simp only [jn, bd]
    rw [if_neg (show ¬ (6 : Int32) ≤ nI i by rw [show (6 : Int32) = nI 6 from rfl, nI_le' (by omega) (by omega)]; omega), s_fieldOf hM hB hC hW hT (by omega), cl_some, e2]
    by_cases h : fo T (I (z + 93)) i = v
    · rw [if_pos h, msk_or i (by omega) _ (msk_lt _ _)]
      rw [if_pos (by simpa using h)] at hi2
      exact hi2
    · rw [if_neg h, Int32.or_zero]
      rw [if_neg (by simpa using h)] at hi2
      exact hi2
theorem s_whoHave (hn : 100000 ≤ n) (hM : ModR z W H B I) (hB : B ≤ 2380) (hC : C ≤ 48) (hW : TW C M T) (hT : RefT z C B I T) (v : Int32) : f_X11_whoHave n (z + 83) v (mk z C I J t u) = some (nI (msk (fun f => decide (fo T (I (z + 93)) f = v)) 6), mk z C I J t u) := whoHave_L hM hB hC hW hT v 6 0 n rfl (by omega)
theorem siz_lab (hC : C ≤ 48) {g : Nat → Int32} (hg : LabR W C (Ft C T) g) {s : Nat} (hs : Ft C T s) : cnt (fun c => decide (g c = g s)) C = sizT W C T s :=
  cnt_congr _ (fun i hi => eq_dec (by rw [decide_eq_true_eq]; exact lab_eq hC FtC hg hs hi))
theorem hav_lab (hC : C ≤ 48) (hW : TW C M T) {g : Nat → Int32} (hg : LabR W C (Ft C T) g) {s : Nat} (hs : Ft C T s) : ∀ f, f < 6 → decide (fo T g f = g s) = havT W C T s f := fun f hf => eq_dec (by rw [decide_eq_true_eq]; exact fo_eq hC hW hg hf hs)
theorem hav_1 (hW : TW C M T) {f s : Nat} (hf : f < 6) (e : ts T f = some s) : 1 ≤ cnt (havT W C T s) 6 := by
  have := cnt_lt (f := fun _ => false) (g := havT W C T s) 6 (fun _ _ w => by cases w) ⟨f, hf, rfl, dec_t.mpr ⟨s, e, Rch.rf (hW.2.2.2.2.1 f hf s e)⟩⟩
  omega
theorem s_areaOf (hn : 100000 ≤ n) (hM : ModR z W H B I) (hB : B ≤ 2380) (hC : W * H ≤ 48) (hW : TW (W * H) M T) (hT : RefT z (W * H) B I T) (hg : LabR W (W * H) (Ft (W * H) T) (I (z + 93))) {f : Nat} (hf : f < 6) : f_X11_areaOf n (z + 83) (nI f) (mk z (W * H) I J t u) = some (nI (areaT W (W * H) T f), mk z (W * H) I J t u) := by
  unfold f_X11_areaOf
  rw [s_stakeOf hM hB hT hf, cl_some]
  cases e : ts T f with
  | none => rw [if_neg (show ¬ 0 ≤ oI none by decide), areaT_n e]; rfl
  | some s =>
    have hs := hW.2.2.2.2.1 f hf s e
    have hsC := hs.1
    have ef : fo T (I (z + 93)) f = I (z + 93) s := by unfold fo; rw [e]
    have h1 := hav_1 (W := W) hW hf e
    have h6 := cnt_le (havT W (W * H) T s) 6
    have hz := cnt_le (fun c => dec (Rch W (Ft (W * H) T) s c)) (W * H)
    rw [if_pos (show (0 : Int32) ≤ oI (some s) from (nI_le' (a := 0) (by omega) (by omega)).mpr (Nat.zero_le s)), s_fieldOf hM hB hC hW hT hf, cl_some, s_sizeOf hn hM hC, cl_some, s_fieldOf hM hB hC hW hT hf, cl_some, s_havers hn hM hB hC hW hT, cl_some, ef, siz_lab hC hg hs, cnt_congr 6 (hav_lab hC hW hg hs), dv_n h1 (by omega), nI_dv (by unfold sizT; omega) h1 (by omega), areaT_s e]
end RF
