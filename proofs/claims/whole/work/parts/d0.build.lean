/-! A STATE AS IT IS BUILT: kinds, lengths, references (place, field, to) -/
def chn : List (Nat × Nat × Nat) → Nat → Nat → Option Nat
  | [], _, _ => none
  | e :: r, o, j => if o = e.1 ∧ j = e.2.1 then some e.2.2 else chn r o j
def bk (z : Nat) (K N : List Nat) (rl : List (Nat × Nat × Nat)) (I : Nat → Nat → Int32) (J : Nat → Nat → Int64) : MS := ((List.range K.length).map (fun o => z + o), fun a => if a < z then 0 else K.getD (a - z) 0, fun a => if a < z then 0 else N.getD (a - z) 0, I, J, fun a k => if a < z then none else (chn rl (a - z) k).map (fun o => z + o))
def BkW (z l : Nat) (K N : List Nat) (rl : List (Nat × Nat × Nat)) (I : Nat → Nat → Int32) (J : Nat → Nat → Int64) : Prop := K.length = l ∧ N.length = l ∧ (∀ e, e ∈ rl → e.1 < l) ∧ (∀ q, z + l ≤ q → I q = fun _ => 0) ∧ (∀ q, z + l ≤ q → J q = fun _ => 0)
section BK
variable {n z l : Nat} {K N : List Nat} {rl : List (Nat × Nat × Nat)} {I : Nat → Nat → Int32} {J : Nat → Nat → Int64} {α : Type}
theorem chn_n {o j : Nat} (h : ∀ e, e ∈ rl → e.1 < l) (ho : l ≤ o) : chn rl o j = none := by
  induction rl with
  | nil => rfl
  | cons e r ih =>
    rw [chn, if_neg (fun y => by have := h e (List.mem_cons_self ..); omega)]
    exact ih (fun e he => h e (List.mem_cons_of_mem _ he))
theorem apD {c o : Nat} : (K ++ [c]).getD o 0 = if o = K.length then c else K.getD o 0 := by
  rw [List.getD_eq_getElem?_getD, List.getD_eq_getElem?_getD]
  by_cases e : o = K.length
  · rw [if_pos e, e, List.getElem?_append_right (Nat.le_refl _), Nat.sub_self]; rfl
  · rw [if_neg e]
    by_cases h : o < K.length
    · rw [List.getElem?_append_left h]
    · rw [List.getElem?_eq_none (by rw [List.length_append]; show K.length + 1 ≤ o; omega), List.getElem?_eq_none (by omega)]
theorem ap_f {c : Nat} (hl : K.length = l) : va_up (fun a => if a < z then 0 else K.getD (a - z) 0) (z + l) c = fun a => if a < z then 0 else (K ++ [c]).getD (a - z) 0 := by
  funext b
  by_cases e : b = z + l
  · rw [e, va_up_self, if_neg (by omega), Nat.add_sub_cancel_left, apD, if_pos hl.symm]
  · rw [va_up_ne _ _ e]
    by_cases y : b < z
    · rw [if_pos y, if_pos y]
    · rw [if_neg y, if_neg y, apD, if_neg (by omega)]
theorem bk_len : (mL (bk z K N rl I J)).length = K.length := by
  show ((List.range K.length).map (fun o => z + o)).length = _
  rw [List.length_map, List.length_range]
theorem BkW.nwk (h : BkW z l K N rl I J) (c m : Nat) : BkW z (l + 1) (K ++ [c]) (N ++ [m]) rl I J := by
  obtain ⟨h1, h2, h3, h4, h5⟩ := h
  exact ⟨by rw [List.length_append, h1]; rfl, by rw [List.length_append, h2]; rfl, fun e he => by have := h3 e he; omega, fun q hq => h4 q (by omega), fun q hq => h5 q (by omega)⟩
theorem BkW.rfk (h : BkW z l K N rl I J) {a : Nat} (ha : a < l) (k v : Nat) : BkW z l K N ((a, k, v) :: rl) I J := by
  obtain ⟨h1, h2, h3, h4, h5⟩ := h
  refine ⟨h1, h2, fun e he => ?_, h4, h5⟩
  rcases List.mem_cons.mp he with y | y
  · rw [y]; exact ha
  · exact h3 e y
theorem BkW.ik (h : BkW z l K N rl I J) {a : Nat} (ha : a < l) (k : Nat) (v : Int32) : BkW z l K N rl (up2 I (z + a) k v) J := by
  obtain ⟨h1, h2, h3, h4, h5⟩ := h
  exact ⟨h1, h2, h3, fun q hq => by rw [up2_ne (by omega)]; exact h4 q hq, h5⟩
theorem BkW.irk (h : BkW z l K N rl I J) {a : Nat} (ha : a < l) (g : Nat → Int32) : BkW z l K N rl (upr I (z + a) g) J := by
  obtain ⟨h1, h2, h3, h4, h5⟩ := h
  exact ⟨h1, h2, h3, fun q hq => by rw [upr_ne (by omega)]; exact h4 q hq, h5⟩
theorem BkW.jk (h : BkW z l K N rl I J) {a : Nat} (ha : a < l) (k : Nat) (v : Int64) : BkW z l K N rl I (up2 J (z + a) k v) := by
  obtain ⟨h1, h2, h3, h4, h5⟩ := h
  exact ⟨h1, h2, h3, h4, fun q hq => by rw [up2_ne (by omega)]; exact h5 q hq⟩
theorem bk_nw (h : BkW z l K N rl I J) (c m : Nat) : nw (bk z K N rl I J) (z + l) c m = bk z (K ++ [c]) (N ++ [m]) rl I J := by
  obtain ⟨h1, h2, h3, h4, h5⟩ := h
  refine Prod.ext ?_ (Prod.ext ?_ (Prod.ext ?_ (Prod.ext ?_ (Prod.ext ?_ ?_))))
  · show (List.range K.length).map (fun o => z + o) ++ [z + l] = (List.range (K ++ [c]).length).map (fun o => z + o)
    rw [List.length_append, show K.length + [c].length = K.length + 1 from rfl, List.range_succ, List.map_append, h1]
    rfl
  · exact ap_f h1
  · exact ap_f h2
  · show upr I (z + l) (fun _ => 0) = I
    rw [← h4 (z + l) (Nat.le_refl _)]; exact upr_self I (z + l)
  · show upr J (z + l) (fun _ => 0) = J
    rw [← h5 (z + l) (Nat.le_refl _)]; exact uprJ_self J (z + l)
  · show upr (fun a k => if a < z then none else (chn rl (a - z) k).map (fun o => z + o)) (z + l) (fun _ => none) = (fun a k => if a < z then none else (chn rl (a - z) k).map (fun o => z + o))
    funext b k
    by_cases e : b = z + l
    · rw [e, upr_v, if_neg (by omega), Nat.add_sub_cancel_left, chn_n h3 (Nat.le_refl _)]; rfl
    · rw [upr_x e]
theorem bk_sR {a k v : Nat} : sR (bk z K N rl I J) (z + a) k (some (z + v)) = bk z K N ((a, k, v) :: rl) I J := by
  refine Prod.ext rfl (Prod.ext rfl (Prod.ext rfl (Prod.ext rfl (Prod.ext rfl ?_))))
  show up2 (fun a k => if a < z then none else (chn rl (a - z) k).map (fun o => z + o)) (z + a) k (some (z + v)) = (fun b j => if b < z then none else (chn ((a, k, v) :: rl) (b - z) j).map (fun o => z + o))
  funext b j
  by_cases e : b = z + a ∧ j = k
  · rw [e.1, e.2, up2_v, if_neg (by omega), Nat.add_sub_cancel_left, chn, if_pos ⟨rfl, rfl⟩]; rfl
  · rw [up2_x e]
    by_cases y : b < z
    · rw [if_pos y, if_pos y]
    · rw [if_neg y, if_neg y, chn, if_neg (fun w => e ⟨by have w1 : b - z = a := w.1; omega, w.2⟩)]
theorem bk_gR {a k v c : Nat} {F : Nat → Option α} (h1 : chn rl a k = some v) (hv : v < K.length) (hk : K.getD v 0 = c) : gR (bk z K N rl I J) (mR (bk z K N rl I J) (z + a) k) c F = F (z + v) := by
  refine gR_some ?_ (List.mem_map.mpr ⟨v, List.mem_range.mpr hv, rfl⟩) ?_
  · show (if z + a < z then none else (chn rl (z + a - z) k).map (fun o => z + o)) = some (z + v)
    rw [if_neg (by omega), Nat.add_sub_cancel_left, h1]; rfl
  · show (if z + v < z then 0 else K.getD (z + v - z) 0) = c
    rw [if_neg (by omega), Nat.add_sub_cancel_left, hk]
theorem bk_mN (o : Nat) : mN (bk z K N rl I J) (z + o) = N.getD o 0 := by
  show (if z + o < z then 0 else N.getD (z + o - z) 0) = _
  rw [if_neg (by omega), Nat.add_sub_cancel_left]
/-- a new cell -/
theorem nw_st {c m : Nat} {F : Nat → MS → Option α} (h : BkW z l K N rl I J) : (jn (z + (mL (bk z K N rl I J)).length) fun q => bd (nw (bk z K N rl I J) q c m) fun S2 => F q S2) = F (z + l) (bk z (K ++ [c]) (N ++ [m]) rl I J) := by
  show F (z + (mL (bk z K N rl I J)).length) (nw (bk z K N rl I J) (z + (mL (bk z K N rl I J)).length) c m) = _
  rw [bk_len, h.1, bk_nw h]
/-- a new row, put into a field -/
theorem al_st {cc : Bool} {c m a k : Nat} {F : MS → Option α} (h : BkW z l K N rl I J) (hc : cc = true) : ck cc (jn (z + (mL (bk z K N rl I J)).length) fun q => bd (nw (bk z K N rl I J) q c m) fun S2 => bd (sR S2 (z + a) k (some q)) fun S5 => F S5) = F (bk z (K ++ [c]) (N ++ [m]) ((a, k, l) :: rl) I J) := by
  rw [ck_t hc]
  refine (nw_st h).trans ?_
  show F (sR (bk z (K ++ [c]) (N ++ [m]) rl I J) (z + a) k (some (z + l))) = _
  rw [bk_sR]
theorem BkW.alk (h : BkW z l K N rl I J) (c m : Nat) {a : Nat} (ha : a < l) (k : Nat) : BkW z (l + 1) (K ++ [c]) (N ++ [m]) ((a, k, l) :: rl) I J := (h.nwk c m).rfk (by omega) k l
/-- a row filled -/
def flI (I : Nat → Nat → Int32) (a m : Nat) (v : Int32) : Nat → Nat → Int32 := upr I a (fun j => if j < m then v else I a j)
theorem fl_L {a m : Nat} (hm : m ≤ 1000) (v : Int32) : ∀ (d i k : Nat) (S : MS), mN S a = m → i + d = m → d < k → f_J7_fill_53178_L5 n a v (nI m) k (nI i) S = some (rI S a (fun j => if i ≤ j ∧ j < m then v else mI S a j)) := by
  intro d
  induction d with
  | zero =>
    intro i k S hS hi hk
    obtain ⟨k, rfl⟩ : ∃ q, k = q + 1 := ⟨k - 1, by omega⟩
    rw [f_J7_fill_53178_L5]
    simp only [jn]
    rw [if_pos (show nI m ≤ nI i by rw [nI_le' (by omega) (by omega)]; omega)]
    have : (fun j => if i ≤ j ∧ j < m then v else mI S a j) = mI S a := by
      funext j; rw [if_neg (by omega)]
    rw [this]
    show some S = some (S.1, S.2.1, S.2.2.1, upr S.2.2.2.1 a (S.2.2.2.1 a), S.2.2.2.2.1, S.2.2.2.2.2)
    rw [upr_self]
  | succ d ih =>
    intro i k S hS hi hk
    obtain ⟨k, rfl⟩ : ∃ q, k = q + 1 := ⟨k - 1, by omega⟩
    rw [f_J7_fill_53178_L5]
    simp only [jn, bd]
    rw [if_neg (show ¬ nI m ≤ nI i by rw [nI_le' (by omega) (by omega)]; omega), hS, ck_t (inb_nI (by omega) (by omega)), cl_nI (by omega), show nI i + (1 : Int32) = nI (i + 1) from nI_pl i 1, ih (i + 1) k (sI S a i v) hS (by omega) (by omega)]
    congr 1
    refine Prod.ext rfl (Prod.ext rfl (Prod.ext rfl (Prod.ext ?_ (Prod.ext rfl rfl))))
    show upr (up2 S.2.2.2.1 a i v) a (fun j => if i + 1 ≤ j ∧ j < m then v else up2 S.2.2.2.1 a i v a j) = upr S.2.2.2.1 a (fun j => if i ≤ j ∧ j < m then v else S.2.2.2.1 a j)
    funext b j
    by_cases e : b = a
    · rw [e, upr_v, upr_v]
      by_cases e2 : j = i
      · rw [e2, if_neg (by omega), up2_v, if_pos (by omega)]
      · rw [up2_x (by omega)]
        by_cases e3 : i ≤ j ∧ j < m
        · rw [if_pos e3, if_pos (by omega)]
        · rw [if_neg e3, if_neg (by omega)]
    · rw [upr_x e, upr_x e, up2_ne e]
theorem fl_bk (hn : 100000 ≤ n) {o m : Nat} (hm : N.getD o 0 = m) (h1 : m ≤ 1000) (v : Int32) : f_J7_fill_53178 n (z + o) v (bk z K N rl I J) = some (bk z K N rl (flI I (z + o) m v) J) := by
  unfold f_J7_fill_53178
  show f_J7_fill_53178_L5 n (z + o) v (Int32.ofNat (mN (bk z K N rl I J) (z + o))) n (0 : Int32) (bk z K N rl I J) = _
  have e := fl_L (n := n) (a := z + o) h1 v m 0 n (bk z K N rl I J) ((bk_mN o).trans hm) (by omega) (by omega)
  rw [bk_mN, hm]
  refine Eq.trans e ?_
  have : (fun j => if 0 ≤ j ∧ j < m then v else mI (bk z K N rl I J) (z + o) j) = (fun j => if j < m then v else I (z + o) j) := by
    funext j
    by_cases y : j < m
    · rw [if_pos ⟨Nat.zero_le _, y⟩, if_pos y]
    · rw [if_neg (fun w => y w.2), if_neg y]; rfl
  rw [this]
  rfl
theorem BkW.flk (h : BkW z l K N rl I J) {a : Nat} (ha : a < l) (m : Nat) (v : Int32) : BkW z l K N rl (flI I (z + a) m v) J := h.irk ha _
theorem flI_ne {a b m : Nat} {v : Int32} (h : b ≠ a) : flI I a m v b = I b := upr_ne h
theorem flI_at {a m j : Nat} {v : Int32} (h : j < m) : flI I a m v a j = v := by unfold flI; rw [upr_v, if_pos h]
end BK
