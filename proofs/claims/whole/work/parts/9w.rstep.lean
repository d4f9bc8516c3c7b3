/-! THE REFERENCE'S READER: marker, compared, whole, what begins and what stands behind a ONE -/
def ixP (m : Nat) : Int32 := if m = 0 then -1 else nI (m - 1)
theorem ixP_a (m : Nat) : nI m + (-1 : Int32) = ixP m := by
  unfold ixP
  by_cases h : m = 0
  · rw [if_pos h, h]; rfl
  · rw [if_neg h, nI_m1 (by omega)]
theorem ixP_b (m : Nat) : nI m - (1 : Int32) = ixP m := by
  unfold ixP
  by_cases h : m = 0
  · rw [if_pos h, h]; rfl
  · rw [if_neg h, nI_s1 (by omega)]
section RG
variable {n z C t r so : Nat} {u : Option Nat} {I : Nat → Nat → Int32} {J : Nat → Nat → Int64} {tk : Nat → Nat × Nat} {Tq : TQ} {i op : Nat} {c : Cd} {p : List Nat} {w : Bool}
theorem revc (p : List Nat) (o : Nat) (Q : List Nat) : p ++ (o :: Q).reverse = (p ++ Q.reverse) ++ [o] := by rw [List.reverse_cons, List.append_assoc]
theorem lenr (p Q : List Nat) : (p ++ Q.reverse).length = p.length + Q.length := by rw [List.length_append, List.length_reverse]
theorem mark_L : ∀ (Q : List Nat) (k : Nat), plF (I (z + 87)) (p ++ Q.reverse) → (p ++ Q.reverse).length ≤ 120 → (∀ o, o ∈ Q → o < 40) → f_X11_marker_L7 n (z + 83) (k + Q.length) (ixP (p.length + Q.length)) (mk z C I J t u) = f_X11_marker_L7 n (z + 83) k (ixP p.length) (mk z C I J t u)
  | [], k, _, _, _ => rfl
  | o :: Q, k, h, hl, hQ => by
    have hl' := hl
    rw [lenr] at hl'
    rw [revc] at h hl
    have h40 := hQ o (List.mem_cons_self ..)
    have htop := plF_top h
    rw [lenr] at htop
    have m87 : mI (mk z C I J t u) (z + 87) (p.length + Q.length) = nI o := htop
    have hlen : (o :: Q).length = Q.length + 1 := rfl
    rw [hlen] at hl' ⊢
    rw [← Nat.add_assoc k, f_X11_marker_L7]
    simp only [jn, bd]
    rw [show ixP (p.length + (Q.length + 1)) = nI (p.length + Q.length) by unfold ixP; rw [if_neg (by omega)]; rfl, if_neg (nI_pos (by omega)), g83_19, n87, ck_t (inb_nI (by omega) (by omega)), cl_nI (by omega), m87, if_neg (show ¬ (40 : Int32) ≤ nI o by rw [show (40 : Int32) = nI 40 from rfl, nI_le' (by omega) (by omega)]; omega), ixP_a]
    exact mark_L Q k (plF_pre h) (by rw [List.length_append] at hl; omega) (fun o ho => hQ o (List.mem_cons_of_mem _ ho))
theorem q_mark (hn : 100000 ≤ n) (h : RfS z r so Tq I J i c p op w) {a : List Nat} {Q : List Nat} (hp : p = a ++ Q.reverse) (hQ : ∀ o, o ∈ Q → o < 40) (ha : a = [] ∨ ∃ b m, a = b ++ [m] ∧ 40 ≤ m ∧ m < 1000) : f_X11_marker n (z + 83) (mk z C I J t u) = some (ixP a.length, mk z C I J t u) := by
  have m20 : mI (mk z C I J t u) (z + 83) 20 = nI p.length := h.2.2.2.2.1
  have h6 := h.2.2.2.2.2.1
  have hl := h.2.2.2.2.2.2.2.2.2.2.1
  subst hp
  rw [lenr] at m20
  have hQl : Q.length ≤ 120 := by rw [lenr] at hl; omega
  obtain ⟨k, hk⟩ : ∃ k, n = (k + 1) + Q.length := ⟨n - Q.length - 1, by omega⟩
  unfold f_X11_marker
  simp only [bd]
  rw [m20, ixP_b, show f_X11_marker_L7 n (z + 83) n = f_X11_marker_L7 n (z + 83) ((k + 1) + Q.length) by rw [← hk], mark_L Q (k + 1) h6 hl hQ, f_X11_marker_L7]
  simp only [jn, bd]
  rcases ha with rfl | ⟨b, m, rfl, m1, m2⟩
  · rw [if_pos (by decide)]
  · have htop := plF_top (plF_pre h6)
    have m87 : mI (mk z C I J t u) (z + 87) b.length = nI m := htop
    have hbl : (b ++ [m]).length = b.length + 1 := by rw [List.length_append]; rfl
    rw [lenr, hbl] at hl
    rw [hbl, show ixP (b.length + 1) = nI b.length by unfold ixP; rw [if_neg (by omega)]; rfl, if_neg (nI_pos (by omega)), g83_19, n87, ck_t (inb_nI (by omega) (by omega)), cl_nI (by omega), m87, if_pos (show (40 : Int32) ≤ nI m by rw [show (40 : Int32) = nI 40 from rfl, nI_le' (by omega) (by omega)]; omega)]
theorem comp_L (K : Int32 → MS → Option (Int32 × MS)) : ∀ (Q : List Nat) (k : Nat), plF (I (z + 87)) (p ++ Q.reverse) → (p ++ Q.reverse).length ≤ 120 → (∀ o, o ∈ Q → o < 1000 ∧ 4 < rkN o) → f_X11_isCompared_L7 n (z + 83) K (k + Q.length) (ixP (p.length + Q.length)) (mk z C I J t u) = f_X11_isCompared_L7 n (z + 83) K k (ixP p.length) (mk z C I J t u)
  | [], k, _, _, _ => rfl
  | o :: Q, k, h, hl, hQ => by
    have hl' := hl
    rw [lenr] at hl'
    rw [revc] at h hl
    obtain ⟨h40, hrk⟩ := hQ o (List.mem_cons_self ..)
    have hr8 := rkN_lt o
    have htop := plF_top h
    rw [lenr] at htop
    have m87 : mI (mk z C I J t u) (z + 87) (p.length + Q.length) = nI o := htop
    have hlen : (o :: Q).length = Q.length + 1 := rfl
    rw [hlen] at hl' ⊢
    rw [← Nat.add_assoc k, f_X11_isCompared_L7]
    simp only [jn, bd]
    rw [show ixP (p.length + (Q.length + 1)) = nI (p.length + Q.length) by unfold ixP; rw [if_neg (by omega)]; rfl, if_neg (nI_pos (by omega)), g83_19, n87, ck_t (inb_nI (by omega) (by omega)), cl_nI (by omega), m87, q_rank h40, cl_some, if_neg (show ¬ nI (rkN o) ≤ (4 : Int32) by rw [show (4 : Int32) = nI 4 from rfl, nI_le' (by omega) (by omega)]; omega), ixP_a]
    exact comp_L K Q k (plF_pre h) (by rw [List.length_append] at hl; omega) (fun o ho => hQ o (List.mem_cons_of_mem _ ho))
theorem q_comp (hn : 100000 ≤ n) (h : RfS z r so Tq I J i c p op w) {a : List Nat} {Q : List Nat} (hp : p = a ++ Q.reverse) (hQ : ∀ o, o ∈ Q → o < 1000 ∧ 4 < rkN o) {b : Bool} (ha : (a = [] ∧ b = false) ∨ ∃ a' m, a = a' ++ [m] ∧ m < 1000 ∧ rkN m ≤ 4 ∧ (b = true ↔ rkN m = 4)) : f_X11_isCompared n (z + 83) (mk z C I J t u) = some (bWC b, mk z C I J t u) := by
  have m20 : mI (mk z C I J t u) (z + 83) 20 = nI p.length := h.2.2.2.2.1
  have h6 := h.2.2.2.2.2.1
  have hl := h.2.2.2.2.2.2.2.2.2.2.1
  subst hp
  rw [lenr] at m20
  have hQl : Q.length ≤ 120 := by rw [lenr] at hl; omega
  obtain ⟨k, hk⟩ : ∃ k, n = (k + 1) + Q.length := ⟨n - Q.length - 1, by omega⟩
  unfold f_X11_isCompared
  simp only [jn, bd]
  have hfu : ∀ (K : Int32 → MS → Option (Int32 × MS)) (x : Int32) (S : MS), f_X11_isCompared_L7 n (z + 83) K n x S = f_X11_isCompared_L7 n (z + 83) K ((k + 1) + Q.length) x S := fun K x S => by rw [← hk]
  rw [m20, ixP_b, hfu, comp_L _ Q (k + 1) h6 hl hQ, f_X11_isCompared_L7]
  simp only [jn, bd]
  rcases ha with ⟨rfl, rfl⟩ | ⟨a', m, rfl, m1, m2, m3⟩
  · rw [if_pos (by decide), if_pos (by decide), zb_0]; rfl
  · have htop := plF_top (plF_pre h6)
    have m87 : mI (mk z C I J t u) (z + 87) a'.length = nI m := htop
    have hbl : (a' ++ [m]).length = a'.length + 1 := by rw [List.length_append]; rfl
    rw [lenr, hbl] at hl
    rw [hbl, show ixP (a'.length + 1) = nI a'.length by unfold ixP; rw [if_neg (by omega)]; rfl, if_neg (nI_pos (by omega)), g83_19, n87, ck_t (inb_nI (by omega) (by omega)), cl_nI (by omega), m87, q_rank m1, cl_some, if_pos (show nI (rkN m) ≤ (4 : Int32) by rw [show (4 : Int32) = nI 4 from rfl, nI_le' (by omega) (by omega)]; omega), if_neg (nI_pos (by omega)), g83_19, n87, ck_t (inb_nI (by omega) (by omega)), m87, q_rank m1, cl_some]
    have e4 : nI (rkN m) = (4 : Int32) ↔ rkN m = 4 := by rw [show (4 : Int32) = nI 4 from rfl, nI_inj (by omega) (by omega)]
    cases b with
    | true => rw [if_pos (e4.mpr (m3.mp rfl)), zb_1]; rfl
    | false => rw [if_neg (fun w => by have := m3.mpr (e4.mp w); cases this), zb_0]; rfl
/-- settle, as it is called -/
theorem q_set (hn : 100000 ≤ n) (hT : TokOK n z C t u tk Tq) {L : Nat} (hL : L < 1000) {Q : List Nat} (h : RfS z r so Tq I J i c (p ++ Q.reverse) op w) (hQ : ∀ o, o ∈ Q → o < 1000 ∧ L ≤ rkN o) (hp : p = [] ∨ ∃ p' o, p = p' ++ [o] ∧ o < 1000 ∧ rkN o < L) (hl : c.length + Q.length ≤ 300) (ho : cnU Q ≤ op) : ∃ I', f_X11_settle n (z + 83) (nI L) (mk z C I J t u) = some (mk z C I' J t u) ∧ RfS z r so Tq I' J i (c ++ mpC Q) p (op - cnU Q) w ∧ FrQ z r I I' J J := q_settle hT hL Q n I c op (by have := h.2.2.2.2.2.2.2.2.2.2.1; rw [lenr] at this; omega) h hQ hp hl ho
theorem rep_2 : ∀ j, (∀ o, o ∈ List.replicate j 2 → o < 1000 ∧ 7 ≤ rkN o) ∧ cnU (List.replicate j 2) = j ∧ mpC (List.replicate j 2) = ngC j ∧ (List.replicate j 2).reverse = List.replicate j 2 := by
  intro j
  refine ⟨fun o ho => by rw [List.eq_of_mem_replicate ho]; decide, ?_, ?_, List.reverse_replicate⟩
  · induction j with
    | zero => rfl
    | succ j ih => rw [List.replicate_succ]; show 1 + cnU (List.replicate j 2) = j + 1; rw [ih]; omega
  · unfold mpC ngC; rw [List.map_replicate]
/-- whole: the minus signs on top are settled -/
theorem q_whole (hn : 100000 ≤ n) (hT : TokOK n z C t u tk Tq) {j : Nat} (h : RfS z r so Tq I J i c (p ++ List.replicate j 2) op w) (hp : p = [] ∨ ∃ p' o, p = p' ++ [o] ∧ o < 1000 ∧ rkN o < 7) (hl : c.length + j ≤ 300) (ho : j ≤ op) : ∃ I', f_X11_whole n (z + 83) (mk z C I J t u) = some (mk z C I' J t u) ∧ RfS z r so Tq I' J i (c ++ ngC j) p (op - j) true ∧ FrQ z r I I' J J := by
  obtain ⟨r1, r2, r3, r4⟩ := rep_2 j
  have s1 := q_w hT h true
  obtain ⟨I2, e2, s2, f2⟩ := q_set (L := 7) (Q := List.replicate j 2) hn hT (by omega) (by rw [r4]; exact s1.1) r1 hp (by rw [List.length_replicate]; exact hl) (by rw [r2]; exact ho)
  rw [r3, r2] at s2
  refine ⟨I2, ?_, s2, s1.2.trq f2⟩
  unfold f_X11_whole
  simp only [bd]
  rw [zb_1, sI_mk, show (1 : Int32) = bWC true from rfl, show (7 : Int32) = nI 7 from rfl, e2, cv_some]
theorem q_isOf {a : Nat} (h : RfS z r so Tq I J i c p op w) (hso : so < 4) (ha : a < 12) : f_X11_isOf n (z + 83) (nI a) (mk z C I J t u) = some ((if isOfN so a = true then 1 else 0), mk z C I J t u) := by
  have m23 : mI (mk z C I J t u) (z + 83) 23 = nI so := h.2.2.2.2.2.2.2.2.1
  have key : ∀ so, so < 4 → ∀ a, a < 12 → (if nI so = (2 : Int32) then (if (8 : Int32) < nI a then (1 : Int32) else (if nI a = (3 : Int32) then 1 else (if nI a = (4 : Int32) then 1 else 0))) else (if nI a < (6 : Int32) then 1 else (if nI so = (1 : Int32) then (if nI a < (8 : Int32) then 1 else (if nI so = (3 : Int32) then (if nI a = (8 : Int32) then 1 else 0) else 0)) else (if nI so = (3 : Int32) then (if nI a = (8 : Int32) then 1 else 0) else 0)))) = (if isOfN so a = true then 1 else 0) := by decide +kernel
  rw [← key so hso a ha]
  unfold f_X11_isOf
  simp only [jn]
  rw [m23]
  simp only [zb_1, zb_0]
  repeat' split
  all_goals rfl
end RG
