abbrev rX11_copy : Room := { frames := 0, cells := 0, slots := 0, locals := 0 }
def f_X11_copy_L2 (n : Nat) (this : Nat) (a1 : Int32) (a2 : Int32) : Nat → Int32 → MS → Option (MS)
  | 0, _, _ => none
  | k + 1, x3, S4 => jn (f_X11_copy_L2 n this a1 a2 k) fun rec2_2 => (if (340 : Int32) ≤ x3 then some S4 else gR S4 (mR S4 this 0) 12 fun q5 => gR S4 (mR S4 this 0) 12 fun q7 => ck (inb (((340 : Int32) * a1) + x3) (mN S4 q7)) (ck (inb (((340 : Int32) * a2) + x3) (mN S4 q5)) (bd (sI S4 q5 (((340 : Int32) * a2) + x3).toNatClampNeg (mI S4 q7 (((340 : Int32) * a1) + x3).toNatClampNeg)) fun S11 => bd (x3 + (1 : Int32)) fun x13 => rec2_2 x13 S11)))
def f_X11_copy (n : Nat) (this : Nat) (a1 : Int32) (a2 : Int32) (S : MS) : Option (MS) :=
  f_X11_copy_L2 n this a1 a2 n (0 : Int32) S
set_option maxRecDepth 100000 in
set_option maxHeartbeats 4000000 in
theorem c_X11_copy (l : Launch) (G : Gx) (n : Nat) (this : Nat) (a1 : Int32) (a2 : Int32) (S : MS) (So : MS) (hf : f_X11_copy n this a1 a2 S = some So) (ok_this : Ok S this 11) : Cn G l yX11_copy cX11_copy 4 none rX11_copy [.ref this, .int a1, .int a2] S none So := by
  refine Cn.of (by decide) (Nat.le_of_ble_eq_true rfl) ?_
  intro p e s m args below meth c hC hname hR ls hl
  have hC : Cx G RX11 cX11_copy 4 none p s m args meth c := hC
  have hl : lv_has ls 4 [(0, .ref this), (1, .int a1), (2, .int a2)] := hl
  have hx := hC.x
  have hb := hC.b
  have hS : va_S (gA G) s.heap s.heap [] := va_S.rf
  have hE : Ex S S := Ex.rf S
  unfold f_X11_copy at hf
  refine lv_iconst (v := 0) hx hb dX11_copy_0 (by decide) ?_
  refine lv_istore_n (lv' := [(3, .int (0 : Int32)), (0, .ref this), (1, .int a1), (2, .int a2)]) hx hb dX11_copy_1 rfl hl (by decide) rfl (fun ls hl => ?_)
  have hh14 : ∀ k : Nat, ∀ (x3 : Int32) (S4 : MS) (H : Heap) (locs : List Loc) (ls : Array Slot), f_X11_copy_L2 n this a1 a2 k x3 S4 = some So → Rp G S4 H → va_S (gA G) s.heap H locs → Ex S S4 → Ok S4 this 11 → lv_has ls 4 [(0, .ref this), (1, .int a1), (2, .int a2), (3, .int x3)] → W p l e rX11_copy s m args below meth c H locs 0 0 (MQ below (Qn G S none So) args s 0 0 (gA G)) (F0 m 2 ls []) := by
    intro k
    induction k with
    | zero =>
      intro x3 S4 H locs ls hf hR hS hE ok_this hl
      exact absurd hf (by rw [f_X11_copy_L2]; exact fun h => by cases h)
    | succ k ih =>
      intro x3 S4 H locs ls hf hR hS hE ok_this hl
      rw [f_X11_copy_L2] at hf
      obtain ⟨rec2_2, erec2_2, hf⟩ := jn_of2 hf
      have hL2_1 : ∀ (x3 : Int32) (S4 : MS) (H : Heap) (locs : List Loc) (ls : Array Slot), rec2_2 x3 S4 = some So → Rp G S4 H → va_S (gA G) s.heap H locs → Ex S S4 → Ok S4 this 11 → lv_has ls 4 [(0, .ref this), (1, .int a1), (2, .int a2), (3, .int x3)] → W p l e rX11_copy s m args below meth c H locs 0 0 (MQ below (Qn G S none So) args s 0 0 (gA G)) (F0 m 2 ls []) := by
        intro x3 S4 H locs ls hf hR hS hE ok_this hl
        rw [erec2_2] at hf
        exact ih x3 S4 _ _ _ hf hR hS hE ok_this hl
      refine lv_iload_n hx hb dX11_copy_2 rfl (lv_at hl 3 rfl) ?_
      refine lv_sipush (v := 340) hx hb dX11_copy_3 (by decide) ?_
      refine lv_icmp_ge (tgt := 39) hx hb dX11_copy_6 (by decide) (fun hc => ?_) (fun hc => ?_)
      · replace hf := if_t hf hc
        exact r_vret hC hR hS hE hf dX11_copy_39
      · replace hf := if_f hf hc
        refine lv_aload_n hx hb dX11_copy_9 rfl (lv_at hl 0 rfl) ?_
        obtain ⟨q5, hq6, ok_q5, hf⟩ := gR_of hf
        refine gf_RX11_7 hC hR ok_this hq6 dX11_copy_10 ?_
        refine lv_sipush (v := 340) hx hb dX11_copy_13 (by decide) ?_
        refine lv_iload_n hx hb dX11_copy_16 rfl (lv_at hl 2 rfl) ?_
        refine lv_imul hx hb dX11_copy_17 ?_
        refine lv_iload_n hx hb dX11_copy_18 rfl (lv_at hl 3 rfl) ?_
        refine lv_iadd hx hb dX11_copy_19 ?_
        refine lv_aload_n hx hb dX11_copy_20 rfl (lv_at hl 0 rfl) ?_
        obtain ⟨q7, hq8, ok_q7, hf⟩ := gR_of hf
        refine gf_RX11_7 hC hR ok_this hq8 dX11_copy_21 ?_
        refine lv_sipush (v := 340) hx hb dX11_copy_24 (by decide) ?_
        refine lv_iload_n hx hb dX11_copy_27 rfl (lv_at hl 1 rfl) ?_
        refine lv_imul hx hb dX11_copy_28 ?_
        refine lv_iload_n hx hb dX11_copy_29 rfl (lv_at hl 3 rfl) ?_
        refine lv_iadd hx hb dX11_copy_30 ?_
        obtain ⟨hi9, hf⟩ := ck_of hf
        refine r_iald hC hR ok_q7 hi9 dX11_copy_31 ?_
        obtain ⟨hi10, hf⟩ := ck_of hf
        refine rB_iast hC hR hS ok_q5 hi10 dX11_copy_32 hf (fun S11 H locs hf hR hS hE12 => ?_)
        have ok_this := hE12 _ _ ok_this
        have ok_q5 := hE12 _ _ ok_q5
        have ok_q7 := hE12 _ _ ok_q7
        have hE := hE.tr hE12
        refine r_iinc (n := 1) (z := 1) (lv' := fun x13 => [(3, .int x13), (0, .ref this), (1, .int a1), (2, .int a2)]) hx hb dX11_copy_33 hl (k := 3) rfl (by decide) (by decide) (fun _ => rfl) hf (fun x13 ls hf hl => ?_)
        refine lv_goto (tgt := 2) hx hb dX11_copy_36 (by decide) ?_
        exact hL2_1 x13 S11 _ _ _ hf hR hS hE ok_this (lv_sub hl [1, 2, 3, 0] rfl)
  exact hh14 n (0 : Int32) S _ _ _ hf hR hS hE ok_this (lv_sub hl [1, 2, 3, 0] rfl)
abbrev rX11_init : Room := { frames := 1, cells := 13, slots := 6800, locals := 40 }
def f_X11_init_L244 (n : Nat) (this : Nat) : Nat → Int32 → MS → Option (MS)
  | 0, _, _ => none
  | k + 1, x112, S113 => jn (f_X11_init_L244 n this k) fun rec244_111 => (if (48 : Int32) ≤ x112 then cv (f_X11_copy n this (0 : Int32) (1 : Int32) S113) fun S114 => some S114 else gR S113 (mR S113 this 0) 12 fun q117 => ck (inb ((240 : Int32) + x112) (mN S113 q117)) (bd (sI S113 q117 ((240 : Int32) + x112).toNatClampNeg (-1 : Int32)) fun S120 => bd (x112 + (1 : Int32)) fun x122 => rec244_111 x122 S120))
def f_X11_init_L219 (n : Nat) (this : Nat) (j242_108 : MS → Option (MS)) : Nat → Int32 → MS → Option (MS)
  | 0, _, _ => none
  | k + 1, x126, S127 => jn (f_X11_init_L219 n this j242_108 k) fun rec219_125 => (if (24 : Int32) ≤ x126 then j242_108 S127 else gR S127 (mR S127 this 0) 12 fun q128 => ck (inb ((165 : Int32) + x126) (mN S127 q128)) (bd (sI S127 q128 ((165 : Int32) + x126).toNatClampNeg (-1 : Int32)) fun S131 => bd (x126 + (1 : Int32)) fun x133 => rec219_125 x133 S131))
def f_X11_init_L195 (n : Nat) (this : Nat) (j217_105 : MS → Option (MS)) : Nat → Int32 → MS → Option (MS)
  | 0, _, _ => none
  | k + 1, x138, S139 => jn (f_X11_init_L195 n this j217_105 k) fun rec195_137 => (if (6 : Int32) ≤ x138 then j217_105 S139 else gR S139 (mR S139 this 0) 12 fun q140 => ck (inb ((85 : Int32) + x138) (mN S139 q140)) (bd (sI S139 q140 ((85 : Int32) + x138).toNatClampNeg (-1 : Int32)) fun S143 => bd (x138 + (1 : Int32)) fun x145 => rec195_137 x145 S143))
def f_X11_init (n : Nat) (z : Nat) (this : Nat) (a1 : Int32) (a2 : Int32) (S : MS) : Option (MS) :=
  ck (nak (2720 : Int32) 2720) (jn (z + (mL S).length) fun q1 => bd (nw S q1 12 (2720 : Int32).toNatClampNeg) fun S2 => bd (sR S2 this 0 (some q1)) fun S5 => ck (nak (2800 : Int32) 2800) (jn (z + (mL S5).length) fun q7 => bd (nw S5 q7 12 (2800 : Int32).toNatClampNeg) fun S8 => bd (sR S8 this 5 (some q7)) fun S11 => ck (nak (300 : Int32) 300) (jn (z + (mL S11).length) fun q13 => bd (nw S11 q13 12 (300 : Int32).toNatClampNeg) fun S14 => bd (sR S14 this 6 (some q13)) fun S17 => bd (sI S17 this 8 (-1 : Int32)) fun S19 => bd (sI S19 this 9 (-1 : Int32)) fun S21 => ck (nak (160 : Int32) 160) (jn (z + (mL S21).length) fun q23 => bd (nw S21 q23 12 (160 : Int32).toNatClampNeg) fun S24 => bd (sR S24 this 19 (some q23)) fun S27 => ck (nak (12 : Int32) 12) (jn (z + (mL S27).length) fun q29 => bd (nw S27 q29 12 (12 : Int32).toNatClampNeg) fun S30 => bd (sR S30 this 25 (some q29)) fun S33 => ck (nak (330 : Int32) 330) (jn (z + (mL S33).length) fun q35 => bd (nw S33 q35 13 (330 : Int32).toNatClampNeg) fun S36 => bd (sR S36 this 26 (some q35)) fun S39 => ck (nak (330 : Int32) 330) (jn (z + (mL S39).length) fun q41 => bd (nw S39 q41 14 (330 : Int32).toNatClampNeg) fun S42 => bd (sR S42 this 27 (some q41)) fun S45 => ck (nak (24 : Int32) 24) (jn (z + (mL S45).length) fun q47 => bd (nw S45 q47 12 (24 : Int32).toNatClampNeg) fun S48 => bd (sR S48 this 28 (some q47)) fun S51 => ck (nak (24 : Int32) 24) (jn (z + (mL S51).length) fun q53 => bd (nw S51 q53 14 (24 : Int32).toNatClampNeg) fun S54 => bd (sR S54 this 29 (some q53)) fun S57 => ck (nak (48 : Int32) 48) (jn (z + (mL S57).length) fun q59 => bd (nw S57 q59 12 (48 : Int32).toNatClampNeg) fun S60 => bd (sR S60 this 30 (some q59)) fun S63 => ck (nak (5 : Int32) 5) (jn (z + (mL S63).length) fun q65 => bd (nw S63 q65 12 (5 : Int32).toNatClampNeg) fun S66 => bd (sR S66 this 31 (some q65)) fun S69 => ck (nak (6 : Int32) 6) (jn (z + (mL S69).length) fun q71 => bd (nw S69 q71 13 (6 : Int32).toNatClampNeg) fun S72 => bd (sR S72 this 32 (some q71)) fun S75 => ck (nak (41 : Int32) 41) (jn (z + (mL S75).length) fun q77 => bd (nw S75 q77 14 (41 : Int32).toNatClampNeg) fun S78 => bd (sR S78 this 35 (some q77)) fun S81 => jn (fun (q85 : Nat) (x86 : Int32) (S87 : MS) => bd (sI S87 q85 1 x86) fun S88 => jn (fun (q92 : Nat) (x93 : Int32) (S94 : MS) => bd (sI S94 q92 2 x93) fun S95 => bd (sI S95 this 3 ((mI S95 this 1) * (mI S95 this 2))) fun S97 => gR S97 (mR S97 this 0) 12 fun q99 => ck (inb (4 : Int32) (mN S97 q99)) (bd (sI S97 q99 (4 : Int32).toNatClampNeg (-1 : Int32)) fun S102 => jn (fun (S106 : MS) => jn (fun (S109 : MS) => f_X11_init_L244 n this n (0 : Int32) S109) fun j242_108 => f_X11_init_L219 n this j242_108 n (0 : Int32) S106) fun j217_105 => f_X11_init_L195 n this j217_105 n (0 : Int32) S102)) fun j170_91 => (if (3 : Int32) ≤ a2 then (if a2 ≤ (6 : Int32) then j170_91 this a2 S88 else j170_91 this (6 : Int32) S88) else j170_91 this (3 : Int32) S88)) fun j145_84 => (if (3 : Int32) ≤ a1 then (if a1 ≤ (8 : Int32) then j145_84 this a1 S81 else j145_84 this (8 : Int32) S81) else j145_84 this (3 : Int32) S81))))))))))))))
set_option maxRecDepth 100000 in
set_option maxHeartbeats 4000000 in
theorem c_X11_init (l : Launch) (G : Gx) (n : Nat) (this : Nat) (a1 : Int32) (a2 : Int32) (S : MS) (So : MS) (hf : f_X11_init n G.2.2 this a1 a2 S = some So) (ok_this : Ok S this 11) : Cn G l yX11_init cX11_init 4 none rX11_init [.ref this, .int a1, .int a2] S none So := by
  refine Cn.of (by decide) (Nat.le_of_ble_eq_true rfl) ?_
  intro p e s m args below meth c hC hname hR ls hl
  have hC : Cx G RX11 cX11_init 4 none p s m args meth c := hC
  have hl : lv_has ls 4 [(0, .ref this), (1, .int a1), (2, .int a2)] := hl
  have hx := hC.x
  have hb := hC.b
  have hS : va_S (gA G) s.heap s.heap [] := va_S.rf
  have hE : Ex S S := Ex.rf S
  unfold f_X11_init at hf
  refine lv_aload_n hx hb dX11_init_0 rfl (lv_at hl 0 rfl) ?_
  refine r_obj hC hl.1 (bg7 _ (List.mem_of_getElem? (i := 10) rfl)) (bg1 _ (List.mem_of_getElem? (i := 14) rfl)) (bg1 _ (List.mem_of_getElem? (i := 15) rfl)) (Nat.le_of_ble_eq_true rfl) (Nat.le_of_ble_eq_true rfl) dX11_init_1 ?_
  refine lv_aload_n hx hb dX11_init_4 rfl (lv_at hl 0 rfl) ?_
  refine lv_sipush (v := 2720) hx hb dX11_init_5 (by decide) ?_
  obtain ⟨hi4, hf⟩ := ck_of hf
  obtain ⟨q1, eq1, hf⟩ := jn_of hf
  refine r_newa (ci := 12) (NB := 2720) (t0 := 0) (ty := .int) rfl (bg3 _ (List.mem_of_getElem? (i := 15) rfl)) rfl (fun _ _ h => h) (atI G) (by decide) hC hR hS hi4 (Nat.le_of_ble_eq_true rfl) (Nat.le_of_ble_eq_true rfl) dX11_init_8 eq1 hf (fun S2 H hf hR hS hE3 ok_q1 => ?_)
  have ok_this := hE3 _ _ ok_this
  have hE := hE.tr hE3
  refine pf_RX11_7 hC hR hS ok_this hname dX11_init_10 hf (fun S5 H locs hf hR hS hE6 => ?_)
  have ok_this := hE6 _ _ ok_this
  have ok_q1 := hE6 _ _ ok_q1
  have hE := hE.tr hE6
  refine lv_aload_n hx hb dX11_init_13 rfl (lv_at hl 0 rfl) ?_
  refine lv_sipush (v := 2800) hx hb dX11_init_14 (by decide) ?_
  obtain ⟨hi10, hf⟩ := ck_of hf
  obtain ⟨q7, eq7, hf⟩ := jn_of hf
  refine r_newa (ci := 12) (NB := 2800) (t0 := 0) (ty := .int) rfl (bg3 _ (List.mem_of_getElem? (i := 15) rfl)) rfl (fun _ _ h => h) (atI G) (by decide) hC hR hS hi10 (Nat.le_of_ble_eq_true rfl) (Nat.le_of_ble_eq_true rfl) dX11_init_17 eq7 hf (fun S8 H hf hR hS hE9 ok_q7 => ?_)
  have ok_this := hE9 _ _ ok_this
  have ok_q1 := hE9 _ _ ok_q1
  have hE := hE.tr hE9
  refine pf_RX11_13 hC hR hS ok_this hname dX11_init_19 hf (fun S11 H locs hf hR hS hE12 => ?_)
  have ok_this := hE12 _ _ ok_this
  have ok_q1 := hE12 _ _ ok_q1
  have ok_q7 := hE12 _ _ ok_q7
  have hE := hE.tr hE12
  refine lv_aload_n hx hb dX11_init_22 rfl (lv_at hl 0 rfl) ?_
  refine lv_sipush (v := 300) hx hb dX11_init_23 (by decide) ?_
  obtain ⟨hi16, hf⟩ := ck_of hf
  obtain ⟨q13, eq13, hf⟩ := jn_of hf
  refine r_newa (ci := 12) (NB := 300) (t0 := 0) (ty := .int) rfl (bg3 _ (List.mem_of_getElem? (i := 15) rfl)) rfl (fun _ _ h => h) (atI G) (by decide) hC hR hS hi16 (Nat.le_of_ble_eq_true rfl) (Nat.le_of_ble_eq_true rfl) dX11_init_26 eq13 hf (fun S14 H hf hR hS hE15 ok_q13 => ?_)
  have ok_this := hE15 _ _ ok_this
  have ok_q1 := hE15 _ _ ok_q1
  have ok_q7 := hE15 _ _ ok_q7
  have hE := hE.tr hE15
  refine pf_RX11_16 hC hR hS ok_this hname dX11_init_28 hf (fun S17 H locs hf hR hS hE18 => ?_)
  have ok_this := hE18 _ _ ok_this
  have ok_q1 := hE18 _ _ ok_q1
  have ok_q7 := hE18 _ _ ok_q7
  have ok_q13 := hE18 _ _ ok_q13
  have hE := hE.tr hE18
  refine lv_aload_n hx hb dX11_init_31 rfl (lv_at hl 0 rfl) ?_
  refine lv_iconst (v := -1) hx hb dX11_init_32 (by decide) ?_
  refine pf_RX11_19 hC hR hS ok_this dX11_init_33 hf (fun S19 H locs hf hR hS hE20 => ?_)
  have ok_this := hE20 _ _ ok_this
  have ok_q1 := hE20 _ _ ok_q1
  have ok_q7 := hE20 _ _ ok_q7
  have ok_q13 := hE20 _ _ ok_q13
  have hE := hE.tr hE20
  refine lv_aload_n hx hb dX11_init_36 rfl (lv_at hl 0 rfl) ?_
  refine lv_iconst (v := -1) hx hb dX11_init_37 (by decide) ?_
  refine pf_RX11_23 hC hR hS ok_this dX11_init_38 hf (fun S21 H locs hf hR hS hE22 => ?_)
  have ok_this := hE22 _ _ ok_this
  have ok_q1 := hE22 _ _ ok_q1
  have ok_q7 := hE22 _ _ ok_q7
  have ok_q13 := hE22 _ _ ok_q13
  have hE := hE.tr hE22
  refine lv_aload_n hx hb dX11_init_41 rfl (lv_at hl 0 rfl) ?_
  refine lv_sipush (v := 160) hx hb dX11_init_42 (by decide) ?_
  obtain ⟨hi26, hf⟩ := ck_of hf
  obtain ⟨q23, eq23, hf⟩ := jn_of hf
  refine r_newa (ci := 12) (NB := 160) (t0 := 0) (ty := .int) rfl (bg3 _ (List.mem_of_getElem? (i := 15) rfl)) rfl (fun _ _ h => h) (atI G) (by decide) hC hR hS hi26 (Nat.le_of_ble_eq_true rfl) (Nat.le_of_ble_eq_true rfl) dX11_init_45 eq23 hf (fun S24 H hf hR hS hE25 ok_q23 => ?_)
  have ok_this := hE25 _ _ ok_this
  have ok_q1 := hE25 _ _ ok_q1
  have ok_q7 := hE25 _ _ ok_q7
  have ok_q13 := hE25 _ _ ok_q13
  have hE := hE.tr hE25
  refine pf_RX11_26 hC hR hS ok_this hname dX11_init_47 hf (fun S27 H locs hf hR hS hE28 => ?_)
  have ok_this := hE28 _ _ ok_this
  have ok_q1 := hE28 _ _ ok_q1
  have ok_q7 := hE28 _ _ ok_q7
  have ok_q13 := hE28 _ _ ok_q13
  have ok_q23 := hE28 _ _ ok_q23
  have hE := hE.tr hE28
  refine lv_aload_n hx hb dX11_init_50 rfl (lv_at hl 0 rfl) ?_
  refine lv_bipush (v := 12) hx hb dX11_init_51 (by decide) ?_
  obtain ⟨hi32, hf⟩ := ck_of hf
  obtain ⟨q29, eq29, hf⟩ := jn_of hf
  refine r_newa (ci := 12) (NB := 12) (t0 := 0) (ty := .int) rfl (bg3 _ (List.mem_of_getElem? (i := 15) rfl)) rfl (fun _ _ h => h) (atI G) (by decide) hC hR hS hi32 (Nat.le_of_ble_eq_true rfl) (Nat.le_of_ble_eq_true rfl) dX11_init_53 eq29 hf (fun S30 H hf hR hS hE31 ok_q29 => ?_)
  have ok_this := hE31 _ _ ok_this
  have ok_q1 := hE31 _ _ ok_q1
  have ok_q7 := hE31 _ _ ok_q7
  have ok_q13 := hE31 _ _ ok_q13
  have ok_q23 := hE31 _ _ ok_q23
  have hE := hE.tr hE31
  refine pf_RX11_29 hC hR hS ok_this hname dX11_init_55 hf (fun S33 H locs hf hR hS hE34 => ?_)
  have ok_this := hE34 _ _ ok_this
  have ok_q1 := hE34 _ _ ok_q1
  have ok_q7 := hE34 _ _ ok_q7
  have ok_q13 := hE34 _ _ ok_q13
  have ok_q23 := hE34 _ _ ok_q23
  have ok_q29 := hE34 _ _ ok_q29
  have hE := hE.tr hE34
  refine lv_aload_n hx hb dX11_init_58 rfl (lv_at hl 0 rfl) ?_
  refine lv_sipush (v := 330) hx hb dX11_init_59 (by decide) ?_
  obtain ⟨hi38, hf⟩ := ck_of hf
  obtain ⟨q35, eq35, hf⟩ := jn_of hf
  refine r_newa (ci := 13) (NB := 330) (t0 := 1) (ty := .long) rfl (bg6 _ (List.mem_of_getElem? (i := 0) rfl)) rfl (fun _ _ h => h) (atJ G) (by decide) hC hR hS hi38 (Nat.le_of_ble_eq_true rfl) (Nat.le_of_ble_eq_true rfl) dX11_init_62 eq35 hf (fun S36 H hf hR hS hE37 ok_q35 => ?_)
  have ok_this := hE37 _ _ ok_this
  have ok_q1 := hE37 _ _ ok_q1
  have ok_q7 := hE37 _ _ ok_q7
  have ok_q13 := hE37 _ _ ok_q13
  have ok_q23 := hE37 _ _ ok_q23
  have ok_q29 := hE37 _ _ ok_q29
  have hE := hE.tr hE37
  refine pf_RX11_32 hC hR hS ok_this hname dX11_init_64 hf (fun S39 H locs hf hR hS hE40 => ?_)
  have ok_this := hE40 _ _ ok_this
  have ok_q1 := hE40 _ _ ok_q1
  have ok_q7 := hE40 _ _ ok_q7
  have ok_q13 := hE40 _ _ ok_q13
  have ok_q23 := hE40 _ _ ok_q23
  have ok_q29 := hE40 _ _ ok_q29
  have ok_q35 := hE40 _ _ ok_q35
  have hE := hE.tr hE40
  refine lv_aload_n hx hb dX11_init_67 rfl (lv_at hl 0 rfl) ?_
  refine lv_sipush (v := 330) hx hb dX11_init_68 (by decide) ?_
  obtain ⟨hi44, hf⟩ := ck_of hf
  obtain ⟨q41, eq41, hf⟩ := jn_of hf
  refine r_newa (ci := 14) (NB := 330) (t0 := 2) (ty := .boolean) rfl (bg7 _ (List.mem_of_getElem? (i := 19) rfl)) rfl (fun _ _ h => h) (atZ G) (by decide) hC hR hS hi44 (Nat.le_of_ble_eq_true rfl) (Nat.le_of_ble_eq_true rfl) dX11_init_71 eq41 hf (fun S42 H hf hR hS hE43 ok_q41 => ?_)
  have ok_this := hE43 _ _ ok_this
  have ok_q1 := hE43 _ _ ok_q1
  have ok_q7 := hE43 _ _ ok_q7
  have ok_q13 := hE43 _ _ ok_q13
  have ok_q23 := hE43 _ _ ok_q23
  have ok_q29 := hE43 _ _ ok_q29
  have ok_q35 := hE43 _ _ ok_q35
  have hE := hE.tr hE43
  refine pf_RX11_36 hC hR hS ok_this hname dX11_init_73 hf (fun S45 H locs hf hR hS hE46 => ?_)
  have ok_this := hE46 _ _ ok_this
  have ok_q1 := hE46 _ _ ok_q1
  have ok_q7 := hE46 _ _ ok_q7
  have ok_q13 := hE46 _ _ ok_q13
  have ok_q23 := hE46 _ _ ok_q23
  have ok_q29 := hE46 _ _ ok_q29
  have ok_q35 := hE46 _ _ ok_q35
  have ok_q41 := hE46 _ _ ok_q41
  have hE := hE.tr hE46
  refine lv_aload_n hx hb dX11_init_76 rfl (lv_at hl 0 rfl) ?_
  refine lv_bipush (v := 24) hx hb dX11_init_77 (by decide) ?_
  obtain ⟨hi50, hf⟩ := ck_of hf
  obtain ⟨q47, eq47, hf⟩ := jn_of hf
  refine r_newa (ci := 12) (NB := 24) (t0 := 0) (ty := .int) rfl (bg3 _ (List.mem_of_getElem? (i := 15) rfl)) rfl (fun _ _ h => h) (atI G) (by decide) hC hR hS hi50 (Nat.le_of_ble_eq_true rfl) (Nat.le_of_ble_eq_true rfl) dX11_init_79 eq47 hf (fun S48 H hf hR hS hE49 ok_q47 => ?_)
  have ok_this := hE49 _ _ ok_this
  have ok_q1 := hE49 _ _ ok_q1
  have ok_q7 := hE49 _ _ ok_q7
  have ok_q13 := hE49 _ _ ok_q13
  have ok_q23 := hE49 _ _ ok_q23
  have ok_q29 := hE49 _ _ ok_q29
  have ok_q35 := hE49 _ _ ok_q35
  have ok_q41 := hE49 _ _ ok_q41
  have hE := hE.tr hE49
  refine pf_RX11_40 hC hR hS ok_this hname dX11_init_81 hf (fun S51 H locs hf hR hS hE52 => ?_)
  have ok_this := hE52 _ _ ok_this
  have ok_q1 := hE52 _ _ ok_q1
  have ok_q7 := hE52 _ _ ok_q7
  have ok_q13 := hE52 _ _ ok_q13
  have ok_q23 := hE52 _ _ ok_q23
  have ok_q29 := hE52 _ _ ok_q29
  have ok_q35 := hE52 _ _ ok_q35
  have ok_q41 := hE52 _ _ ok_q41
  have ok_q47 := hE52 _ _ ok_q47
  have hE := hE.tr hE52
  refine lv_aload_n hx hb dX11_init_84 rfl (lv_at hl 0 rfl) ?_
  refine lv_bipush (v := 24) hx hb dX11_init_85 (by decide) ?_
  obtain ⟨hi56, hf⟩ := ck_of hf
  obtain ⟨q53, eq53, hf⟩ := jn_of hf
  refine r_newa (ci := 14) (NB := 24) (t0 := 2) (ty := .boolean) rfl (bg7 _ (List.mem_of_getElem? (i := 19) rfl)) rfl (fun _ _ h => h) (atZ G) (by decide) hC hR hS hi56 (Nat.le_of_ble_eq_true rfl) (Nat.le_of_ble_eq_true rfl) dX11_init_87 eq53 hf (fun S54 H hf hR hS hE55 ok_q53 => ?_)
  have ok_this := hE55 _ _ ok_this
  have ok_q1 := hE55 _ _ ok_q1
  have ok_q7 := hE55 _ _ ok_q7
  have ok_q13 := hE55 _ _ ok_q13
  have ok_q23 := hE55 _ _ ok_q23
  have ok_q29 := hE55 _ _ ok_q29
  have ok_q35 := hE55 _ _ ok_q35
  have ok_q41 := hE55 _ _ ok_q41
  have ok_q47 := hE55 _ _ ok_q47
  have hE := hE.tr hE55
  refine pf_RX11_43 hC hR hS ok_this hname dX11_init_89 hf (fun S57 H locs hf hR hS hE58 => ?_)
  have ok_this := hE58 _ _ ok_this
  have ok_q1 := hE58 _ _ ok_q1
  have ok_q7 := hE58 _ _ ok_q7
  have ok_q13 := hE58 _ _ ok_q13
  have ok_q23 := hE58 _ _ ok_q23
  have ok_q29 := hE58 _ _ ok_q29
  have ok_q35 := hE58 _ _ ok_q35
  have ok_q41 := hE58 _ _ ok_q41
  have ok_q47 := hE58 _ _ ok_q47
  have ok_q53 := hE58 _ _ ok_q53
  have hE := hE.tr hE58
  refine lv_aload_n hx hb dX11_init_92 rfl (lv_at hl 0 rfl) ?_
  refine lv_bipush (v := 48) hx hb dX11_init_93 (by decide) ?_
  obtain ⟨hi62, hf⟩ := ck_of hf
  obtain ⟨q59, eq59, hf⟩ := jn_of hf
  refine r_newa (ci := 12) (NB := 48) (t0 := 0) (ty := .int) rfl (bg3 _ (List.mem_of_getElem? (i := 15) rfl)) rfl (fun _ _ h => h) (atI G) (by decide) hC hR hS hi62 (Nat.le_of_ble_eq_true rfl) (Nat.le_of_ble_eq_true rfl) dX11_init_95 eq59 hf (fun S60 H hf hR hS hE61 ok_q59 => ?_)
  have ok_this := hE61 _ _ ok_this
  have ok_q1 := hE61 _ _ ok_q1
  have ok_q7 := hE61 _ _ ok_q7
  have ok_q13 := hE61 _ _ ok_q13
  have ok_q23 := hE61 _ _ ok_q23
  have ok_q29 := hE61 _ _ ok_q29
  have ok_q35 := hE61 _ _ ok_q35
  have ok_q41 := hE61 _ _ ok_q41
  have ok_q47 := hE61 _ _ ok_q47
  have ok_q53 := hE61 _ _ ok_q53
  have hE := hE.tr hE61
  refine pf_RX11_46 hC hR hS ok_this hname dX11_init_97 hf (fun S63 H locs hf hR hS hE64 => ?_)
  have ok_this := hE64 _ _ ok_this
  have ok_q1 := hE64 _ _ ok_q1
  have ok_q7 := hE64 _ _ ok_q7
  have ok_q13 := hE64 _ _ ok_q13
  have ok_q23 := hE64 _ _ ok_q23
  have ok_q29 := hE64 _ _ ok_q29
  have ok_q35 := hE64 _ _ ok_q35
  have ok_q41 := hE64 _ _ ok_q41
  have ok_q47 := hE64 _ _ ok_q47
  have ok_q53 := hE64 _ _ ok_q53
  have ok_q59 := hE64 _ _ ok_q59
  have hE := hE.tr hE64
  refine lv_aload_n hx hb dX11_init_100 rfl (lv_at hl 0 rfl) ?_
  refine lv_iconst (v := 5) hx hb dX11_init_101 (by decide) ?_
  obtain ⟨hi68, hf⟩ := ck_of hf
  obtain ⟨q65, eq65, hf⟩ := jn_of hf
  refine r_newa (ci := 12) (NB := 5) (t0 := 0) (ty := .int) rfl (bg3 _ (List.mem_of_getElem? (i := 15) rfl)) rfl (fun _ _ h => h) (atI G) (by decide) hC hR hS hi68 (Nat.le_of_ble_eq_true rfl) (Nat.le_of_ble_eq_true rfl) dX11_init_102 eq65 hf (fun S66 H hf hR hS hE67 ok_q65 => ?_)
  have ok_this := hE67 _ _ ok_this
  have ok_q1 := hE67 _ _ ok_q1
  have ok_q7 := hE67 _ _ ok_q7
  have ok_q13 := hE67 _ _ ok_q13
  have ok_q23 := hE67 _ _ ok_q23
  have ok_q29 := hE67 _ _ ok_q29
  have ok_q35 := hE67 _ _ ok_q35
  have ok_q41 := hE67 _ _ ok_q41
  have ok_q47 := hE67 _ _ ok_q47
  have ok_q53 := hE67 _ _ ok_q53
  have ok_q59 := hE67 _ _ ok_q59
  have hE := hE.tr hE67
  refine pf_RX11_49 hC hR hS ok_this hname dX11_init_104 hf (fun S69 H locs hf hR hS hE70 => ?_)
  have ok_this := hE70 _ _ ok_this
  have ok_q1 := hE70 _ _ ok_q1
  have ok_q7 := hE70 _ _ ok_q7
  have ok_q13 := hE70 _ _ ok_q13
  have ok_q23 := hE70 _ _ ok_q23
  have ok_q29 := hE70 _ _ ok_q29
  have ok_q35 := hE70 _ _ ok_q35
  have ok_q41 := hE70 _ _ ok_q41
  have ok_q47 := hE70 _ _ ok_q47
  have ok_q53 := hE70 _ _ ok_q53
  have ok_q59 := hE70 _ _ ok_q59
  have ok_q65 := hE70 _ _ ok_q65
  have hE := hE.tr hE70
  refine lv_aload_n hx hb dX11_init_107 rfl (lv_at hl 0 rfl) ?_
  refine lv_bipush (v := 6) hx hb dX11_init_108 (by decide) ?_
  obtain ⟨hi74, hf⟩ := ck_of hf
  obtain ⟨q71, eq71, hf⟩ := jn_of hf
  refine r_newa (ci := 13) (NB := 6) (t0 := 1) (ty := .long) rfl (bg6 _ (List.mem_of_getElem? (i := 0) rfl)) rfl (fun _ _ h => h) (atJ G) (by decide) hC hR hS hi74 (Nat.le_of_ble_eq_true rfl) (Nat.le_of_ble_eq_true rfl) dX11_init_110 eq71 hf (fun S72 H hf hR hS hE73 ok_q71 => ?_)
  have ok_this := hE73 _ _ ok_this
  have ok_q1 := hE73 _ _ ok_q1
  have ok_q7 := hE73 _ _ ok_q7
  have ok_q13 := hE73 _ _ ok_q13
  have ok_q23 := hE73 _ _ ok_q23
  have ok_q29 := hE73 _ _ ok_q29
  have ok_q35 := hE73 _ _ ok_q35
  have ok_q41 := hE73 _ _ ok_q41
  have ok_q47 := hE73 _ _ ok_q47
  have ok_q53 := hE73 _ _ ok_q53
  have ok_q59 := hE73 _ _ ok_q59
  have ok_q65 := hE73 _ _ ok_q65
  have hE := hE.tr hE73
  refine pf_RX11_52 hC hR hS ok_this hname dX11_init_112 hf (fun S75 H locs hf hR hS hE76 => ?_)
  have ok_this := hE76 _ _ ok_this
  have ok_q1 := hE76 _ _ ok_q1
  have ok_q7 := hE76 _ _ ok_q7
  have ok_q13 := hE76 _ _ ok_q13
  have ok_q23 := hE76 _ _ ok_q23
  have ok_q29 := hE76 _ _ ok_q29
  have ok_q35 := hE76 _ _ ok_q35
  have ok_q41 := hE76 _ _ ok_q41
  have ok_q47 := hE76 _ _ ok_q47
  have ok_q53 := hE76 _ _ ok_q53
  have ok_q59 := hE76 _ _ ok_q59
  have ok_q65 := hE76 _ _ ok_q65
  have ok_q71 := hE76 _ _ ok_q71
  have hE := hE.tr hE76
  refine lv_aload_n hx hb dX11_init_115 rfl (lv_at hl 0 rfl) ?_
  refine lv_bipush (v := 41) hx hb dX11_init_116 (by decide) ?_
  obtain ⟨hi80, hf⟩ := ck_of hf
  obtain ⟨q77, eq77, hf⟩ := jn_of hf
  refine r_newa (ci := 14) (NB := 41) (t0 := 2) (ty := .boolean) rfl (bg7 _ (List.mem_of_getElem? (i := 19) rfl)) rfl (fun _ _ h => h) (atZ G) (by decide) hC hR hS hi80 (Nat.le_of_ble_eq_true rfl) (Nat.le_of_ble_eq_true rfl) dX11_init_118 eq77 hf (fun S78 H hf hR hS hE79 ok_q77 => ?_)
  have ok_this := hE79 _ _ ok_this
  have ok_q1 := hE79 _ _ ok_q1
  have ok_q7 := hE79 _ _ ok_q7
  have ok_q13 := hE79 _ _ ok_q13
  have ok_q23 := hE79 _ _ ok_q23
  have ok_q29 := hE79 _ _ ok_q29
  have ok_q35 := hE79 _ _ ok_q35
  have ok_q41 := hE79 _ _ ok_q41
  have ok_q47 := hE79 _ _ ok_q47
  have ok_q53 := hE79 _ _ ok_q53
  have ok_q59 := hE79 _ _ ok_q59
  have ok_q65 := hE79 _ _ ok_q65
  have ok_q71 := hE79 _ _ ok_q71
  have hE := hE.tr hE79
  refine pf_RX11_55 hC hR hS ok_this hname dX11_init_120 hf (fun S81 H locs hf hR hS hE82 => ?_)
  have ok_this := hE82 _ _ ok_this
  have ok_q1 := hE82 _ _ ok_q1
  have ok_q7 := hE82 _ _ ok_q7
  have ok_q13 := hE82 _ _ ok_q13
  have ok_q23 := hE82 _ _ ok_q23
  have ok_q29 := hE82 _ _ ok_q29
  have ok_q35 := hE82 _ _ ok_q35
  have ok_q41 := hE82 _ _ ok_q41
  have ok_q47 := hE82 _ _ ok_q47
  have ok_q53 := hE82 _ _ ok_q53
  have ok_q59 := hE82 _ _ ok_q59
  have ok_q65 := hE82 _ _ ok_q65
  have ok_q71 := hE82 _ _ ok_q71
  have ok_q77 := hE82 _ _ ok_q77
  have hE := hE.tr hE82
  refine lv_aload_n hx hb dX11_init_123 rfl (lv_at hl 0 rfl) ?_
  refine lv_iload_n hx hb dX11_init_124 rfl (lv_at hl 1 rfl) ?_
  refine lv_iconst (v := 3) hx hb dX11_init_125 (by decide) ?_
  obtain ⟨j145_84, ej145_84, hf⟩ := jn_of3 hf
  have hj145_83 : ∀ (q85 : Nat) (x86 : Int32) (S87 : MS) (H : Heap) (locs : List Loc) (ls : Array Slot), j145_84 q85 x86 S87 = some So → Rp G S87 H → va_S (gA G) s.heap H locs → Ex S S87 → Ok S87 this 11 → Ok S87 q85 11 → lv_has ls 4 [(0, .ref this), (2, .int a2)] → W p l e rX11_init s m args below meth c H locs 13 6800 (MQ below (Qn G S none So) args s 13 6800 (gA G)) (F0 m 145 ls [.int x86, .ref q85]) := by
    intro q85 x86 S87 H locs ls hf hR hS hE ok_this ok_q85 hl
    rw [ej145_84] at hf
    refine pf_RX11_58 hC hR hS ok_q85 hname dX11_init_145 hf (fun S88 H locs hf hR hS hE89 => ?_)
    have ok_this := hE89 _ _ ok_this
    have ok_q85 := hE89 _ _ ok_q85
    have hE := hE.tr hE89
    refine lv_aload_n hx hb dX11_init_148 rfl (lv_at hl 0 rfl) ?_
    refine lv_iload_n hx hb dX11_init_149 rfl (lv_at hl 1 rfl) ?_
    refine lv_iconst (v := 3) hx hb dX11_init_150 (by decide) ?_
    obtain ⟨j170_91, ej170_91, hf⟩ := jn_of3 hf
    have hj170_90 : ∀ (q92 : Nat) (x93 : Int32) (S94 : MS) (H : Heap) (locs : List Loc) (ls : Array Slot), j170_91 q92 x93 S94 = some So → Rp G S94 H → va_S (gA G) s.heap H locs → Ex S S94 → Ok S94 this 11 → Ok S94 q92 11 → lv_has ls 4 [(0, .ref this)] → W p l e rX11_init s m args below meth c H locs 13 6800 (MQ below (Qn G S none So) args s 13 6800 (gA G)) (F0 m 170 ls [.int x93, .ref q92]) := by
      intro q92 x93 S94 H locs ls hf hR hS hE ok_this ok_q92 hl
      rw [ej170_91] at hf
      refine pf_RX11_61 hC hR hS ok_q92 hname dX11_init_170 hf (fun S95 H locs hf hR hS hE96 => ?_)
      have ok_this := hE96 _ _ ok_this
      have ok_q92 := hE96 _ _ ok_q92
      have hE := hE.tr hE96
      refine lv_aload_n hx hb dX11_init_173 rfl (lv_at hl 0 rfl) ?_
      refine lv_aload_n hx hb dX11_init_174 rfl (lv_at hl 0 rfl) ?_
      refine gf_RX11_58 hC hR ok_this dX11_init_175 ?_
      refine lv_aload_n hx hb dX11_init_178 rfl (lv_at hl 0 rfl) ?_
      refine gf_RX11_61 hC hR ok_this dX11_init_179 ?_
      refine lv_imul hx hb dX11_init_182 ?_
      refine pf_RX11_64 hC hR hS ok_this hname dX11_init_183 hf (fun S97 H locs hf hR hS hE98 => ?_)
      have ok_this := hE98 _ _ ok_this
      have ok_q92 := hE98 _ _ ok_q92
      have hE := hE.tr hE98
      refine lv_aload_n hx hb dX11_init_186 rfl (lv_at hl 0 rfl) ?_
      obtain ⟨q99, hq100, ok_q99, hf⟩ := gR_of hf
      refine gf_RX11_7 hC hR ok_this hq100 dX11_init_187 ?_
      refine lv_iconst (v := 4) hx hb dX11_init_190 (by decide) ?_
      refine lv_iconst (v := -1) hx hb dX11_init_191 (by decide) ?_
      obtain ⟨hi101, hf⟩ := ck_of hf
      refine rB_iast hC hR hS ok_q99 hi101 dX11_init_192 hf (fun S102 H locs hf hR hS hE103 => ?_)
      have ok_this := hE103 _ _ ok_this
      have ok_q92 := hE103 _ _ ok_q92
      have ok_q99 := hE103 _ _ ok_q99
      have hE := hE.tr hE103
      refine lv_iconst (v := 0) hx hb dX11_init_193 (by decide) ?_
      refine lv_istore_n (lv' := [(3, .int (0 : Int32)), (0, .ref this)]) hx hb dX11_init_194 rfl hl (by decide) rfl (fun ls hl => ?_)
      obtain ⟨j217_105, ej217_105, hf⟩ := jn_of1 hf
      have hj217_104 : ∀ (S106 : MS) (H : Heap) (locs : List Loc) (ls : Array Slot), j217_105 S106 = some So → Rp G S106 H → va_S (gA G) s.heap H locs → Ex S S106 → Ok S106 this 11 → lv_has ls 4 [(0, .ref this)] → W p l e rX11_init s m args below meth c H locs 13 6800 (MQ below (Qn G S none So) args s 13 6800 (gA G)) (F0 m 217 ls []) := by
        intro S106 H locs ls hf hR hS hE ok_this hl
        rw [ej217_105] at hf
        refine lv_iconst (v := 0) hx hb dX11_init_217 (by decide) ?_
        refine lv_istore_n (lv' := [(3, .int (0 : Int32)), (0, .ref this)]) hx hb dX11_init_218 rfl hl (by decide) rfl (fun ls hl => ?_)
        obtain ⟨j242_108, ej242_108, hf⟩ := jn_of1 hf
        have hj242_107 : ∀ (S109 : MS) (H : Heap) (locs : List Loc) (ls : Array Slot), j242_108 S109 = some So → Rp G S109 H → va_S (gA G) s.heap H locs → Ex S S109 → Ok S109 this 11 → lv_has ls 4 [(0, .ref this)] → W p l e rX11_init s m args below meth c H locs 13 6800 (MQ below (Qn G S none So) args s 13 6800 (gA G)) (F0 m 242 ls []) := by
          intro S109 H locs ls hf hR hS hE ok_this hl
          rw [ej242_108] at hf
          refine lv_iconst (v := 0) hx hb dX11_init_242 (by decide) ?_
          refine lv_istore_n (lv' := [(3, .int (0 : Int32)), (0, .ref this)]) hx hb dX11_init_243 rfl hl (by decide) rfl (fun ls hl => ?_)
          have hh123 : ∀ k : Nat, ∀ (x112 : Int32) (S113 : MS) (H : Heap) (locs : List Loc) (ls : Array Slot), f_X11_init_L244 n this k x112 S113 = some So → Rp G S113 H → va_S (gA G) s.heap H locs → Ex S S113 → Ok S113 this 11 → lv_has ls 4 [(0, .ref this), (3, .int x112)] → W p l e rX11_init s m args below meth c H locs 13 6800 (MQ below (Qn G S none So) args s 13 6800 (gA G)) (F0 m 244 ls []) := by
            intro k
            induction k with
            | zero =>
              intro x112 S113 H locs ls hf hR hS hE ok_this hl
              exact absurd hf (by rw [f_X11_init_L244]; exact fun h => by cases h)
            | succ k ih =>
              intro x112 S113 H locs ls hf hR hS hE ok_this hl
              rw [f_X11_init_L244] at hf
              obtain ⟨rec244_111, erec244_111, hf⟩ := jn_of2 hf
              have hL244_110 : ∀ (x112 : Int32) (S113 : MS) (H : Heap) (locs : List Loc) (ls : Array Slot), rec244_111 x112 S113 = some So → Rp G S113 H → va_S (gA G) s.heap H locs → Ex S S113 → Ok S113 this 11 → lv_has ls 4 [(0, .ref this), (3, .int x112)] → W p l e rX11_init s m args below meth c H locs 13 6800 (MQ below (Qn G S none So) args s 13 6800 (gA G)) (F0 m 244 ls []) := by
                intro x112 S113 H locs ls hf hR hS hE ok_this hl
                rw [erec244_111] at hf
                exact ih x112 S113 _ _ _ hf hR hS hE ok_this hl
              refine lv_iload_n hx hb dX11_init_244 rfl (lv_at hl 1 rfl) ?_
              refine lv_bipush (v := 48) hx hb dX11_init_245 (by decide) ?_
              refine lv_icmp_ge (tgt := 267) hx hb dX11_init_247 (by decide) (fun hc => ?_) (fun hc => ?_)
              · replace hf := if_t hf hc
                refine lv_aload_n hx hb dX11_init_267 rfl (lv_at hl 0 rfl) ?_
                refine lv_iconst (v := 0) hx hb dX11_init_268 (by decide) ?_
                refine lv_iconst (v := 1) hx hb dX11_init_269 (by decide) ?_
                obtain ⟨S114, hc115, hf⟩ := cv_of hf
                refine cl_RX11_67 (As := [.int (0 : Int32), .int (1 : Int32)]) (rest := []) hC hR hS (c_X11_copy l G n this (0 : Int32) (1 : Int32) S113 S114 hc115 ok_this) ok_this rfl ⟨Nat.le_of_ble_eq_true rfl, Nat.le_of_ble_eq_true rfl⟩ hl.1 rfl (Nat.le_of_ble_eq_true rfl) dX11_init_270 (Nat.le_of_ble_eq_true rfl) (Nat.le_of_ble_eq_true rfl) (fun H locs hR hS hE116 => ?_)
                have ok_this := hE116 _ _ ok_this
                have hE := hE.tr hE116
                refine W.widen (k := 13) (n := 6800) (Nat.le_of_ble_eq_true rfl) (Nat.le_of_ble_eq_true rfl) ?_
                exact r_vret hC hR hS hE hf dX11_init_273
              · replace hf := if_f hf hc
                refine lv_aload_n hx hb dX11_init_250 rfl (lv_at hl 0 rfl) ?_
                obtain ⟨q117, hq118, ok_q117, hf⟩ := gR_of hf
                refine gf_RX11_7 hC hR ok_this hq118 dX11_init_251 ?_
                refine lv_sipush (v := 240) hx hb dX11_init_254 (by decide) ?_
                refine lv_iload_n hx hb dX11_init_257 rfl (lv_at hl 1 rfl) ?_
                refine lv_iadd hx hb dX11_init_258 ?_
                refine lv_iconst (v := -1) hx hb dX11_init_259 (by decide) ?_
                obtain ⟨hi119, hf⟩ := ck_of hf
                refine rB_iast hC hR hS ok_q117 hi119 dX11_init_260 hf (fun S120 H locs hf hR hS hE121 => ?_)
                have ok_this := hE121 _ _ ok_this
                have ok_q117 := hE121 _ _ ok_q117
                have hE := hE.tr hE121
                refine r_iinc (n := 1) (z := 1) (lv' := fun x122 => [(3, .int x122), (0, .ref this)]) hx hb dX11_init_261 hl (k := 1) rfl (by decide) (by decide) (fun _ => rfl) hf (fun x122 ls hf hl => ?_)
                refine lv_goto (tgt := 244) hx hb dX11_init_264 (by decide) ?_
                exact hL244_110 x122 S120 _ _ _ hf hR hS hE ok_this (lv_sub hl [1, 0] rfl)
          exact hh123 n (0 : Int32) S109 _ _ _ hf hR hS hE ok_this (lv_sub hl [1, 0] rfl)
        have hh134 : ∀ k : Nat, ∀ (x126 : Int32) (S127 : MS) (H : Heap) (locs : List Loc) (ls : Array Slot), f_X11_init_L219 n this j242_108 k x126 S127 = some So → Rp G S127 H → va_S (gA G) s.heap H locs → Ex S S127 → Ok S127 this 11 → lv_has ls 4 [(0, .ref this), (3, .int x126)] → W p l e rX11_init s m args below meth c H locs 13 6800 (MQ below (Qn G S none So) args s 13 6800 (gA G)) (F0 m 219 ls []) := by
          intro k
          induction k with
          | zero =>
            intro x126 S127 H locs ls hf hR hS hE ok_this hl
            exact absurd hf (by rw [f_X11_init_L219]; exact fun h => by cases h)
          | succ k ih =>
            intro x126 S127 H locs ls hf hR hS hE ok_this hl
            rw [f_X11_init_L219] at hf
            obtain ⟨rec219_125, erec219_125, hf⟩ := jn_of2 hf
            have hL219_124 : ∀ (x126 : Int32) (S127 : MS) (H : Heap) (locs : List Loc) (ls : Array Slot), rec219_125 x126 S127 = some So → Rp G S127 H → va_S (gA G) s.heap H locs → Ex S S127 → Ok S127 this 11 → lv_has ls 4 [(0, .ref this), (3, .int x126)] → W p l e rX11_init s m args below meth c H locs 13 6800 (MQ below (Qn G S none So) args s 13 6800 (gA G)) (F0 m 219 ls []) := by
              intro x126 S127 H locs ls hf hR hS hE ok_this hl
              rw [erec219_125] at hf
              exact ih x126 S127 _ _ _ hf hR hS hE ok_this hl
            refine lv_iload_n hx hb dX11_init_219 rfl (lv_at hl 1 rfl) ?_
            refine lv_bipush (v := 24) hx hb dX11_init_220 (by decide) ?_
            refine lv_icmp_ge (tgt := 242) hx hb dX11_init_222 (by decide) (fun hc => ?_) (fun hc => ?_)
            · replace hf := if_t hf hc
              exact hj242_107 S127 _ _ _ hf hR hS hE ok_this (lv_sub hl [0] rfl)
            · replace hf := if_f hf hc
              refine lv_aload_n hx hb dX11_init_225 rfl (lv_at hl 0 rfl) ?_
              obtain ⟨q128, hq129, ok_q128, hf⟩ := gR_of hf
              refine gf_RX11_7 hC hR ok_this hq129 dX11_init_226 ?_
              refine lv_sipush (v := 165) hx hb dX11_init_229 (by decide) ?_
              refine lv_iload_n hx hb dX11_init_232 rfl (lv_at hl 1 rfl) ?_
              refine lv_iadd hx hb dX11_init_233 ?_
              refine lv_iconst (v := -1) hx hb dX11_init_234 (by decide) ?_
              obtain ⟨hi130, hf⟩ := ck_of hf
              refine rB_iast hC hR hS ok_q128 hi130 dX11_init_235 hf (fun S131 H locs hf hR hS hE132 => ?_)
              have ok_this := hE132 _ _ ok_this
              have ok_q128 := hE132 _ _ ok_q128
              have hE := hE.tr hE132
              refine r_iinc (n := 1) (z := 1) (lv' := fun x133 => [(3, .int x133), (0, .ref this)]) hx hb dX11_init_236 hl (k := 1) rfl (by decide) (by decide) (fun _ => rfl) hf (fun x133 ls hf hl => ?_)
              refine lv_goto (tgt := 219) hx hb dX11_init_239 (by decide) ?_
              exact hL219_124 x133 S131 _ _ _ hf hR hS hE ok_this (lv_sub hl [1, 0] rfl)
        exact hh134 n (0 : Int32) S106 _ _ _ hf hR hS hE ok_this (lv_sub hl [1, 0] rfl)
      have hh146 : ∀ k : Nat, ∀ (x138 : Int32) (S139 : MS) (H : Heap) (locs : List Loc) (ls : Array Slot), f_X11_init_L195 n this j217_105 k x138 S139 = some So → Rp G S139 H → va_S (gA G) s.heap H locs → Ex S S139 → Ok S139 this 11 → lv_has ls 4 [(0, .ref this), (3, .int x138)] → W p l e rX11_init s m args below meth c H locs 13 6800 (MQ below (Qn G S none So) args s 13 6800 (gA G)) (F0 m 195 ls []) := by
        intro k
        induction k with
        | zero =>
          intro x138 S139 H locs ls hf hR hS hE ok_this hl
          exact absurd hf (by rw [f_X11_init_L195]; exact fun h => by cases h)
        | succ k ih =>
          intro x138 S139 H locs ls hf hR hS hE ok_this hl
          rw [f_X11_init_L195] at hf
          obtain ⟨rec195_137, erec195_137, hf⟩ := jn_of2 hf
          have hL195_136 : ∀ (x138 : Int32) (S139 : MS) (H : Heap) (locs : List Loc) (ls : Array Slot), rec195_137 x138 S139 = some So → Rp G S139 H → va_S (gA G) s.heap H locs → Ex S S139 → Ok S139 this 11 → lv_has ls 4 [(0, .ref this), (3, .int x138)] → W p l e rX11_init s m args below meth c H locs 13 6800 (MQ below (Qn G S none So) args s 13 6800 (gA G)) (F0 m 195 ls []) := by
            intro x138 S139 H locs ls hf hR hS hE ok_this hl
            rw [erec195_137] at hf
            exact ih x138 S139 _ _ _ hf hR hS hE ok_this hl
          refine lv_iload_n hx hb dX11_init_195 rfl (lv_at hl 1 rfl) ?_
          refine lv_bipush (v := 6) hx hb dX11_init_196 (by decide) ?_
          refine lv_icmp_ge (tgt := 217) hx hb dX11_init_198 (by decide) (fun hc => ?_) (fun hc => ?_)
          · replace hf := if_t hf hc
            exact hj217_104 S139 _ _ _ hf hR hS hE ok_this (lv_sub hl [0] rfl)
          · replace hf := if_f hf hc
            refine lv_aload_n hx hb dX11_init_201 rfl (lv_at hl 0 rfl) ?_
            obtain ⟨q140, hq141, ok_q140, hf⟩ := gR_of hf
            refine gf_RX11_7 hC hR ok_this hq141 dX11_init_202 ?_
            refine lv_bipush (v := 85) hx hb dX11_init_205 (by decide) ?_
            refine lv_iload_n hx hb dX11_init_207 rfl (lv_at hl 1 rfl) ?_
            refine lv_iadd hx hb dX11_init_208 ?_
            refine lv_iconst (v := -1) hx hb dX11_init_209 (by decide) ?_
            obtain ⟨hi142, hf⟩ := ck_of hf
            refine rB_iast hC hR hS ok_q140 hi142 dX11_init_210 hf (fun S143 H locs hf hR hS hE144 => ?_)
            have ok_this := hE144 _ _ ok_this
            have ok_q140 := hE144 _ _ ok_q140
            have hE := hE.tr hE144
            refine r_iinc (n := 1) (z := 1) (lv' := fun x145 => [(3, .int x145), (0, .ref this)]) hx hb dX11_init_211 hl (k := 1) rfl (by decide) (by decide) (fun _ => rfl) hf (fun x145 ls hf hl => ?_)
            refine lv_goto (tgt := 195) hx hb dX11_init_214 (by decide) ?_
            exact hL195_136 x145 S143 _ _ _ hf hR hS hE ok_this (lv_sub hl [1, 0] rfl)
      exact hh146 n (0 : Int32) S102 _ _ _ hf hR hS hE ok_this (lv_sub hl [1, 0] rfl)
    refine lv_icmp_ge (tgt := 158) hx hb dX11_init_151 (by decide) (fun hc => ?_) (fun hc => ?_)
    · replace hf := if_t hf hc
      refine lv_iload_n hx hb dX11_init_158 rfl (lv_at hl 1 rfl) ?_
      refine lv_bipush (v := 6) hx hb dX11_init_159 (by decide) ?_
      refine lv_icmp_le (tgt := 169) hx hb dX11_init_161 (by decide) (fun hc => ?_) (fun hc => ?_)
      · replace hf := if_t hf hc
        refine lv_iload_n hx hb dX11_init_169 rfl (lv_at hl 1 rfl) ?_
        exact hj170_90 this a2 S88 _ _ _ hf hR hS hE ok_this ok_this (lv_sub hl [0] rfl)
      · replace hf := if_f hf hc
        refine lv_bipush (v := 6) hx hb dX11_init_164 (by decide) ?_
        refine lv_goto (tgt := 170) hx hb dX11_init_166 (by decide) ?_
        exact hj170_90 this (6 : Int32) S88 _ _ _ hf hR hS hE ok_this ok_this (lv_sub hl [0] rfl)
    · replace hf := if_f hf hc
      refine lv_iconst (v := 3) hx hb dX11_init_154 (by decide) ?_
      refine lv_goto (tgt := 170) hx hb dX11_init_155 (by decide) ?_
      exact hj170_90 this (3 : Int32) S88 _ _ _ hf hR hS hE ok_this ok_this (lv_sub hl [0] rfl)
  refine lv_icmp_ge (tgt := 133) hx hb dX11_init_126 (by decide) (fun hc => ?_) (fun hc => ?_)
  · replace hf := if_t hf hc
    refine lv_iload_n hx hb dX11_init_133 rfl (lv_at hl 1 rfl) ?_
    refine lv_bipush (v := 8) hx hb dX11_init_134 (by decide) ?_
    refine lv_icmp_le (tgt := 144) hx hb dX11_init_136 (by decide) (fun hc => ?_) (fun hc => ?_)
    · replace hf := if_t hf hc
      refine lv_iload_n hx hb dX11_init_144 rfl (lv_at hl 1 rfl) ?_
      exact hj145_83 this a1 S81 _ _ _ hf hR hS hE ok_this ok_this (lv_sub hl [0, 2] rfl)
    · replace hf := if_f hf hc
      refine lv_bipush (v := 8) hx hb dX11_init_139 (by decide) ?_
      refine lv_goto (tgt := 145) hx hb dX11_init_141 (by decide) ?_
      exact hj145_83 this (8 : Int32) S81 _ _ _ hf hR hS hE ok_this ok_this (lv_sub hl [0, 2] rfl)
  · replace hf := if_f hf hc
    refine lv_iconst (v := 3) hx hb dX11_init_129 (by decide) ?_
    refine lv_goto (tgt := 145) hx hb dX11_init_130 (by decide) ?_
    exact hj145_83 this (3 : Int32) S81 _ _ _ hf hR hS hE ok_this ok_this (lv_sub hl [0, 2] rfl)
abbrev rX11_isIn : Room := { frames := 0, cells := 0, slots := 0, locals := 0 }
def f_X11_isIn (_n : Nat) (a1 : Int32) (a2 : Int32) (a3 : Int32) (S : MS) : Option (Int32 × MS) :=
  (if a1 < a2 then zb (0 : Int32) (some ((0 : Int32), S)) else (if a3 < a1 then zb (0 : Int32) (some ((0 : Int32), S)) else zb (1 : Int32) (some ((1 : Int32), S))))
set_option maxRecDepth 100000 in
set_option maxHeartbeats 4000000 in
theorem c_X11_isIn (l : Launch) (G : Gx) (n : Nat) (a1 : Int32) (a2 : Int32) (a3 : Int32) (S : MS) (ro : Int32) (So : MS) (hf : f_X11_isIn n a1 a2 a3 S = some (ro, So)) : Cn G l yX11_isIn cX11_isIn 3 (some .boolean) rX11_isIn [.int a1, .int a2, .int a3] S (some (.int ro)) So := by
  refine Cn.of (by decide) (Nat.le_of_ble_eq_true rfl) ?_
  intro p e s m args below meth c hC hname hR ls hl
  have hC : Cx G RX11 cX11_isIn 3 (some .boolean) p s m args meth c := hC
  have hl : lv_has ls 3 [(0, .int a1), (1, .int a2), (2, .int a3)] := hl
  have hx := hC.x
  have hb := hC.b
  have hS : va_S (gA G) s.heap s.heap [] := va_S.rf
  have hE : Ex S S := Ex.rf S
  unfold f_X11_isIn at hf
  refine lv_iload_n hx hb dX11_isIn_0 rfl (lv_at hl 0 rfl) ?_
  refine lv_iload_n hx hb dX11_isIn_1 rfl (lv_at hl 1 rfl) ?_
  refine lv_icmp_lt (tgt := 14) hx hb dX11_isIn_2 (by decide) (fun hc => ?_) (fun hc => ?_)
  · replace hf := if_t hf hc
    refine lv_iconst (v := 0) hx hb dX11_isIn_14 (by decide) ?_
    exact r_zret hC hR hS hE hf dX11_isIn_15
  · replace hf := if_f hf hc
    refine lv_iload_n hx hb dX11_isIn_5 rfl (lv_at hl 0 rfl) ?_
    refine lv_iload_n hx hb dX11_isIn_6 rfl (lv_at hl 2 rfl) ?_
    refine lv_icmp_gt (tgt := 14) hx hb dX11_isIn_7 (by decide) (fun hc => ?_) (fun hc => ?_)
    · replace hf := if_t hf hc
      refine lv_iconst (v := 0) hx hb dX11_isIn_14 (by decide) ?_
      exact r_zret hC hR hS hE hf dX11_isIn_15
    · replace hf := if_f hf hc
      refine lv_iconst (v := 1) hx hb dX11_isIn_10 (by decide) ?_
      refine lv_goto (tgt := 15) hx hb dX11_isIn_11 (by decide) ?_
      exact r_zret hC hR hS hE hf dX11_isIn_15
abbrev rX11_held : Room := { frames := 0, cells := 0, slots := 0, locals := 0 }
def f_X11_held (_n : Nat) (a1 : Int64) (a2 : Int32) (a3 : Int32) (S : MS) : Option (Int32 × MS) :=
  (if 0 ≤ (lg_cmp a1 (a2.toInt64)) then (if (lg_cmp a1 (a3.toInt64)) ≤ 0 then some ((a1.toInt32), S) else some (a3, S)) else some (a2, S))
set_option maxRecDepth 100000 in
set_option maxHeartbeats 4000000 in
theorem c_X11_held (l : Launch) (G : Gx) (n : Nat) (a1 : Int64) (a2 : Int32) (a3 : Int32) (S : MS) (ro : Int32) (So : MS) (hf : f_X11_held n a1 a2 a3 S = some (ro, So)) : Cn G l yX11_held cX11_held 4 (some .int) rX11_held [.long a1, .int a2, .int a3] S (some (.int ro)) So := by
  refine Cn.of (by decide) (Nat.le_of_ble_eq_true rfl) ?_
  intro p e s m args below meth c hC hname hR ls hl
  have hC : Cx G RX11 cX11_held 4 (some .int) p s m args meth c := hC
  have hl : lv_has ls 4 [(0, .long a1), (2, .int a2), (3, .int a3)] := hl
  have hx := hC.x
  have hb := hC.b
  have hS : va_S (gA G) s.heap s.heap [] := va_S.rf
  have hE : Ex S S := Ex.rf S
  unfold f_X11_held at hf
  refine lv_lload_n hx hb dX11_held_0 rfl (lv_at hl 0 rfl) ?_
  refine lv_iload_n hx hb dX11_held_1 rfl (lv_at hl 1 rfl) ?_
  refine lv_i2l (v := (a2.toInt64)) hx hb dX11_held_2 rfl ?_
  refine W.lcmp hx hb dX11_held_3 ?_
  refine lv_if_ge (tgt := 11) hx hb dX11_held_4 (by decide) (fun hc => ?_) (fun hc => ?_)
  · replace hf := if_t hf hc
    refine lv_lload_n hx hb dX11_held_11 rfl (lv_at hl 0 rfl) ?_
    refine lv_iload_n hx hb dX11_held_12 rfl (lv_at hl 2 rfl) ?_
    refine lv_i2l (v := (a3.toInt64)) hx hb dX11_held_13 rfl ?_
    refine W.lcmp hx hb dX11_held_14 ?_
    refine lv_if_le (tgt := 22) hx hb dX11_held_15 (by decide) (fun hc => ?_) (fun hc => ?_)
    · replace hf := if_t hf hc
      refine lv_lload_n hx hb dX11_held_22 rfl (lv_at hl 0 rfl) ?_
      refine lv_l2i (v := (a1.toInt32)) hx hb dX11_held_23 rfl ?_
      exact r_iret hC hR hS hE hf dX11_held_24
    · replace hf := if_f hf hc
      refine lv_iload_n hx hb dX11_held_18 rfl (lv_at hl 2 rfl) ?_
      refine lv_goto (tgt := 24) hx hb dX11_held_19 (by decide) ?_
      exact r_iret hC hR hS hE hf dX11_held_24
  · replace hf := if_f hf hc
    refine lv_iload_n hx hb dX11_held_7 rfl (lv_at hl 1 rfl) ?_
    refine lv_goto (tgt := 24) hx hb dX11_held_8 (by decide) ?_
    exact r_iret hC hR hS hE hf dX11_held_24
abbrev rX11_isCell : Room := { frames := 1, cells := 0, slots := 0, locals := 22 }
def f_X11_isCell (n : Nat) (this : Nat) (a1 : Int32) (S : MS) : Option (Int32 × MS) :=
  cl (f_X11_isIn n a1 (0 : Int32) ((mI S this 3) - (1 : Int32)) S) fun x4 S1 => zb x4 (some (x4, S1))
set_option maxRecDepth 100000 in
set_option maxHeartbeats 4000000 in
theorem c_X11_isCell (l : Launch) (G : Gx) (n : Nat) (this : Nat) (a1 : Int32) (S : MS) (ro : Int32) (So : MS) (hf : f_X11_isCell n this a1 S = some (ro, So)) (ok_this : Ok S this 11) : Cn G l yX11_isCell cX11_isCell 2 (some .boolean) rX11_isCell [.ref this, .int a1] S (some (.int ro)) So := by
  refine Cn.of (by decide) (Nat.le_of_ble_eq_true rfl) ?_
  intro p e s m args below meth c hC hname hR ls hl
  have hC : Cx G RX11 cX11_isCell 2 (some .boolean) p s m args meth c := hC
  have hl : lv_has ls 2 [(0, .ref this), (1, .int a1)] := hl
  have hx := hC.x
  have hb := hC.b
  have hS : va_S (gA G) s.heap s.heap [] := va_S.rf
  have hE : Ex S S := Ex.rf S
  unfold f_X11_isCell at hf
  refine lv_iload_n hx hb dX11_isCell_0 rfl (lv_at hl 1 rfl) ?_
  refine lv_iconst (v := 0) hx hb dX11_isCell_1 (by decide) ?_
  refine lv_aload_n hx hb dX11_isCell_2 rfl (lv_at hl 0 rfl) ?_
  refine gf_RX11_64 hC hR ok_this dX11_isCell_3 ?_
  refine lv_iconst (v := 1) hx hb dX11_isCell_6 (by decide) ?_
  refine lv_isub hx hb dX11_isCell_7 ?_
  obtain ⟨x4, S1, hc2, hf⟩ := cl_of hf
  refine cl_RX11_71 (As := [.int a1, .int (0 : Int32), .int ((mI S this 3) - (1 : Int32))]) (rest := []) hC hR hS (c_X11_isIn l G n a1 (0 : Int32) ((mI S this 3) - (1 : Int32)) S x4 S1 hc2 ) rfl ⟨Nat.le_of_ble_eq_true rfl, Nat.le_of_ble_eq_true rfl⟩ hl.1 rfl (Nat.le_of_ble_eq_true rfl) dX11_isCell_8 (Nat.zero_le _) (Nat.zero_le _) (fun H locs hR hS hE3 => ?_)
  have ok_this := hE3 _ _ ok_this
  have hE := hE.tr hE3
  exact r_zret hC hR hS hE hf dX11_isCell_11
abbrev rX11_isFarmer : Room := { frames := 1, cells := 0, slots := 0, locals := 22 }
def f_X11_isFarmer (n : Nat) (a1 : Int32) (S : MS) : Option (Int32 × MS) :=
  cl (f_X11_isIn n a1 (0 : Int32) (5 : Int32) S) fun x4 S1 => zb x4 (some (x4, S1))
set_option maxRecDepth 100000 in
set_option maxHeartbeats 4000000 in
theorem c_X11_isFarmer (l : Launch) (G : Gx) (n : Nat) (a1 : Int32) (S : MS) (ro : Int32) (So : MS) (hf : f_X11_isFarmer n a1 S = some (ro, So)) : Cn G l yX11_isFarmer cX11_isFarmer 1 (some .boolean) rX11_isFarmer [.int a1] S (some (.int ro)) So := by
  refine Cn.of (by decide) (Nat.le_of_ble_eq_true rfl) ?_
  intro p e s m args below meth c hC hname hR ls hl
  have hC : Cx G RX11 cX11_isFarmer 1 (some .boolean) p s m args meth c := hC
  have hl : lv_has ls 1 [(0, .int a1)] := hl
  have hx := hC.x
  have hb := hC.b
  have hS : va_S (gA G) s.heap s.heap [] := va_S.rf
  have hE : Ex S S := Ex.rf S
  unfold f_X11_isFarmer at hf
  refine lv_iload_n hx hb dX11_isFarmer_0 rfl (lv_at hl 0 rfl) ?_
  refine lv_iconst (v := 0) hx hb dX11_isFarmer_1 (by decide) ?_
  refine lv_iconst (v := 5) hx hb dX11_isFarmer_2 (by decide) ?_
  obtain ⟨x4, S1, hc2, hf⟩ := cl_of hf
  refine cl_RX11_71 (As := [.int a1, .int (0 : Int32), .int (5 : Int32)]) (rest := []) hC hR hS (c_X11_isIn l G n a1 (0 : Int32) (5 : Int32) S x4 S1 hc2 ) rfl ⟨Nat.le_of_ble_eq_true rfl, Nat.le_of_ble_eq_true rfl⟩ hl.1 rfl (Nat.le_of_ble_eq_true rfl) dX11_isFarmer_3 (Nat.zero_le _) (Nat.zero_le _) (fun H locs hR hS hE3 => ?_)
  have hE := hE.tr hE3
  exact r_zret hC hR hS hE hf dX11_isFarmer_6
abbrev rX11_isBone : Room := { frames := 1, cells := 0, slots := 0, locals := 22 }
def f_X11_isBone (n : Nat) (this : Nat) (a1 : Int32) (S : MS) : Option (Int32 × MS) :=
  gR S (mR S this 0) 12 fun q1 => ck (inb (1 : Int32) (mN S q1)) (cl (f_X11_isIn n a1 (0 : Int32) ((mI S q1 (1 : Int32).toNatClampNeg) - (1 : Int32)) S) fun x7 S4 => zb x7 (some (x7, S4)))
set_option maxRecDepth 100000 in
set_option maxHeartbeats 4000000 in
theorem c_X11_isBone (l : Launch) (G : Gx) (n : Nat) (this : Nat) (a1 : Int32) (S : MS) (ro : Int32) (So : MS) (hf : f_X11_isBone n this a1 S = some (ro, So)) (ok_this : Ok S this 11) : Cn G l yX11_isBone cX11_isBone 2 (some .boolean) rX11_isBone [.ref this, .int a1] S (some (.int ro)) So := by
  refine Cn.of (by decide) (Nat.le_of_ble_eq_true rfl) ?_
  intro p e s m args below meth c hC hname hR ls hl
  have hC : Cx G RX11 cX11_isBone 2 (some .boolean) p s m args meth c := hC
  have hl : lv_has ls 2 [(0, .ref this), (1, .int a1)] := hl
  have hx := hC.x
  have hb := hC.b
  have hS : va_S (gA G) s.heap s.heap [] := va_S.rf
  have hE : Ex S S := Ex.rf S
  unfold f_X11_isBone at hf
  refine lv_iload_n hx hb dX11_isBone_0 rfl (lv_at hl 1 rfl) ?_
  refine lv_iconst (v := 0) hx hb dX11_isBone_1 (by decide) ?_
  refine lv_aload_n hx hb dX11_isBone_2 rfl (lv_at hl 0 rfl) ?_
  obtain ⟨q1, hq2, ok_q1, hf⟩ := gR_of hf
  refine gf_RX11_7 hC hR ok_this hq2 dX11_isBone_3 ?_
  refine lv_iconst (v := 1) hx hb dX11_isBone_6 (by decide) ?_
  obtain ⟨hi3, hf⟩ := ck_of hf
  refine r_iald hC hR ok_q1 hi3 dX11_isBone_7 ?_
  refine lv_iconst (v := 1) hx hb dX11_isBone_8 (by decide) ?_
  refine lv_isub hx hb dX11_isBone_9 ?_
  obtain ⟨x7, S4, hc5, hf⟩ := cl_of hf
  refine cl_RX11_71 (As := [.int a1, .int (0 : Int32), .int ((mI S q1 (1 : Int32).toNatClampNeg) - (1 : Int32))]) (rest := []) hC hR hS (c_X11_isIn l G n a1 (0 : Int32) ((mI S q1 (1 : Int32).toNatClampNeg) - (1 : Int32)) S x7 S4 hc5 ) rfl ⟨Nat.le_of_ble_eq_true rfl, Nat.le_of_ble_eq_true rfl⟩ hl.1 rfl (Nat.le_of_ble_eq_true rfl) dX11_isBone_10 (Nat.zero_le _) (Nat.zero_le _) (fun H locs hR hS hE6 => ?_)
  have ok_this := hE6 _ _ ok_this
  have ok_q1 := hE6 _ _ ok_q1
  have hE := hE.tr hE6
  exact r_zret hC hR hS hE hf dX11_isBone_13
abbrev rX11_isWind : Room := { frames := 1, cells := 0, slots := 0, locals := 22 }
def f_X11_isWind (n : Nat) (this : Nat) (a1 : Int32) (S : MS) : Option (Int32 × MS) :=
  gR S (mR S this 0) 12 fun q1 => ck (inb (2 : Int32) (mN S q1)) (cl (f_X11_isIn n a1 (0 : Int32) ((mI S q1 (2 : Int32).toNatClampNeg) - (1 : Int32)) S) fun x7 S4 => zb x7 (some (x7, S4)))
set_option maxRecDepth 100000 in
set_option maxHeartbeats 4000000 in
theorem c_X11_isWind (l : Launch) (G : Gx) (n : Nat) (this : Nat) (a1 : Int32) (S : MS) (ro : Int32) (So : MS) (hf : f_X11_isWind n this a1 S = some (ro, So)) (ok_this : Ok S this 11) : Cn G l yX11_isWind cX11_isWind 2 (some .boolean) rX11_isWind [.ref this, .int a1] S (some (.int ro)) So := by
  refine Cn.of (by decide) (Nat.le_of_ble_eq_true rfl) ?_
  intro p e s m args below meth c hC hname hR ls hl
  have hC : Cx G RX11 cX11_isWind 2 (some .boolean) p s m args meth c := hC
  have hl : lv_has ls 2 [(0, .ref this), (1, .int a1)] := hl
  have hx := hC.x
  have hb := hC.b
  have hS : va_S (gA G) s.heap s.heap [] := va_S.rf
  have hE : Ex S S := Ex.rf S
  unfold f_X11_isWind at hf
  refine lv_iload_n hx hb dX11_isWind_0 rfl (lv_at hl 1 rfl) ?_
  refine lv_iconst (v := 0) hx hb dX11_isWind_1 (by decide) ?_
  refine lv_aload_n hx hb dX11_isWind_2 rfl (lv_at hl 0 rfl) ?_
  obtain ⟨q1, hq2, ok_q1, hf⟩ := gR_of hf
  refine gf_RX11_7 hC hR ok_this hq2 dX11_isWind_3 ?_
  refine lv_iconst (v := 2) hx hb dX11_isWind_6 (by decide) ?_
  obtain ⟨hi3, hf⟩ := ck_of hf
  refine r_iald hC hR ok_q1 hi3 dX11_isWind_7 ?_
  refine lv_iconst (v := 1) hx hb dX11_isWind_8 (by decide) ?_
  refine lv_isub hx hb dX11_isWind_9 ?_
  obtain ⟨x7, S4, hc5, hf⟩ := cl_of hf
  refine cl_RX11_71 (As := [.int a1, .int (0 : Int32), .int ((mI S q1 (2 : Int32).toNatClampNeg) - (1 : Int32))]) (rest := []) hC hR hS (c_X11_isIn l G n a1 (0 : Int32) ((mI S q1 (2 : Int32).toNatClampNeg) - (1 : Int32)) S x7 S4 hc5 ) rfl ⟨Nat.le_of_ble_eq_true rfl, Nat.le_of_ble_eq_true rfl⟩ hl.1 rfl (Nat.le_of_ble_eq_true rfl) dX11_isWind_10 (Nat.zero_le _) (Nat.zero_le _) (fun H locs hR hS hE6 => ?_)
  have ok_this := hE6 _ _ ok_this
  have ok_q1 := hE6 _ _ ok_q1
  have hE := hE.tr hE6
  exact r_zret hC hR hS hE hf dX11_isWind_13
abbrev rX11_bones : Room := { frames := 0, cells := 0, slots := 0, locals := 0 }
def f_X11_bones (_n : Nat) (this : Nat) (S : MS) : Option (Int32 × MS) :=
  gR S (mR S this 0) 12 fun q1 => ck (inb ((mI S this 4) + (1 : Int32)) (mN S q1)) (some ((mI S q1 ((mI S this 4) + (1 : Int32)).toNatClampNeg), S))
set_option maxRecDepth 100000 in
set_option maxHeartbeats 4000000 in
theorem c_X11_bones (l : Launch) (G : Gx) (n : Nat) (this : Nat) (S : MS) (ro : Int32) (So : MS) (hf : f_X11_bones n this S = some (ro, So)) (ok_this : Ok S this 11) : Cn G l yX11_bones cX11_bones 1 (some .int) rX11_bones [.ref this] S (some (.int ro)) So := by
  refine Cn.of (by decide) (Nat.le_of_ble_eq_true rfl) ?_
  intro p e s m args below meth c hC hname hR ls hl
  have hC : Cx G RX11 cX11_bones 1 (some .int) p s m args meth c := hC
  have hl : lv_has ls 1 [(0, .ref this)] := hl
  have hx := hC.x
  have hb := hC.b
  have hS : va_S (gA G) s.heap s.heap [] := va_S.rf
  have hE : Ex S S := Ex.rf S
  unfold f_X11_bones at hf
  refine lv_aload_n hx hb dX11_bones_0 rfl (lv_at hl 0 rfl) ?_
  obtain ⟨q1, hq2, ok_q1, hf⟩ := gR_of hf
  refine gf_RX11_7 hC hR ok_this hq2 dX11_bones_1 ?_
  refine lv_aload_n hx hb dX11_bones_4 rfl (lv_at hl 0 rfl) ?_
  refine gf_RX11_75 hC hR ok_this dX11_bones_5 ?_
  refine lv_iconst (v := 1) hx hb dX11_bones_8 (by decide) ?_
  refine lv_iadd hx hb dX11_bones_9 ?_
  obtain ⟨hi3, hf⟩ := ck_of hf
  refine r_iald hC hR ok_q1 hi3 dX11_bones_10 ?_
  exact r_iret hC hR hS hE hf dX11_bones_11
abbrev rX11_cellOf : Room := { frames := 0, cells := 0, slots := 0, locals := 0 }
def f_X11_cellOf (_n : Nat) (this : Nat) (a1 : Int32) (S : MS) : Option (Int32 × MS) :=
  gR S (mR S this 0) 12 fun q1 => ck (inb (((mI S this 4) + (10 : Int32)) + ((3 : Int32) * a1)) (mN S q1)) (some ((mI S q1 (((mI S this 4) + (10 : Int32)) + ((3 : Int32) * a1)).toNatClampNeg), S))
set_option maxRecDepth 100000 in
set_option maxHeartbeats 4000000 in
theorem c_X11_cellOf (l : Launch) (G : Gx) (n : Nat) (this : Nat) (a1 : Int32) (S : MS) (ro : Int32) (So : MS) (hf : f_X11_cellOf n this a1 S = some (ro, So)) (ok_this : Ok S this 11) : Cn G l yX11_cellOf cX11_cellOf 2 (some .int) rX11_cellOf [.ref this, .int a1] S (some (.int ro)) So := by
  refine Cn.of (by decide) (Nat.le_of_ble_eq_true rfl) ?_
  intro p e s m args below meth c hC hname hR ls hl
  have hC : Cx G RX11 cX11_cellOf 2 (some .int) p s m args meth c := hC
  have hl : lv_has ls 2 [(0, .ref this), (1, .int a1)] := hl
  have hx := hC.x
  have hb := hC.b
  have hS : va_S (gA G) s.heap s.heap [] := va_S.rf
  have hE : Ex S S := Ex.rf S
  unfold f_X11_cellOf at hf
  refine lv_aload_n hx hb dX11_cellOf_0 rfl (lv_at hl 0 rfl) ?_
  obtain ⟨q1, hq2, ok_q1, hf⟩ := gR_of hf
  refine gf_RX11_7 hC hR ok_this hq2 dX11_cellOf_1 ?_
  refine lv_aload_n hx hb dX11_cellOf_4 rfl (lv_at hl 0 rfl) ?_
  refine gf_RX11_75 hC hR ok_this dX11_cellOf_5 ?_
  refine lv_bipush (v := 10) hx hb dX11_cellOf_8 (by decide) ?_
  refine lv_iadd hx hb dX11_cellOf_10 ?_
  refine lv_iconst (v := 3) hx hb dX11_cellOf_11 (by decide) ?_
  refine lv_iload_n hx hb dX11_cellOf_12 rfl (lv_at hl 1 rfl) ?_
  refine lv_imul hx hb dX11_cellOf_13 ?_
  refine lv_iadd hx hb dX11_cellOf_14 ?_
  obtain ⟨hi3, hf⟩ := ck_of hf
  refine r_iald hC hR ok_q1 hi3 dX11_cellOf_15 ?_
  exact r_iret hC hR hS hE hf dX11_cellOf_16
abbrev rX11_isStaked : Room := { frames := 0, cells := 0, slots := 0, locals := 0 }
def f_X11_isStaked_L2 (n : Nat) (this : Nat) (a1 : Int32) : Nat → Int32 → MS → Option (Int32 × MS)
  | 0, _, _ => none
  | k + 1, x3, S4 => jn (f_X11_isStaked_L2 n this a1 k) fun rec2_2 => (if (6 : Int32) ≤ x3 then zb (0 : Int32) (some ((0 : Int32), S4)) else gR S4 (mR S4 this 0) 12 fun q5 => ck (inb (((mI S4 this 4) + (85 : Int32)) + x3) (mN S4 q5)) ((if (mI S4 q5 (((mI S4 this 4) + (85 : Int32)) + x3).toNatClampNeg) = a1 then zb (1 : Int32) (some ((1 : Int32), S4)) else bd (x3 + (1 : Int32)) fun x8 => rec2_2 x8 S4)))
def f_X11_isStaked (n : Nat) (this : Nat) (a1 : Int32) (S : MS) : Option (Int32 × MS) :=
  f_X11_isStaked_L2 n this a1 n (0 : Int32) S
set_option maxRecDepth 100000 in
set_option maxHeartbeats 4000000 in
theorem c_X11_isStaked (l : Launch) (G : Gx) (n : Nat) (this : Nat) (a1 : Int32) (S : MS) (ro : Int32) (So : MS) (hf : f_X11_isStaked n this a1 S = some (ro, So)) (ok_this : Ok S this 11) : Cn G l yX11_isStaked cX11_isStaked 3 (some .boolean) rX11_isStaked [.ref this, .int a1] S (some (.int ro)) So := by
  refine Cn.of (by decide) (Nat.le_of_ble_eq_true rfl) ?_
  intro p e s m args below meth c hC hname hR ls hl
  have hC : Cx G RX11 cX11_isStaked 3 (some .boolean) p s m args meth c := hC
  have hl : lv_has ls 3 [(0, .ref this), (1, .int a1)] := hl
  have hx := hC.x
  have hb := hC.b
  have hS : va_S (gA G) s.heap s.heap [] := va_S.rf
  have hE : Ex S S := Ex.rf S
  unfold f_X11_isStaked at hf
  refine lv_iconst (v := 0) hx hb dX11_isStaked_0 (by decide) ?_
  refine lv_istore_n (lv' := [(2, .int (0 : Int32)), (0, .ref this), (1, .int a1)]) hx hb dX11_isStaked_1 rfl hl (by decide) rfl (fun ls hl => ?_)
  have hh9 : ∀ k : Nat, ∀ (x3 : Int32) (S4 : MS) (H : Heap) (locs : List Loc) (ls : Array Slot), f_X11_isStaked_L2 n this a1 k x3 S4 = some (ro, So) → Rp G S4 H → va_S (gA G) s.heap H locs → Ex S S4 → Ok S4 this 11 → lv_has ls 3 [(0, .ref this), (1, .int a1), (2, .int x3)] → W p l e rX11_isStaked s m args below meth c H locs 0 0 (MQ below (Qn G S (some (.int ro)) So) args s 0 0 (gA G)) (F0 m 2 ls []) := by
    intro k
    induction k with
    | zero =>
      intro x3 S4 H locs ls hf hR hS hE ok_this hl
      exact absurd hf (by rw [f_X11_isStaked_L2]; exact fun h => by cases h)
    | succ k ih =>
      intro x3 S4 H locs ls hf hR hS hE ok_this hl
      rw [f_X11_isStaked_L2] at hf
      obtain ⟨rec2_2, erec2_2, hf⟩ := jn_of2 hf
      have hL2_1 : ∀ (x3 : Int32) (S4 : MS) (H : Heap) (locs : List Loc) (ls : Array Slot), rec2_2 x3 S4 = some (ro, So) → Rp G S4 H → va_S (gA G) s.heap H locs → Ex S S4 → Ok S4 this 11 → lv_has ls 3 [(0, .ref this), (1, .int a1), (2, .int x3)] → W p l e rX11_isStaked s m args below meth c H locs 0 0 (MQ below (Qn G S (some (.int ro)) So) args s 0 0 (gA G)) (F0 m 2 ls []) := by
        intro x3 S4 H locs ls hf hR hS hE ok_this hl
        rw [erec2_2] at hf
        exact ih x3 S4 _ _ _ hf hR hS hE ok_this hl
      refine lv_iload_n hx hb dX11_isStaked_2 rfl (lv_at hl 2 rfl) ?_
      refine lv_bipush (v := 6) hx hb dX11_isStaked_3 (by decide) ?_
      refine lv_icmp_ge (tgt := 34) hx hb dX11_isStaked_5 (by decide) (fun hc => ?_) (fun hc => ?_)
      · replace hf := if_t hf hc
        refine lv_iconst (v := 0) hx hb dX11_isStaked_34 (by decide) ?_
        exact r_zret hC hR hS hE hf dX11_isStaked_35
      · replace hf := if_f hf hc
        refine lv_aload_n hx hb dX11_isStaked_8 rfl (lv_at hl 0 rfl) ?_
        obtain ⟨q5, hq6, ok_q5, hf⟩ := gR_of hf
        refine gf_RX11_7 hC hR ok_this hq6 dX11_isStaked_9 ?_
        refine lv_aload_n hx hb dX11_isStaked_12 rfl (lv_at hl 0 rfl) ?_
        refine gf_RX11_75 hC hR ok_this dX11_isStaked_13 ?_
        refine lv_bipush (v := 85) hx hb dX11_isStaked_16 (by decide) ?_
        refine lv_iadd hx hb dX11_isStaked_18 ?_
        refine lv_iload_n hx hb dX11_isStaked_19 rfl (lv_at hl 2 rfl) ?_
        refine lv_iadd hx hb dX11_isStaked_20 ?_
        obtain ⟨hi7, hf⟩ := ck_of hf
        refine r_iald hC hR ok_q5 hi7 dX11_isStaked_21 ?_
        refine lv_iload_n hx hb dX11_isStaked_22 rfl (lv_at hl 1 rfl) ?_
        refine lv_icmp_ne (tgt := 28) hx hb dX11_isStaked_23 (by decide) (fun hc => ?_) (fun hc => ?_)
        · replace hf := if_f hf hc
          refine r_iinc (n := 1) (z := 1) (lv' := fun x8 => [(2, .int x8), (0, .ref this), (1, .int a1)]) hx hb dX11_isStaked_28 hl (k := 2) rfl (by decide) (by decide) (fun _ => rfl) hf (fun x8 ls hf hl => ?_)
          refine lv_goto (tgt := 2) hx hb dX11_isStaked_31 (by decide) ?_
          exact hL2_1 x8 S4 _ _ _ hf hR hS hE ok_this (lv_sub hl [1, 2, 0] rfl)
        · replace hf := if_t hf hc
          refine lv_iconst (v := 1) hx hb dX11_isStaked_26 (by decide) ?_
          exact r_zret hC hR hS hE hf dX11_isStaked_27
  exact hh9 n (0 : Int32) S _ _ _ hf hR hS hE ok_this (lv_sub hl [1, 2, 0] rfl)
abbrev rX11_isFree : Room := { frames := 1, cells := 0, slots := 0, locals := 22 }
def f_X11_isFree (n : Nat) (this : Nat) (a1 : Int32) (S : MS) : Option (Int32 × MS) :=
  gR S (mR S this 0) 12 fun q1 => ck (inb (((mI S this 4) + (290 : Int32)) + a1) (mN S q1)) ((if (mI S q1 (((mI S this 4) + (290 : Int32)) + a1).toNatClampNeg) = 0 then cl (f_X11_isStaked n this a1 S) fun x7 S4 => (if x7 = 0 then zb (1 : Int32) (some ((1 : Int32), S4)) else zb (0 : Int32) (some ((0 : Int32), S4))) else zb (0 : Int32) (some ((0 : Int32), S))))
set_option maxRecDepth 100000 in
set_option maxHeartbeats 4000000 in
theorem c_X11_isFree (l : Launch) (G : Gx) (n : Nat) (this : Nat) (a1 : Int32) (S : MS) (ro : Int32) (So : MS) (hf : f_X11_isFree n this a1 S = some (ro, So)) (ok_this : Ok S this 11) : Cn G l yX11_isFree cX11_isFree 2 (some .boolean) rX11_isFree [.ref this, .int a1] S (some (.int ro)) So := by
  refine Cn.of (by decide) (Nat.le_of_ble_eq_true rfl) ?_
  intro p e s m args below meth c hC hname hR ls hl
  have hC : Cx G RX11 cX11_isFree 2 (some .boolean) p s m args meth c := hC
  have hl : lv_has ls 2 [(0, .ref this), (1, .int a1)] := hl
  have hx := hC.x
  have hb := hC.b
  have hS : va_S (gA G) s.heap s.heap [] := va_S.rf
  have hE : Ex S S := Ex.rf S
  unfold f_X11_isFree at hf
  refine lv_aload_n hx hb dX11_isFree_0 rfl (lv_at hl 0 rfl) ?_
  obtain ⟨q1, hq2, ok_q1, hf⟩ := gR_of hf
  refine gf_RX11_7 hC hR ok_this hq2 dX11_isFree_1 ?_
  refine lv_aload_n hx hb dX11_isFree_4 rfl (lv_at hl 0 rfl) ?_
  refine gf_RX11_75 hC hR ok_this dX11_isFree_5 ?_
  refine lv_sipush (v := 290) hx hb dX11_isFree_8 (by decide) ?_
  refine lv_iadd hx hb dX11_isFree_11 ?_
  refine lv_iload_n hx hb dX11_isFree_12 rfl (lv_at hl 1 rfl) ?_
  refine lv_iadd hx hb dX11_isFree_13 ?_
  obtain ⟨hi3, hf⟩ := ck_of hf
  refine r_iald hC hR ok_q1 hi3 dX11_isFree_14 ?_
  refine lv_if_ne (tgt := 30) hx hb dX11_isFree_15 (by decide) (fun hc => ?_) (fun hc => ?_)
  · replace hf := if_f hf hc
    refine lv_iconst (v := 0) hx hb dX11_isFree_30 (by decide) ?_
    exact r_zret hC hR hS hE hf dX11_isFree_31
  · replace hf := if_t hf hc
    refine lv_aload_n hx hb dX11_isFree_18 rfl (lv_at hl 0 rfl) ?_
    refine lv_iload_n hx hb dX11_isFree_19 rfl (lv_at hl 1 rfl) ?_
    obtain ⟨x7, S4, hc5, hf⟩ := cl_of hf
    refine cl_RX11_78 (As := [.int a1]) (rest := []) hC hR hS (c_X11_isStaked l G n this a1 S x7 S4 hc5 ok_this) ok_this rfl ⟨Nat.le_of_ble_eq_true rfl, Nat.le_of_ble_eq_true rfl⟩ hl.1 rfl (Nat.le_of_ble_eq_true rfl) dX11_isFree_20 (Nat.zero_le _) (Nat.zero_le _) (fun H locs hR hS hE6 => ?_)
    have ok_this := hE6 _ _ ok_this
    have ok_q1 := hE6 _ _ ok_q1
    have hE := hE.tr hE6
    refine lv_if_ne (tgt := 30) hx hb dX11_isFree_23 (by decide) (fun hc => ?_) (fun hc => ?_)
    · replace hf := if_f hf hc
      refine lv_iconst (v := 0) hx hb dX11_isFree_30 (by decide) ?_
      exact r_zret hC hR hS hE hf dX11_isFree_31
    · replace hf := if_t hf hc
      refine lv_iconst (v := 1) hx hb dX11_isFree_26 (by decide) ?_
      refine lv_goto (tgt := 31) hx hb dX11_isFree_27 (by decide) ?_
      exact r_zret hC hR hS hE hf dX11_isFree_31
abbrev rX11_bone : Room := { frames := 2, cells := 0, slots := 0, locals := 43 }
def f_X11_bone (n : Nat) (this : Nat) (a1 : Int32) (a2 : Int32) (S : MS) : Option (Int32 × MS) :=
  cl (f_X11_isCell n this a1 S) fun x4 S1 => (if x4 = 0 then some ((-1 : Int32), S1) else cl (f_X11_isIn n a2 (1 : Int32) (99 : Int32) S1) fun x8 S5 => (if x8 = 0 then some ((-1 : Int32), S5) else gR S5 (mR S5 this 0) 12 fun q9 => ck (inb (1 : Int32) (mN S5 q9)) ((if (mI S5 q9 (1 : Int32).toNatClampNeg) = (24 : Int32) then some ((-1 : Int32), S5) else cl (f_X11_isFree n this a1 S5) fun x15 S12 => (if x15 = 0 then some ((-1 : Int32), S12) else gR S12 (mR S12 this 0) 12 fun q16 => ck (inb (1 : Int32) (mN S12 q16)) (bd ((10 : Int32) + ((3 : Int32) * (mI S12 q16 (1 : Int32).toNatClampNeg))) fun x19 => gR S12 (mR S12 this 0) 12 fun q20 => ck (inb x19 (mN S12 q20)) (bd (sI S12 q20 x19.toNatClampNeg a1) fun S23 => gR S23 (mR S23 this 0) 12 fun q25 => ck (inb (x19 + (1 : Int32)) (mN S23 q25)) (bd (sI S23 q25 (x19 + (1 : Int32)).toNatClampNeg a2) fun S28 => gR S28 (mR S28 this 0) 12 fun q30 => ck (inb (x19 + (2 : Int32)) (mN S28 q30)) (bd (sI S28 q30 (x19 + (2 : Int32)).toNatClampNeg (0 : Int32)) fun S33 => gR S33 (mR S33 this 0) 12 fun q35 => ck (inb (1 : Int32) (mN S33 q35)) (ck (inb (1 : Int32) (mN S33 q35)) (bd (sI S33 q35 (1 : Int32).toNatClampNeg ((mI S33 q35 (1 : Int32).toNatClampNeg) + (1 : Int32))) fun S39 => gR S39 (mR S39 this 0) 12 fun q41 => gR S39 (mR S39 this 0) 12 fun q43 => ck (inb (1 : Int32) (mN S39 q43)) (ck (inb ((290 : Int32) + a1) (mN S39 q41)) (bd (sI S39 q41 ((290 : Int32) + a1).toNatClampNeg (mI S39 q43 (1 : Int32).toNatClampNeg)) fun S47 => gR S47 (mR S47 this 0) 12 fun q49 => ck (inb ((240 : Int32) + a1) (mN S47 q49)) (bd (sI S47 q49 ((240 : Int32) + a1).toNatClampNeg (-1 : Int32)) fun S52 => gR S52 (mR S52 this 0) 12 fun q54 => ck (inb (1 : Int32) (mN S52 q54)) (some (((mI S52 q54 (1 : Int32).toNatClampNeg) - (1 : Int32)), S52))))))))))))))))
set_option maxRecDepth 100000 in
set_option maxHeartbeats 4000000 in
theorem c_X11_bone (l : Launch) (G : Gx) (n : Nat) (this : Nat) (a1 : Int32) (a2 : Int32) (S : MS) (ro : Int32) (So : MS) (hf : f_X11_bone n this a1 a2 S = some (ro, So)) (ok_this : Ok S this 11) : Cn G l yX11_bone cX11_bone 4 (some .int) rX11_bone [.ref this, .int a1, .int a2] S (some (.int ro)) So := by
  refine Cn.of (by decide) (Nat.le_of_ble_eq_true rfl) ?_
  intro p e s m args below meth c hC hname hR ls hl
  have hC : Cx G RX11 cX11_bone 4 (some .int) p s m args meth c := hC
  have hl : lv_has ls 4 [(0, .ref this), (1, .int a1), (2, .int a2)] := hl
  have hx := hC.x
  have hb := hC.b
  have hS : va_S (gA G) s.heap s.heap [] := va_S.rf
  have hE : Ex S S := Ex.rf S
  unfold f_X11_bone at hf
  refine lv_aload_n hx hb dX11_bone_0 rfl (lv_at hl 0 rfl) ?_
  refine lv_iload_n hx hb dX11_bone_1 rfl (lv_at hl 1 rfl) ?_
  obtain ⟨x4, S1, hc2, hf⟩ := cl_of hf
  refine cl_RX11_82 (As := [.int a1]) (rest := []) hC hR hS (c_X11_isCell l G n this a1 S x4 S1 hc2 ok_this) ok_this rfl ⟨Nat.le_of_ble_eq_true rfl, Nat.le_of_ble_eq_true rfl⟩ hl.1 rfl (Nat.le_of_ble_eq_true rfl) dX11_bone_2 (Nat.zero_le _) (Nat.zero_le _) (fun H locs hR hS hE3 => ?_)
  have ok_this := hE3 _ _ ok_this
  have hE := hE.tr hE3
  refine lv_if_eq (tgt := 37) hx hb dX11_bone_5 (by decide) (fun hc => ?_) (fun hc => ?_)
  · replace hf := if_t hf hc
    refine lv_iconst (v := -1) hx hb dX11_bone_37 (by decide) ?_
    exact r_iret hC hR hS hE hf dX11_bone_38
  · replace hf := if_f hf hc
    refine lv_iload_n hx hb dX11_bone_8 rfl (lv_at hl 2 rfl) ?_
    refine lv_iconst (v := 1) hx hb dX11_bone_9 (by decide) ?_
    refine lv_bipush (v := 99) hx hb dX11_bone_10 (by decide) ?_
    obtain ⟨x8, S5, hc6, hf⟩ := cl_of hf
    refine cl_RX11_71 (As := [.int a2, .int (1 : Int32), .int (99 : Int32)]) (rest := []) hC hR hS (c_X11_isIn l G n a2 (1 : Int32) (99 : Int32) S1 x8 S5 hc6 ) rfl ⟨Nat.le_of_ble_eq_true rfl, Nat.le_of_ble_eq_true rfl⟩ hl.1 rfl (Nat.le_of_ble_eq_true rfl) dX11_bone_12 (Nat.zero_le _) (Nat.zero_le _) (fun H locs hR hS hE7 => ?_)
    have ok_this := hE7 _ _ ok_this
    have hE := hE.tr hE7
    refine lv_if_eq (tgt := 37) hx hb dX11_bone_15 (by decide) (fun hc => ?_) (fun hc => ?_)
    · replace hf := if_t hf hc
      refine lv_iconst (v := -1) hx hb dX11_bone_37 (by decide) ?_
      exact r_iret hC hR hS hE hf dX11_bone_38
    · replace hf := if_f hf hc
      refine lv_aload_n hx hb dX11_bone_18 rfl (lv_at hl 0 rfl) ?_
      obtain ⟨q9, hq10, ok_q9, hf⟩ := gR_of hf
      refine gf_RX11_7 hC hR ok_this hq10 dX11_bone_19 ?_
      refine lv_iconst (v := 1) hx hb dX11_bone_22 (by decide) ?_
      obtain ⟨hi11, hf⟩ := ck_of hf
      refine r_iald hC hR ok_q9 hi11 dX11_bone_23 ?_
      refine lv_bipush (v := 24) hx hb dX11_bone_24 (by decide) ?_
      refine lv_icmp_eq (tgt := 37) hx hb dX11_bone_26 (by decide) (fun hc => ?_) (fun hc => ?_)
      · replace hf := if_t hf hc
        refine lv_iconst (v := -1) hx hb dX11_bone_37 (by decide) ?_
        exact r_iret hC hR hS hE hf dX11_bone_38
      · replace hf := if_f hf hc
        refine lv_aload_n hx hb dX11_bone_29 rfl (lv_at hl 0 rfl) ?_
        refine lv_iload_n hx hb dX11_bone_30 rfl (lv_at hl 1 rfl) ?_
        obtain ⟨x15, S12, hc13, hf⟩ := cl_of hf
        refine cl_RX11_85 (As := [.int a1]) (rest := []) hC hR hS (c_X11_isFree l G n this a1 S5 x15 S12 hc13 ok_this) ok_this rfl ⟨Nat.le_of_ble_eq_true rfl, Nat.le_of_ble_eq_true rfl⟩ hl.1 rfl (Nat.le_of_ble_eq_true rfl) dX11_bone_31 (Nat.zero_le _) (Nat.zero_le _) (fun H locs hR hS hE14 => ?_)
        have ok_this := hE14 _ _ ok_this
        have ok_q9 := hE14 _ _ ok_q9
        have hE := hE.tr hE14
        refine lv_if_ne (tgt := 39) hx hb dX11_bone_34 (by decide) (fun hc => ?_) (fun hc => ?_)
        · replace hf := if_f hf hc
          refine lv_bipush (v := 10) hx hb dX11_bone_39 (by decide) ?_
          refine lv_iconst (v := 3) hx hb dX11_bone_41 (by decide) ?_
          refine lv_aload_n hx hb dX11_bone_42 rfl (lv_at hl 0 rfl) ?_
          obtain ⟨q16, hq17, ok_q16, hf⟩ := gR_of hf
          refine gf_RX11_7 hC hR ok_this hq17 dX11_bone_43 ?_
          refine lv_iconst (v := 1) hx hb dX11_bone_46 (by decide) ?_
          obtain ⟨hi18, hf⟩ := ck_of hf
          refine r_iald hC hR ok_q16 hi18 dX11_bone_47 ?_
          refine lv_imul hx hb dX11_bone_48 ?_
          refine lv_iadd hx hb dX11_bone_49 ?_
          refine bdi hf (fun x19 hf => ?_)
          refine lv_istore_n (lv' := [(3, .int x19), (0, .ref this), (1, .int a1), (2, .int a2)]) hx hb dX11_bone_50 rfl hl (by decide) rfl (fun ls hl => ?_)
          refine lv_aload_n hx hb dX11_bone_51 rfl (lv_at hl 1 rfl) ?_
          obtain ⟨q20, hq21, ok_q20, hf⟩ := gR_of hf
          refine gf_RX11_7 hC hR ok_this hq21 dX11_bone_52 ?_
          refine lv_iload_n hx hb dX11_bone_55 rfl (lv_at hl 0 rfl) ?_
          refine lv_iload_n hx hb dX11_bone_56 rfl (lv_at hl 2 rfl) ?_
          obtain ⟨hi22, hf⟩ := ck_of hf
          refine rB_iast hC hR hS ok_q20 hi22 dX11_bone_57 hf (fun S23 H locs hf hR hS hE24 => ?_)
          have ok_this := hE24 _ _ ok_this
          have ok_q9 := hE24 _ _ ok_q9
          have ok_q16 := hE24 _ _ ok_q16
          have ok_q20 := hE24 _ _ ok_q20
          have hE := hE.tr hE24
          refine lv_aload_n hx hb dX11_bone_58 rfl (lv_at hl 1 rfl) ?_
          obtain ⟨q25, hq26, ok_q25, hf⟩ := gR_of hf
          refine gf_RX11_7 hC hR ok_this hq26 dX11_bone_59 ?_
          refine lv_iload_n hx hb dX11_bone_62 rfl (lv_at hl 0 rfl) ?_
          refine lv_iconst (v := 1) hx hb dX11_bone_63 (by decide) ?_
          refine lv_iadd hx hb dX11_bone_64 ?_
          refine lv_iload_n hx hb dX11_bone_65 rfl (lv_at hl 3 rfl) ?_
          obtain ⟨hi27, hf⟩ := ck_of hf
          refine rB_iast hC hR hS ok_q25 hi27 dX11_bone_66 hf (fun S28 H locs hf hR hS hE29 => ?_)
          have ok_this := hE29 _ _ ok_this
          have ok_q9 := hE29 _ _ ok_q9
          have ok_q16 := hE29 _ _ ok_q16
          have ok_q20 := hE29 _ _ ok_q20
          have ok_q25 := hE29 _ _ ok_q25
          have hE := hE.tr hE29
          refine lv_aload_n hx hb dX11_bone_67 rfl (lv_at hl 1 rfl) ?_
          obtain ⟨q30, hq31, ok_q30, hf⟩ := gR_of hf
          refine gf_RX11_7 hC hR ok_this hq31 dX11_bone_68 ?_
          refine lv_iload_n hx hb dX11_bone_71 rfl (lv_at hl 0 rfl) ?_
          refine lv_iconst (v := 2) hx hb dX11_bone_72 (by decide) ?_
          refine lv_iadd hx hb dX11_bone_73 ?_
          refine lv_iconst (v := 0) hx hb dX11_bone_74 (by decide) ?_
          obtain ⟨hi32, hf⟩ := ck_of hf
          refine rB_iast hC hR hS ok_q30 hi32 dX11_bone_75 hf (fun S33 H locs hf hR hS hE34 => ?_)
          have ok_this := hE34 _ _ ok_this
          have ok_q9 := hE34 _ _ ok_q9
          have ok_q16 := hE34 _ _ ok_q16
          have ok_q20 := hE34 _ _ ok_q20
          have ok_q25 := hE34 _ _ ok_q25
          have ok_q30 := hE34 _ _ ok_q30
          have hE := hE.tr hE34
          refine lv_aload_n hx hb dX11_bone_76 rfl (lv_at hl 1 rfl) ?_
          obtain ⟨q35, hq36, ok_q35, hf⟩ := gR_of hf
          refine gf_RX11_7 hC hR ok_this hq36 dX11_bone_77 ?_
          refine lv_iconst (v := 1) hx hb dX11_bone_80 (by decide) ?_
          refine lv_dup2_11 hx hb dX11_bone_81 rfl rfl ?_
          obtain ⟨hi37, hf⟩ := ck_of hf
          refine r_iald hC hR ok_q35 hi37 dX11_bone_82 ?_
          refine lv_iconst (v := 1) hx hb dX11_bone_83 (by decide) ?_
          refine lv_iadd hx hb dX11_bone_84 ?_
          obtain ⟨hi38, hf⟩ := ck_of hf
          refine rB_iast hC hR hS ok_q35 hi38 dX11_bone_85 hf (fun S39 H locs hf hR hS hE40 => ?_)
          have ok_this := hE40 _ _ ok_this
          have ok_q9 := hE40 _ _ ok_q9
          have ok_q16 := hE40 _ _ ok_q16
          have ok_q20 := hE40 _ _ ok_q20
          have ok_q25 := hE40 _ _ ok_q25
          have ok_q30 := hE40 _ _ ok_q30
          have ok_q35 := hE40 _ _ ok_q35
          have hE := hE.tr hE40
          refine lv_aload_n hx hb dX11_bone_86 rfl (lv_at hl 1 rfl) ?_
          obtain ⟨q41, hq42, ok_q41, hf⟩ := gR_of hf
          refine gf_RX11_7 hC hR ok_this hq42 dX11_bone_87 ?_
          refine lv_sipush (v := 290) hx hb dX11_bone_90 (by decide) ?_
          refine lv_iload_n hx hb dX11_bone_93 rfl (lv_at hl 2 rfl) ?_
          refine lv_iadd hx hb dX11_bone_94 ?_
          refine lv_aload_n hx hb dX11_bone_95 rfl (lv_at hl 1 rfl) ?_
          obtain ⟨q43, hq44, ok_q43, hf⟩ := gR_of hf
          refine gf_RX11_7 hC hR ok_this hq44 dX11_bone_96 ?_
          refine lv_iconst (v := 1) hx hb dX11_bone_99 (by decide) ?_
          obtain ⟨hi45, hf⟩ := ck_of hf
          refine r_iald hC hR ok_q43 hi45 dX11_bone_100 ?_
          obtain ⟨hi46, hf⟩ := ck_of hf
          refine rB_iast hC hR hS ok_q41 hi46 dX11_bone_101 hf (fun S47 H locs hf hR hS hE48 => ?_)
          have ok_this := hE48 _ _ ok_this
          have ok_q9 := hE48 _ _ ok_q9
          have ok_q16 := hE48 _ _ ok_q16
          have ok_q20 := hE48 _ _ ok_q20
          have ok_q25 := hE48 _ _ ok_q25
          have ok_q30 := hE48 _ _ ok_q30
          have ok_q35 := hE48 _ _ ok_q35
          have ok_q41 := hE48 _ _ ok_q41
          have ok_q43 := hE48 _ _ ok_q43
          have hE := hE.tr hE48
          refine lv_aload_n hx hb dX11_bone_102 rfl (lv_at hl 1 rfl) ?_
          obtain ⟨q49, hq50, ok_q49, hf⟩ := gR_of hf
          refine gf_RX11_7 hC hR ok_this hq50 dX11_bone_103 ?_
          refine lv_sipush (v := 240) hx hb dX11_bone_106 (by decide) ?_
          refine lv_iload_n hx hb dX11_bone_109 rfl (lv_at hl 2 rfl) ?_
          refine lv_iadd hx hb dX11_bone_110 ?_
          refine lv_iconst (v := -1) hx hb dX11_bone_111 (by decide) ?_
          obtain ⟨hi51, hf⟩ := ck_of hf
          refine rB_iast hC hR hS ok_q49 hi51 dX11_bone_112 hf (fun S52 H locs hf hR hS hE53 => ?_)
          have ok_this := hE53 _ _ ok_this
          have ok_q9 := hE53 _ _ ok_q9
          have ok_q16 := hE53 _ _ ok_q16
          have ok_q20 := hE53 _ _ ok_q20
          have ok_q25 := hE53 _ _ ok_q25
          have ok_q30 := hE53 _ _ ok_q30
          have ok_q35 := hE53 _ _ ok_q35
          have ok_q41 := hE53 _ _ ok_q41
          have ok_q43 := hE53 _ _ ok_q43
          have ok_q49 := hE53 _ _ ok_q49
          have hE := hE.tr hE53
          refine lv_aload_n hx hb dX11_bone_113 rfl (lv_at hl 1 rfl) ?_
          obtain ⟨q54, hq55, ok_q54, hf⟩ := gR_of hf
          refine gf_RX11_7 hC hR ok_this hq55 dX11_bone_114 ?_
          refine lv_iconst (v := 1) hx hb dX11_bone_117 (by decide) ?_
          obtain ⟨hi56, hf⟩ := ck_of hf
          refine r_iald hC hR ok_q54 hi56 dX11_bone_118 ?_
          refine lv_iconst (v := 1) hx hb dX11_bone_119 (by decide) ?_
          refine lv_isub hx hb dX11_bone_120 ?_
          exact r_iret hC hR hS hE hf dX11_bone_121
        · replace hf := if_t hf hc
          refine lv_iconst (v := -1) hx hb dX11_bone_37 (by decide) ?_
          exact r_iret hC hR hS hE hf dX11_bone_38
abbrev rX11_stake : Room := { frames := 2, cells := 0, slots := 0, locals := 43 }
def f_X11_stake (n : Nat) (this : Nat) (a1 : Int32) (a2 : Int32) (S : MS) : Option (Int32 × MS) :=
  cl (f_X11_isFarmer n a1 S) fun x4 S1 => (if x4 = 0 then zb (0 : Int32) (some ((0 : Int32), S1)) else (if a2 = (-1 : Int32) then gR S1 (mR S1 this 0) 12 fun q5 => ck (inb ((85 : Int32) + a1) (mN S1 q5)) (bd (sI S1 q5 ((85 : Int32) + a1).toNatClampNeg a2) fun S8 => zb (1 : Int32) (some ((1 : Int32), S8))) else cl (f_X11_isCell n this a2 S1) fun x13 S10 => (if x13 = 0 then zb (0 : Int32) (some ((0 : Int32), S10)) else gR S10 (mR S10 this 0) 12 fun q14 => ck (inb ((290 : Int32) + a2) (mN S10 q14)) ((if (mI S10 q14 ((290 : Int32) + a2).toNatClampNeg) ≤ 0 then gR S10 (mR S10 this 0) 12 fun q17 => ck (inb ((85 : Int32) + a1) (mN S10 q17)) (bd (sI S10 q17 ((85 : Int32) + a1).toNatClampNeg a2) fun S20 => zb (1 : Int32) (some ((1 : Int32), S20))) else zb (0 : Int32) (some ((0 : Int32), S10)))))))
set_option maxRecDepth 100000 in
set_option maxHeartbeats 4000000 in
theorem c_X11_stake (l : Launch) (G : Gx) (n : Nat) (this : Nat) (a1 : Int32) (a2 : Int32) (S : MS) (ro : Int32) (So : MS) (hf : f_X11_stake n this a1 a2 S = some (ro, So)) (ok_this : Ok S this 11) : Cn G l yX11_stake cX11_stake 3 (some .boolean) rX11_stake [.ref this, .int a1, .int a2] S (some (.int ro)) So := by
  refine Cn.of (by decide) (Nat.le_of_ble_eq_true rfl) ?_
  intro p e s m args below meth c hC hname hR ls hl
  have hC : Cx G RX11 cX11_stake 3 (some .boolean) p s m args meth c := hC
  have hl : lv_has ls 3 [(0, .ref this), (1, .int a1), (2, .int a2)] := hl
  have hx := hC.x
  have hb := hC.b
  have hS : va_S (gA G) s.heap s.heap [] := va_S.rf
  have hE : Ex S S := Ex.rf S
  unfold f_X11_stake at hf
  refine lv_iload_n hx hb dX11_stake_0 rfl (lv_at hl 1 rfl) ?_
  obtain ⟨x4, S1, hc2, hf⟩ := cl_of hf
  refine cl_RX11_88 (As := [.int a1]) (rest := []) hC hR hS (c_X11_isFarmer l G n a1 S x4 S1 hc2 ) rfl ⟨Nat.le_of_ble_eq_true rfl, Nat.le_of_ble_eq_true rfl⟩ hl.1 rfl (Nat.le_of_ble_eq_true rfl) dX11_stake_1 (Nat.zero_le _) (Nat.zero_le _) (fun H locs hR hS hE3 => ?_)
  have ok_this := hE3 _ _ ok_this
  have hE := hE.tr hE3
  refine lv_if_eq (tgt := 33) hx hb dX11_stake_4 (by decide) (fun hc => ?_) (fun hc => ?_)
  · replace hf := if_t hf hc
    refine lv_iconst (v := 0) hx hb dX11_stake_33 (by decide) ?_
    exact r_zret hC hR hS hE hf dX11_stake_34
  · replace hf := if_f hf hc
    refine lv_iload_n hx hb dX11_stake_7 rfl (lv_at hl 2 rfl) ?_
    refine lv_iconst (v := -1) hx hb dX11_stake_8 (by decide) ?_
    refine lv_icmp_eq (tgt := 35) hx hb dX11_stake_9 (by decide) (fun hc => ?_) (fun hc => ?_)
    · replace hf := if_t hf hc
      refine lv_aload_n hx hb dX11_stake_35 rfl (lv_at hl 0 rfl) ?_
      obtain ⟨q5, hq6, ok_q5, hf⟩ := gR_of hf
      refine gf_RX11_7 hC hR ok_this hq6 dX11_stake_36 ?_
      refine lv_bipush (v := 85) hx hb dX11_stake_39 (by decide) ?_
      refine lv_iload_n hx hb dX11_stake_41 rfl (lv_at hl 1 rfl) ?_
      refine lv_iadd hx hb dX11_stake_42 ?_
      refine lv_iload_n hx hb dX11_stake_43 rfl (lv_at hl 2 rfl) ?_
      obtain ⟨hi7, hf⟩ := ck_of hf
      refine rB_iast hC hR hS ok_q5 hi7 dX11_stake_44 hf (fun S8 H locs hf hR hS hE9 => ?_)
      have ok_this := hE9 _ _ ok_this
      have ok_q5 := hE9 _ _ ok_q5
      have hE := hE.tr hE9
      refine lv_iconst (v := 1) hx hb dX11_stake_45 (by decide) ?_
      exact r_zret hC hR hS hE hf dX11_stake_46
    · replace hf := if_f hf hc
      refine lv_aload_n hx hb dX11_stake_12 rfl (lv_at hl 0 rfl) ?_
      refine lv_iload_n hx hb dX11_stake_13 rfl (lv_at hl 2 rfl) ?_
      obtain ⟨x13, S10, hc11, hf⟩ := cl_of hf
      refine cl_RX11_82 (As := [.int a2]) (rest := []) hC hR hS (c_X11_isCell l G n this a2 S1 x13 S10 hc11 ok_this) ok_this rfl ⟨Nat.le_of_ble_eq_true rfl, Nat.le_of_ble_eq_true rfl⟩ hl.1 rfl (Nat.le_of_ble_eq_true rfl) dX11_stake_14 (Nat.zero_le _) (Nat.zero_le _) (fun H locs hR hS hE12 => ?_)
      have ok_this := hE12 _ _ ok_this
      have hE := hE.tr hE12
      refine lv_if_eq (tgt := 33) hx hb dX11_stake_17 (by decide) (fun hc => ?_) (fun hc => ?_)
      · replace hf := if_t hf hc
        refine lv_iconst (v := 0) hx hb dX11_stake_33 (by decide) ?_
        exact r_zret hC hR hS hE hf dX11_stake_34
      · replace hf := if_f hf hc
        refine lv_aload_n hx hb dX11_stake_20 rfl (lv_at hl 0 rfl) ?_
        obtain ⟨q14, hq15, ok_q14, hf⟩ := gR_of hf
        refine gf_RX11_7 hC hR ok_this hq15 dX11_stake_21 ?_
        refine lv_sipush (v := 290) hx hb dX11_stake_24 (by decide) ?_
        refine lv_iload_n hx hb dX11_stake_27 rfl (lv_at hl 2 rfl) ?_
        refine lv_iadd hx hb dX11_stake_28 ?_
        obtain ⟨hi16, hf⟩ := ck_of hf
        refine r_iald hC hR ok_q14 hi16 dX11_stake_29 ?_
        refine lv_if_le (tgt := 35) hx hb dX11_stake_30 (by decide) (fun hc => ?_) (fun hc => ?_)
        · replace hf := if_t hf hc
          refine lv_aload_n hx hb dX11_stake_35 rfl (lv_at hl 0 rfl) ?_
          obtain ⟨q17, hq18, ok_q17, hf⟩ := gR_of hf
          refine gf_RX11_7 hC hR ok_this hq18 dX11_stake_36 ?_
          refine lv_bipush (v := 85) hx hb dX11_stake_39 (by decide) ?_
          refine lv_iload_n hx hb dX11_stake_41 rfl (lv_at hl 1 rfl) ?_
          refine lv_iadd hx hb dX11_stake_42 ?_
          refine lv_iload_n hx hb dX11_stake_43 rfl (lv_at hl 2 rfl) ?_
          obtain ⟨hi19, hf⟩ := ck_of hf
          refine rB_iast hC hR hS ok_q17 hi19 dX11_stake_44 hf (fun S20 H locs hf hR hS hE21 => ?_)
          have ok_this := hE21 _ _ ok_this
          have ok_q14 := hE21 _ _ ok_q14
          have ok_q17 := hE21 _ _ ok_q17
          have hE := hE.tr hE21
          refine lv_iconst (v := 1) hx hb dX11_stake_45 (by decide) ?_
          exact r_zret hC hR hS hE hf dX11_stake_46
        · replace hf := if_f hf hc
          refine lv_iconst (v := 0) hx hb dX11_stake_33 (by decide) ?_
          exact r_zret hC hR hS hE hf dX11_stake_34
abbrev rX11_well : Room := { frames := 2, cells := 0, slots := 0, locals := 43 }
def f_X11_well (n : Nat) (this : Nat) (a1 : Int32) (a2 : Int32) (S : MS) : Option (Int32 × MS) :=
  cl (f_X11_isCell n this a1 S) fun x4 S1 => (if x4 = 0 then zb (0 : Int32) (some ((0 : Int32), S1)) else gR S1 (mR S1 this 0) 12 fun q5 => (if a2 = 0 then ck (inb ((190 : Int32) + a1) (mN S1 q5)) (bd (sI S1 q5 ((190 : Int32) + a1).toNatClampNeg (0 : Int32)) fun S8 => zb (1 : Int32) (some ((1 : Int32), S8))) else ck (inb ((190 : Int32) + a1) (mN S1 q5)) (bd (sI S1 q5 ((190 : Int32) + a1).toNatClampNeg (1 : Int32)) fun S11 => zb (1 : Int32) (some ((1 : Int32), S11)))))
set_option maxRecDepth 100000 in
set_option maxHeartbeats 4000000 in
theorem c_X11_well (l : Launch) (G : Gx) (n : Nat) (this : Nat) (a1 : Int32) (a2 : Int32) (S : MS) (ro : Int32) (So : MS) (hf : f_X11_well n this a1 a2 S = some (ro, So)) (ok_this : Ok S this 11) : Cn G l yX11_well cX11_well 3 (some .boolean) rX11_well [.ref this, .int a1, .int a2] S (some (.int ro)) So := by
  refine Cn.of (by decide) (Nat.le_of_ble_eq_true rfl) ?_
  intro p e s m args below meth c hC hname hR ls hl
  have hC : Cx G RX11 cX11_well 3 (some .boolean) p s m args meth c := hC
  have hl : lv_has ls 3 [(0, .ref this), (1, .int a1), (2, .int a2)] := hl
  have hx := hC.x
  have hb := hC.b
  have hS : va_S (gA G) s.heap s.heap [] := va_S.rf
  have hE : Ex S S := Ex.rf S
  unfold f_X11_well at hf
  refine lv_aload_n hx hb dX11_well_0 rfl (lv_at hl 0 rfl) ?_
  refine lv_iload_n hx hb dX11_well_1 rfl (lv_at hl 1 rfl) ?_
  obtain ⟨x4, S1, hc2, hf⟩ := cl_of hf
  refine cl_RX11_82 (As := [.int a1]) (rest := []) hC hR hS (c_X11_isCell l G n this a1 S x4 S1 hc2 ok_this) ok_this rfl ⟨Nat.le_of_ble_eq_true rfl, Nat.le_of_ble_eq_true rfl⟩ hl.1 rfl (Nat.le_of_ble_eq_true rfl) dX11_well_2 (Nat.zero_le _) (Nat.zero_le _) (fun H locs hR hS hE3 => ?_)
  have ok_this := hE3 _ _ ok_this
  have hE := hE.tr hE3
  refine lv_if_ne (tgt := 10) hx hb dX11_well_5 (by decide) (fun hc => ?_) (fun hc => ?_)
  · replace hf := if_f hf hc
    refine lv_aload_n hx hb dX11_well_10 rfl (lv_at hl 0 rfl) ?_
    obtain ⟨q5, hq6, ok_q5, hf⟩ := gR_of hf
    refine gf_RX11_7 hC hR ok_this hq6 dX11_well_11 ?_
    refine lv_sipush (v := 190) hx hb dX11_well_14 (by decide) ?_
    refine lv_iload_n hx hb dX11_well_17 rfl (lv_at hl 1 rfl) ?_
    refine lv_iadd hx hb dX11_well_18 ?_
    refine lv_iload_n hx hb dX11_well_19 rfl (lv_at hl 2 rfl) ?_
    refine lv_if_eq (tgt := 27) hx hb dX11_well_20 (by decide) (fun hc => ?_) (fun hc => ?_)
    · replace hf := if_t hf hc
      refine lv_iconst (v := 0) hx hb dX11_well_27 (by decide) ?_
      obtain ⟨hi7, hf⟩ := ck_of hf
      refine rB_iast hC hR hS ok_q5 hi7 dX11_well_28 hf (fun S8 H locs hf hR hS hE9 => ?_)
      have ok_this := hE9 _ _ ok_this
      have ok_q5 := hE9 _ _ ok_q5
      have hE := hE.tr hE9
      refine lv_iconst (v := 1) hx hb dX11_well_29 (by decide) ?_
      exact r_zret hC hR hS hE hf dX11_well_30
    · replace hf := if_f hf hc
      refine lv_iconst (v := 1) hx hb dX11_well_23 (by decide) ?_
      refine lv_goto (tgt := 28) hx hb dX11_well_24 (by decide) ?_
      obtain ⟨hi10, hf⟩ := ck_of hf
      refine rB_iast hC hR hS ok_q5 hi10 dX11_well_28 hf (fun S11 H locs hf hR hS hE12 => ?_)
      have ok_this := hE12 _ _ ok_this
      have ok_q5 := hE12 _ _ ok_q5
      have hE := hE.tr hE12
      refine lv_iconst (v := 1) hx hb dX11_well_29 (by decide) ?_
      exact r_zret hC hR hS hE hf dX11_well_30
  · replace hf := if_t hf hc
    refine lv_iconst (v := 0) hx hb dX11_well_8 (by decide) ?_
    exact r_zret hC hR hS hE hf dX11_well_9
abbrev rX11_wind : Room := { frames := 1, cells := 0, slots := 0, locals := 22 }
def f_X11_wind (n : Nat) (this : Nat) (a1 : Int32) (a2 : Int32) (a3 : Int32) (a4 : Int32) (S : MS) : Option (Int32 × MS) :=
  cl (f_X11_isIn n a1 (-1 : Int32) (1 : Int32) S) fun x4 S1 => (if x4 = 0 then some ((-1 : Int32), S1) else cl (f_X11_isIn n a2 (-1 : Int32) (1 : Int32) S1) fun x8 S5 => (if x8 = 0 then some ((-1 : Int32), S5) else cl (f_X11_isIn n a3 (0 : Int32) (99 : Int32) S5) fun x12 S9 => (if x12 = 0 then some ((-1 : Int32), S9) else cl (f_X11_isIn n a4 (0 : Int32) (9 : Int32) S9) fun x16 S13 => (if x16 = 0 then some ((-1 : Int32), S13) else gR S13 (mR S13 this 0) 12 fun q17 => ck (inb (2 : Int32) (mN S13 q17)) ((if (mI S13 q17 (2 : Int32).toNatClampNeg) = (6 : Int32) then some ((-1 : Int32), S13) else gR S13 (mR S13 this 0) 12 fun q20 => ck (inb (2 : Int32) (mN S13 q20)) (bd ((100 : Int32) + ((4 : Int32) * (mI S13 q20 (2 : Int32).toNatClampNeg))) fun x23 => gR S13 (mR S13 this 0) 12 fun q24 => ck (inb x23 (mN S13 q24)) (bd (sI S13 q24 x23.toNatClampNeg a1) fun S27 => gR S27 (mR S27 this 0) 12 fun q29 => ck (inb (x23 + (1 : Int32)) (mN S27 q29)) (bd (sI S27 q29 (x23 + (1 : Int32)).toNatClampNeg a2) fun S32 => gR S32 (mR S32 this 0) 12 fun q34 => ck (inb (x23 + (2 : Int32)) (mN S32 q34)) (bd (sI S32 q34 (x23 + (2 : Int32)).toNatClampNeg a3) fun S37 => gR S37 (mR S37 this 0) 12 fun q39 => ck (inb (x23 + (3 : Int32)) (mN S37 q39)) (bd (sI S37 q39 (x23 + (3 : Int32)).toNatClampNeg a4) fun S42 => gR S42 (mR S42 this 0) 12 fun q44 => ck (inb (2 : Int32) (mN S42 q44)) (ck (inb (2 : Int32) (mN S42 q44)) (bd (sI S42 q44 (2 : Int32).toNatClampNeg ((mI S42 q44 (2 : Int32).toNatClampNeg) + (1 : Int32))) fun S48 => gR S48 (mR S48 this 0) 12 fun q50 => ck (inb (2 : Int32) (mN S48 q50)) (some (((mI S48 q50 (2 : Int32).toNatClampNeg) - (1 : Int32)), S48)))))))))))))))
set_option maxRecDepth 100000 in
set_option maxHeartbeats 4000000 in
theorem c_X11_wind (l : Launch) (G : Gx) (n : Nat) (this : Nat) (a1 : Int32) (a2 : Int32) (a3 : Int32) (a4 : Int32) (S : MS) (ro : Int32) (So : MS) (hf : f_X11_wind n this a1 a2 a3 a4 S = some (ro, So)) (ok_this : Ok S this 11) : Cn G l yX11_wind cX11_wind 6 (some .int) rX11_wind [.ref this, .int a1, .int a2, .int a3, .int a4] S (some (.int ro)) So := by
  refine Cn.of (by decide) (Nat.le_of_ble_eq_true rfl) ?_
  intro p e s m args below meth c hC hname hR ls hl
  have hC : Cx G RX11 cX11_wind 6 (some .int) p s m args meth c := hC
  have hl : lv_has ls 6 [(0, .ref this), (1, .int a1), (2, .int a2), (3, .int a3), (4, .int a4)] := hl
  have hx := hC.x
  have hb := hC.b
  have hS : va_S (gA G) s.heap s.heap [] := va_S.rf
  have hE : Ex S S := Ex.rf S
  unfold f_X11_wind at hf
  refine lv_iload_n hx hb dX11_wind_0 rfl (lv_at hl 1 rfl) ?_
  refine lv_iconst (v := -1) hx hb dX11_wind_1 (by decide) ?_
  refine lv_iconst (v := 1) hx hb dX11_wind_2 (by decide) ?_
  obtain ⟨x4, S1, hc2, hf⟩ := cl_of hf
  refine cl_RX11_71 (As := [.int a1, .int (-1 : Int32), .int (1 : Int32)]) (rest := []) hC hR hS (c_X11_isIn l G n a1 (-1 : Int32) (1 : Int32) S x4 S1 hc2 ) rfl ⟨Nat.le_of_ble_eq_true rfl, Nat.le_of_ble_eq_true rfl⟩ hl.1 rfl (Nat.le_of_ble_eq_true rfl) dX11_wind_3 (Nat.zero_le _) (Nat.zero_le _) (fun H locs hR hS hE3 => ?_)
  have ok_this := hE3 _ _ ok_this
  have hE := hE.tr hE3
  refine lv_if_eq (tgt := 50) hx hb dX11_wind_6 (by decide) (fun hc => ?_) (fun hc => ?_)
  · replace hf := if_t hf hc
    refine lv_iconst (v := -1) hx hb dX11_wind_50 (by decide) ?_
    exact r_iret hC hR hS hE hf dX11_wind_51
  · replace hf := if_f hf hc
    refine lv_iload_n hx hb dX11_wind_9 rfl (lv_at hl 2 rfl) ?_
    refine lv_iconst (v := -1) hx hb dX11_wind_10 (by decide) ?_
    refine lv_iconst (v := 1) hx hb dX11_wind_11 (by decide) ?_
    obtain ⟨x8, S5, hc6, hf⟩ := cl_of hf
    refine cl_RX11_71 (As := [.int a2, .int (-1 : Int32), .int (1 : Int32)]) (rest := []) hC hR hS (c_X11_isIn l G n a2 (-1 : Int32) (1 : Int32) S1 x8 S5 hc6 ) rfl ⟨Nat.le_of_ble_eq_true rfl, Nat.le_of_ble_eq_true rfl⟩ hl.1 rfl (Nat.le_of_ble_eq_true rfl) dX11_wind_12 (Nat.zero_le _) (Nat.zero_le _) (fun H locs hR hS hE7 => ?_)
    have ok_this := hE7 _ _ ok_this
    have hE := hE.tr hE7
    refine lv_if_eq (tgt := 50) hx hb dX11_wind_15 (by decide) (fun hc => ?_) (fun hc => ?_)
    · replace hf := if_t hf hc
      refine lv_iconst (v := -1) hx hb dX11_wind_50 (by decide) ?_
      exact r_iret hC hR hS hE hf dX11_wind_51
    · replace hf := if_f hf hc
      refine lv_iload_n hx hb dX11_wind_18 rfl (lv_at hl 3 rfl) ?_
      refine lv_iconst (v := 0) hx hb dX11_wind_19 (by decide) ?_
      refine lv_bipush (v := 99) hx hb dX11_wind_20 (by decide) ?_
      obtain ⟨x12, S9, hc10, hf⟩ := cl_of hf
      refine cl_RX11_71 (As := [.int a3, .int (0 : Int32), .int (99 : Int32)]) (rest := []) hC hR hS (c_X11_isIn l G n a3 (0 : Int32) (99 : Int32) S5 x12 S9 hc10 ) rfl ⟨Nat.le_of_ble_eq_true rfl, Nat.le_of_ble_eq_true rfl⟩ hl.1 rfl (Nat.le_of_ble_eq_true rfl) dX11_wind_22 (Nat.zero_le _) (Nat.zero_le _) (fun H locs hR hS hE11 => ?_)
      have ok_this := hE11 _ _ ok_this
      have hE := hE.tr hE11
      refine lv_if_eq (tgt := 50) hx hb dX11_wind_25 (by decide) (fun hc => ?_) (fun hc => ?_)
      · replace hf := if_t hf hc
        refine lv_iconst (v := -1) hx hb dX11_wind_50 (by decide) ?_
        exact r_iret hC hR hS hE hf dX11_wind_51
      · replace hf := if_f hf hc
        refine lv_iload hx hb dX11_wind_28 (lv_at hl 4 rfl) ?_
        refine lv_iconst (v := 0) hx hb dX11_wind_30 (by decide) ?_
        refine lv_bipush (v := 9) hx hb dX11_wind_31 (by decide) ?_
        obtain ⟨x16, S13, hc14, hf⟩ := cl_of hf
        refine cl_RX11_71 (As := [.int a4, .int (0 : Int32), .int (9 : Int32)]) (rest := []) hC hR hS (c_X11_isIn l G n a4 (0 : Int32) (9 : Int32) S9 x16 S13 hc14 ) rfl ⟨Nat.le_of_ble_eq_true rfl, Nat.le_of_ble_eq_true rfl⟩ hl.1 rfl (Nat.le_of_ble_eq_true rfl) dX11_wind_33 (Nat.zero_le _) (Nat.zero_le _) (fun H locs hR hS hE15 => ?_)
        have ok_this := hE15 _ _ ok_this
        have hE := hE.tr hE15
        refine lv_if_eq (tgt := 50) hx hb dX11_wind_36 (by decide) (fun hc => ?_) (fun hc => ?_)
        · replace hf := if_t hf hc
          refine lv_iconst (v := -1) hx hb dX11_wind_50 (by decide) ?_
          exact r_iret hC hR hS hE hf dX11_wind_51
        · replace hf := if_f hf hc
          refine lv_aload_n hx hb dX11_wind_39 rfl (lv_at hl 0 rfl) ?_
          obtain ⟨q17, hq18, ok_q17, hf⟩ := gR_of hf
          refine gf_RX11_7 hC hR ok_this hq18 dX11_wind_40 ?_
          refine lv_iconst (v := 2) hx hb dX11_wind_43 (by decide) ?_
          obtain ⟨hi19, hf⟩ := ck_of hf
          refine r_iald hC hR ok_q17 hi19 dX11_wind_44 ?_
          refine lv_bipush (v := 6) hx hb dX11_wind_45 (by decide) ?_
          refine lv_icmp_ne (tgt := 52) hx hb dX11_wind_47 (by decide) (fun hc => ?_) (fun hc => ?_)
          · replace hf := if_f hf hc
            refine lv_bipush (v := 100) hx hb dX11_wind_52 (by decide) ?_
            refine lv_iconst (v := 4) hx hb dX11_wind_54 (by decide) ?_
            refine lv_aload_n hx hb dX11_wind_55 rfl (lv_at hl 0 rfl) ?_
            obtain ⟨q20, hq21, ok_q20, hf⟩ := gR_of hf
            refine gf_RX11_7 hC hR ok_this hq21 dX11_wind_56 ?_
            refine lv_iconst (v := 2) hx hb dX11_wind_59 (by decide) ?_
            obtain ⟨hi22, hf⟩ := ck_of hf
            refine r_iald hC hR ok_q20 hi22 dX11_wind_60 ?_
            refine lv_imul hx hb dX11_wind_61 ?_
            refine lv_iadd hx hb dX11_wind_62 ?_
            refine bdi hf (fun x23 hf => ?_)
            refine lv_istore (lv' := [(5, .int x23), (0, .ref this), (1, .int a1), (2, .int a2), (3, .int a3), (4, .int a4)]) hx hb dX11_wind_63 hl (by decide) rfl (fun ls hl => ?_)
            refine lv_aload_n hx hb dX11_wind_65 rfl (lv_at hl 1 rfl) ?_
            obtain ⟨q24, hq25, ok_q24, hf⟩ := gR_of hf
            refine gf_RX11_7 hC hR ok_this hq25 dX11_wind_66 ?_
            refine lv_iload hx hb dX11_wind_69 (lv_at hl 0 rfl) ?_
            refine lv_iload_n hx hb dX11_wind_71 rfl (lv_at hl 2 rfl) ?_
            obtain ⟨hi26, hf⟩ := ck_of hf
            refine rB_iast hC hR hS ok_q24 hi26 dX11_wind_72 hf (fun S27 H locs hf hR hS hE28 => ?_)
            have ok_this := hE28 _ _ ok_this
            have ok_q17 := hE28 _ _ ok_q17
            have ok_q20 := hE28 _ _ ok_q20
            have ok_q24 := hE28 _ _ ok_q24
            have hE := hE.tr hE28
            refine lv_aload_n hx hb dX11_wind_73 rfl (lv_at hl 1 rfl) ?_
            obtain ⟨q29, hq30, ok_q29, hf⟩ := gR_of hf
            refine gf_RX11_7 hC hR ok_this hq30 dX11_wind_74 ?_
            refine lv_iload hx hb dX11_wind_77 (lv_at hl 0 rfl) ?_
            refine lv_iconst (v := 1) hx hb dX11_wind_79 (by decide) ?_
            refine lv_iadd hx hb dX11_wind_80 ?_
            refine lv_iload_n hx hb dX11_wind_81 rfl (lv_at hl 3 rfl) ?_
            obtain ⟨hi31, hf⟩ := ck_of hf
            refine rB_iast hC hR hS ok_q29 hi31 dX11_wind_82 hf (fun S32 H locs hf hR hS hE33 => ?_)
            have ok_this := hE33 _ _ ok_this
            have ok_q17 := hE33 _ _ ok_q17
            have ok_q20 := hE33 _ _ ok_q20
            have ok_q24 := hE33 _ _ ok_q24
            have ok_q29 := hE33 _ _ ok_q29
            have hE := hE.tr hE33
            refine lv_aload_n hx hb dX11_wind_83 rfl (lv_at hl 1 rfl) ?_
            obtain ⟨q34, hq35, ok_q34, hf⟩ := gR_of hf
            refine gf_RX11_7 hC hR ok_this hq35 dX11_wind_84 ?_
            refine lv_iload hx hb dX11_wind_87 (lv_at hl 0 rfl) ?_
            refine lv_iconst (v := 2) hx hb dX11_wind_89 (by decide) ?_
            refine lv_iadd hx hb dX11_wind_90 ?_
            refine lv_iload_n hx hb dX11_wind_91 rfl (lv_at hl 4 rfl) ?_
            obtain ⟨hi36, hf⟩ := ck_of hf
            refine rB_iast hC hR hS ok_q34 hi36 dX11_wind_92 hf (fun S37 H locs hf hR hS hE38 => ?_)
            have ok_this := hE38 _ _ ok_this
            have ok_q17 := hE38 _ _ ok_q17
            have ok_q20 := hE38 _ _ ok_q20
            have ok_q24 := hE38 _ _ ok_q24
            have ok_q29 := hE38 _ _ ok_q29
            have ok_q34 := hE38 _ _ ok_q34
            have hE := hE.tr hE38
            refine lv_aload_n hx hb dX11_wind_93 rfl (lv_at hl 1 rfl) ?_
            obtain ⟨q39, hq40, ok_q39, hf⟩ := gR_of hf
            refine gf_RX11_7 hC hR ok_this hq40 dX11_wind_94 ?_
            refine lv_iload hx hb dX11_wind_97 (lv_at hl 0 rfl) ?_
            refine lv_iconst (v := 3) hx hb dX11_wind_99 (by decide) ?_
            refine lv_iadd hx hb dX11_wind_100 ?_
            refine lv_iload hx hb dX11_wind_101 (lv_at hl 5 rfl) ?_
            obtain ⟨hi41, hf⟩ := ck_of hf
            refine rB_iast hC hR hS ok_q39 hi41 dX11_wind_103 hf (fun S42 H locs hf hR hS hE43 => ?_)
            have ok_this := hE43 _ _ ok_this
            have ok_q17 := hE43 _ _ ok_q17
            have ok_q20 := hE43 _ _ ok_q20
            have ok_q24 := hE43 _ _ ok_q24
            have ok_q29 := hE43 _ _ ok_q29
            have ok_q34 := hE43 _ _ ok_q34
            have ok_q39 := hE43 _ _ ok_q39
            have hE := hE.tr hE43
            refine lv_aload_n hx hb dX11_wind_104 rfl (lv_at hl 1 rfl) ?_
            obtain ⟨q44, hq45, ok_q44, hf⟩ := gR_of hf
            refine gf_RX11_7 hC hR ok_this hq45 dX11_wind_105 ?_
            refine lv_iconst (v := 2) hx hb dX11_wind_108 (by decide) ?_
            refine lv_dup2_11 hx hb dX11_wind_109 rfl rfl ?_
            obtain ⟨hi46, hf⟩ := ck_of hf
            refine r_iald hC hR ok_q44 hi46 dX11_wind_110 ?_
            refine lv_iconst (v := 1) hx hb dX11_wind_111 (by decide) ?_
            refine lv_iadd hx hb dX11_wind_112 ?_
            obtain ⟨hi47, hf⟩ := ck_of hf
            refine rB_iast hC hR hS ok_q44 hi47 dX11_wind_113 hf (fun S48 H locs hf hR hS hE49 => ?_)
            have ok_this := hE49 _ _ ok_this
            have ok_q17 := hE49 _ _ ok_q17
            have ok_q20 := hE49 _ _ ok_q20
            have ok_q24 := hE49 _ _ ok_q24
            have ok_q29 := hE49 _ _ ok_q29
            have ok_q34 := hE49 _ _ ok_q34
            have ok_q39 := hE49 _ _ ok_q39
            have ok_q44 := hE49 _ _ ok_q44
            have hE := hE.tr hE49
            refine lv_aload_n hx hb dX11_wind_114 rfl (lv_at hl 1 rfl) ?_
            obtain ⟨q50, hq51, ok_q50, hf⟩ := gR_of hf
            refine gf_RX11_7 hC hR ok_this hq51 dX11_wind_115 ?_
            refine lv_iconst (v := 2) hx hb dX11_wind_118 (by decide) ?_
            obtain ⟨hi52, hf⟩ := ck_of hf
            refine r_iald hC hR ok_q50 hi52 dX11_wind_119 ?_
            refine lv_iconst (v := 1) hx hb dX11_wind_120 (by decide) ?_
            refine lv_isub hx hb dX11_wind_121 ?_
            exact r_iret hC hR hS hE hf dX11_wind_122
          · replace hf := if_t hf hc
            refine lv_iconst (v := -1) hx hb dX11_wind_50 (by decide) ?_
            exact r_iret hC hR hS hE hf dX11_wind_51
abbrev rX11_plan : Room := { frames := 2, cells := 0, slots := 0, locals := 43 }
def f_X11_plan (n : Nat) (this : Nat) (a1 : Int32) (a2 : Int32) (S : MS) : Option (Int32 × MS) :=
  cl (f_X11_isIn n a1 (0 : Int32) (39 : Int32) S) fun x4 S1 => (if x4 = 0 then zb (0 : Int32) (some ((0 : Int32), S1)) else cl (f_X11_isWind n this a2 S1) fun x8 S5 => (if x8 = 0 then zb (0 : Int32) (some ((0 : Int32), S5)) else gR S5 (mR S5 this 0) 12 fun q9 => ck (inb ((125 : Int32) + a1) (mN S5 q9)) (bd (sI S5 q9 ((125 : Int32) + a1).toNatClampNeg a2) fun S12 => zb (1 : Int32) (some ((1 : Int32), S12)))))
set_option maxRecDepth 100000 in
set_option maxHeartbeats 4000000 in
theorem c_X11_plan (l : Launch) (G : Gx) (n : Nat) (this : Nat) (a1 : Int32) (a2 : Int32) (S : MS) (ro : Int32) (So : MS) (hf : f_X11_plan n this a1 a2 S = some (ro, So)) (ok_this : Ok S this 11) : Cn G l yX11_plan cX11_plan 3 (some .boolean) rX11_plan [.ref this, .int a1, .int a2] S (some (.int ro)) So := by
  refine Cn.of (by decide) (Nat.le_of_ble_eq_true rfl) ?_
  intro p e s m args below meth c hC hname hR ls hl
  have hC : Cx G RX11 cX11_plan 3 (some .boolean) p s m args meth c := hC
  have hl : lv_has ls 3 [(0, .ref this), (1, .int a1), (2, .int a2)] := hl
  have hx := hC.x
  have hb := hC.b
  have hS : va_S (gA G) s.heap s.heap [] := va_S.rf
  have hE : Ex S S := Ex.rf S
  unfold f_X11_plan at hf
  refine lv_iload_n hx hb dX11_plan_0 rfl (lv_at hl 1 rfl) ?_
  refine lv_iconst (v := 0) hx hb dX11_plan_1 (by decide) ?_
  refine lv_bipush (v := 39) hx hb dX11_plan_2 (by decide) ?_
  obtain ⟨x4, S1, hc2, hf⟩ := cl_of hf
  refine cl_RX11_71 (As := [.int a1, .int (0 : Int32), .int (39 : Int32)]) (rest := []) hC hR hS (c_X11_isIn l G n a1 (0 : Int32) (39 : Int32) S x4 S1 hc2 ) rfl ⟨Nat.le_of_ble_eq_true rfl, Nat.le_of_ble_eq_true rfl⟩ hl.1 rfl (Nat.le_of_ble_eq_true rfl) dX11_plan_4 (Nat.zero_le _) (Nat.zero_le _) (fun H locs hR hS hE3 => ?_)
  have ok_this := hE3 _ _ ok_this
  have hE := hE.tr hE3
  refine lv_if_eq (tgt := 18) hx hb dX11_plan_7 (by decide) (fun hc => ?_) (fun hc => ?_)
  · replace hf := if_t hf hc
    refine lv_iconst (v := 0) hx hb dX11_plan_18 (by decide) ?_
    exact r_zret hC hR hS hE hf dX11_plan_19
  · replace hf := if_f hf hc
    refine lv_aload_n hx hb dX11_plan_10 rfl (lv_at hl 0 rfl) ?_
    refine lv_iload_n hx hb dX11_plan_11 rfl (lv_at hl 2 rfl) ?_
    obtain ⟨x8, S5, hc6, hf⟩ := cl_of hf
    refine cl_RX11_91 (As := [.int a2]) (rest := []) hC hR hS (c_X11_isWind l G n this a2 S1 x8 S5 hc6 ok_this) ok_this rfl ⟨Nat.le_of_ble_eq_true rfl, Nat.le_of_ble_eq_true rfl⟩ hl.1 rfl (Nat.le_of_ble_eq_true rfl) dX11_plan_12 (Nat.zero_le _) (Nat.zero_le _) (fun H locs hR hS hE7 => ?_)
    have ok_this := hE7 _ _ ok_this
    have hE := hE.tr hE7
    refine lv_if_ne (tgt := 20) hx hb dX11_plan_15 (by decide) (fun hc => ?_) (fun hc => ?_)
    · replace hf := if_f hf hc
      refine lv_aload_n hx hb dX11_plan_20 rfl (lv_at hl 0 rfl) ?_
      obtain ⟨q9, hq10, ok_q9, hf⟩ := gR_of hf
      refine gf_RX11_7 hC hR ok_this hq10 dX11_plan_21 ?_
      refine lv_bipush (v := 125) hx hb dX11_plan_24 (by decide) ?_
      refine lv_iload_n hx hb dX11_plan_26 rfl (lv_at hl 1 rfl) ?_
      refine lv_iadd hx hb dX11_plan_27 ?_
      refine lv_iload_n hx hb dX11_plan_28 rfl (lv_at hl 2 rfl) ?_
      obtain ⟨hi11, hf⟩ := ck_of hf
      refine rB_iast hC hR hS ok_q9 hi11 dX11_plan_29 hf (fun S12 H locs hf hR hS hE13 => ?_)
      have ok_this := hE13 _ _ ok_this
      have ok_q9 := hE13 _ _ ok_q9
      have hE := hE.tr hE13
      refine lv_iconst (v := 1) hx hb dX11_plan_30 (by decide) ?_
      exact r_zret hC hR hS hE hf dX11_plan_31
    · replace hf := if_t hf hc
      refine lv_iconst (v := 0) hx hb dX11_plan_18 (by decide) ?_
      exact r_zret hC hR hS hE hf dX11_plan_19
abbrev rX11_four : Room := { frames := 0, cells := 0, slots := 0, locals := 0 }
def f_X11_four_L3 (n : Nat) (this : Nat) (a1 : Int32) : Nat → Int32 → MS → Option (MS)
  | 0, _, _ => none
  | k + 1, x3, S4 => jn (f_X11_four_L3 n this a1 k) fun rec3_2 => (if x3 < 0 then some S4 else gR S4 (mR S4 this 6) 12 fun q5 => ck (inb (mI S4 this 7) (mN S4 q5)) (bd (sI S4 q5 (mI S4 this 7).toNatClampNeg ((a1 >>> (x3 &&& 31)) &&& (255 : Int32))) fun S8 => bd (sI S8 this 7 ((mI S8 this 7) + (1 : Int32))) fun S10 => bd (x3 + (-8 : Int32)) fun x12 => rec3_2 x12 S10))
def f_X11_four (n : Nat) (this : Nat) (a1 : Int32) (S : MS) : Option (MS) :=
  f_X11_four_L3 n this a1 n (24 : Int32) S
set_option maxRecDepth 100000 in
set_option maxHeartbeats 4000000 in
theorem c_X11_four (l : Launch) (G : Gx) (n : Nat) (this : Nat) (a1 : Int32) (S : MS) (So : MS) (hf : f_X11_four n this a1 S = some So) (ok_this : Ok S this 11) : Cn G l yX11_four cX11_four 3 none rX11_four [.ref this, .int a1] S none So := by
  refine Cn.of (by decide) (Nat.le_of_ble_eq_true rfl) ?_
  intro p e s m args below meth c hC hname hR ls hl
  have hC : Cx G RX11 cX11_four 3 none p s m args meth c := hC
  have hl : lv_has ls 3 [(0, .ref this), (1, .int a1)] := hl
  have hx := hC.x
  have hb := hC.b
  have hS : va_S (gA G) s.heap s.heap [] := va_S.rf
  have hE : Ex S S := Ex.rf S
  unfold f_X11_four at hf
  refine lv_bipush (v := 24) hx hb dX11_four_0 (by decide) ?_
  refine lv_istore_n (lv' := [(2, .int (24 : Int32)), (0, .ref this), (1, .int a1)]) hx hb dX11_four_2 rfl hl (by decide) rfl (fun ls hl => ?_)
  have hh13 : ∀ k : Nat, ∀ (x3 : Int32) (S4 : MS) (H : Heap) (locs : List Loc) (ls : Array Slot), f_X11_four_L3 n this a1 k x3 S4 = some So → Rp G S4 H → va_S (gA G) s.heap H locs → Ex S S4 → Ok S4 this 11 → lv_has ls 3 [(0, .ref this), (1, .int a1), (2, .int x3)] → W p l e rX11_four s m args below meth c H locs 0 0 (MQ below (Qn G S none So) args s 0 0 (gA G)) (F0 m 3 ls []) := by
    intro k
    induction k with
    | zero =>
      intro x3 S4 H locs ls hf hR hS hE ok_this hl
      exact absurd hf (by rw [f_X11_four_L3]; exact fun h => by cases h)
    | succ k ih =>
      intro x3 S4 H locs ls hf hR hS hE ok_this hl
      rw [f_X11_four_L3] at hf
      obtain ⟨rec3_2, erec3_2, hf⟩ := jn_of2 hf
      have hL3_1 : ∀ (x3 : Int32) (S4 : MS) (H : Heap) (locs : List Loc) (ls : Array Slot), rec3_2 x3 S4 = some So → Rp G S4 H → va_S (gA G) s.heap H locs → Ex S S4 → Ok S4 this 11 → lv_has ls 3 [(0, .ref this), (1, .int a1), (2, .int x3)] → W p l e rX11_four s m args below meth c H locs 0 0 (MQ below (Qn G S none So) args s 0 0 (gA G)) (F0 m 3 ls []) := by
        intro x3 S4 H locs ls hf hR hS hE ok_this hl
        rw [erec3_2] at hf
        exact ih x3 S4 _ _ _ hf hR hS hE ok_this hl
      refine lv_iload_n hx hb dX11_four_3 rfl (lv_at hl 2 rfl) ?_
      refine lv_if_lt (tgt := 39) hx hb dX11_four_4 (by decide) (fun hc => ?_) (fun hc => ?_)
      · replace hf := if_t hf hc
        exact r_vret hC hR hS hE hf dX11_four_39
      · replace hf := if_f hf hc
        refine lv_aload_n hx hb dX11_four_7 rfl (lv_at hl 0 rfl) ?_
        obtain ⟨q5, hq6, ok_q5, hf⟩ := gR_of hf
        refine gf_RX11_16 hC hR ok_this hq6 dX11_four_8 ?_
        refine lv_aload_n hx hb dX11_four_11 rfl (lv_at hl 0 rfl) ?_
        refine gf_RX11_94 hC hR ok_this dX11_four_12 ?_
        refine lv_iload_n hx hb dX11_four_15 rfl (lv_at hl 1 rfl) ?_
        refine lv_iload_n hx hb dX11_four_16 rfl (lv_at hl 2 rfl) ?_
        refine lv_ishr hx hb dX11_four_17 ?_
        refine lv_sipush (v := 255) hx hb dX11_four_18 (by decide) ?_
        refine lv_iand hx hb dX11_four_21 ?_
        obtain ⟨hi7, hf⟩ := ck_of hf
        refine rB_iast hC hR hS ok_q5 hi7 dX11_four_22 hf (fun S8 H locs hf hR hS hE9 => ?_)
        have ok_this := hE9 _ _ ok_this
        have ok_q5 := hE9 _ _ ok_q5
        have hE := hE.tr hE9
        refine lv_aload_n hx hb dX11_four_23 rfl (lv_at hl 0 rfl) ?_
        refine lv_dup hx hb dX11_four_24 rfl ?_
        refine gf_RX11_94 hC hR ok_this dX11_four_25 ?_
        refine lv_iconst (v := 1) hx hb dX11_four_28 (by decide) ?_
        refine lv_iadd hx hb dX11_four_29 ?_
        refine pf_RX11_94 hC hR hS ok_this dX11_four_30 hf (fun S10 H locs hf hR hS hE11 => ?_)
        have ok_this := hE11 _ _ ok_this
        have ok_q5 := hE11 _ _ ok_q5
        have hE := hE.tr hE11
        refine r_iinc (n := -8) (z := -8) (lv' := fun x12 => [(2, .int x12), (0, .ref this), (1, .int a1)]) hx hb dX11_four_33 hl (k := 2) rfl (by decide) (by decide) (fun _ => rfl) hf (fun x12 ls hf hl => ?_)
        refine lv_goto (tgt := 3) hx hb dX11_four_36 (by decide) ?_
        exact hL3_1 x12 S10 _ _ _ hf hR hS hE ok_this (lv_sub hl [1, 2, 0] rfl)
  exact hh13 n (24 : Int32) S _ _ _ hf hR hS hE ok_this (lv_sub hl [1, 2, 0] rfl)
abbrev rX11_feed : Room := { frames := 1, cells := 0, slots := 0, locals := 22 }
def f_X11_feed (n : Nat) (this : Nat) (a1 : Int32) (a2 : Int32) (a3 : Int32) (a4 : Int32) (a5 : Int32) (S : MS) : Option (Int32 × MS) :=
  (if ((mI S this 7) + (20 : Int32)) ≤ (300 : Int32) then cv (f_X11_four n this a1 S) fun S1 => cv (f_X11_four n this a2 S1) fun S4 => cv (f_X11_four n this a3 S4) fun S7 => cv (f_X11_four n this a4 S7) fun S10 => cv (f_X11_four n this a5 S10) fun S13 => some ((mI S13 this 7), S13) else some ((-1 : Int32), S))
set_option maxRecDepth 100000 in
set_option maxHeartbeats 4000000 in
theorem c_X11_feed (l : Launch) (G : Gx) (n : Nat) (this : Nat) (a1 : Int32) (a2 : Int32) (a3 : Int32) (a4 : Int32) (a5 : Int32) (S : MS) (ro : Int32) (So : MS) (hf : f_X11_feed n this a1 a2 a3 a4 a5 S = some (ro, So)) (ok_this : Ok S this 11) : Cn G l yX11_feed cX11_feed 6 (some .int) rX11_feed [.ref this, .int a1, .int a2, .int a3, .int a4, .int a5] S (some (.int ro)) So := by
  refine Cn.of (by decide) (Nat.le_of_ble_eq_true rfl) ?_
  intro p e s m args below meth c hC hname hR ls hl
  have hC : Cx G RX11 cX11_feed 6 (some .int) p s m args meth c := hC
  have hl : lv_has ls 6 [(0, .ref this), (1, .int a1), (2, .int a2), (3, .int a3), (4, .int a4), (5, .int a5)] := hl
  have hx := hC.x
  have hb := hC.b
  have hS : va_S (gA G) s.heap s.heap [] := va_S.rf
  have hE : Ex S S := Ex.rf S
  unfold f_X11_feed at hf
  refine lv_aload_n hx hb dX11_feed_0 rfl (lv_at hl 0 rfl) ?_
  refine gf_RX11_94 hC hR ok_this dX11_feed_1 ?_
  refine lv_bipush (v := 20) hx hb dX11_feed_4 (by decide) ?_
  refine lv_iadd hx hb dX11_feed_6 ?_
  refine lv_sipush (v := 300) hx hb dX11_feed_7 (by decide) ?_
  refine lv_icmp_le (tgt := 15) hx hb dX11_feed_10 (by decide) (fun hc => ?_) (fun hc => ?_)
  · replace hf := if_t hf hc
    refine lv_aload_n hx hb dX11_feed_15 rfl (lv_at hl 0 rfl) ?_
    refine lv_iload_n hx hb dX11_feed_16 rfl (lv_at hl 1 rfl) ?_
    obtain ⟨S1, hc2, hf⟩ := cv_of hf
    refine cl_RX11_97 (As := [.int a1]) (rest := []) hC hR hS (c_X11_four l G n this a1 S S1 hc2 ok_this) ok_this rfl ⟨Nat.le_of_ble_eq_true rfl, Nat.le_of_ble_eq_true rfl⟩ hl.1 rfl (Nat.le_of_ble_eq_true rfl) dX11_feed_17 (Nat.zero_le _) (Nat.zero_le _) (fun H locs hR hS hE3 => ?_)
    have ok_this := hE3 _ _ ok_this
    have hE := hE.tr hE3
    refine lv_aload_n hx hb dX11_feed_20 rfl (lv_at hl 0 rfl) ?_
    refine lv_iload_n hx hb dX11_feed_21 rfl (lv_at hl 2 rfl) ?_
    obtain ⟨S4, hc5, hf⟩ := cv_of hf
    refine cl_RX11_97 (As := [.int a2]) (rest := []) hC hR hS (c_X11_four l G n this a2 S1 S4 hc5 ok_this) ok_this rfl ⟨Nat.le_of_ble_eq_true rfl, Nat.le_of_ble_eq_true rfl⟩ hl.1 rfl (Nat.le_of_ble_eq_true rfl) dX11_feed_22 (Nat.zero_le _) (Nat.zero_le _) (fun H locs hR hS hE6 => ?_)
    have ok_this := hE6 _ _ ok_this
    have hE := hE.tr hE6
    refine lv_aload_n hx hb dX11_feed_25 rfl (lv_at hl 0 rfl) ?_
    refine lv_iload_n hx hb dX11_feed_26 rfl (lv_at hl 3 rfl) ?_
    obtain ⟨S7, hc8, hf⟩ := cv_of hf
    refine cl_RX11_97 (As := [.int a3]) (rest := []) hC hR hS (c_X11_four l G n this a3 S4 S7 hc8 ok_this) ok_this rfl ⟨Nat.le_of_ble_eq_true rfl, Nat.le_of_ble_eq_true rfl⟩ hl.1 rfl (Nat.le_of_ble_eq_true rfl) dX11_feed_27 (Nat.zero_le _) (Nat.zero_le _) (fun H locs hR hS hE9 => ?_)
    have ok_this := hE9 _ _ ok_this
    have hE := hE.tr hE9
    refine lv_aload_n hx hb dX11_feed_30 rfl (lv_at hl 0 rfl) ?_
    refine lv_iload hx hb dX11_feed_31 (lv_at hl 4 rfl) ?_
    obtain ⟨S10, hc11, hf⟩ := cv_of hf
    refine cl_RX11_97 (As := [.int a4]) (rest := []) hC hR hS (c_X11_four l G n this a4 S7 S10 hc11 ok_this) ok_this rfl ⟨Nat.le_of_ble_eq_true rfl, Nat.le_of_ble_eq_true rfl⟩ hl.1 rfl (Nat.le_of_ble_eq_true rfl) dX11_feed_33 (Nat.zero_le _) (Nat.zero_le _) (fun H locs hR hS hE12 => ?_)
    have ok_this := hE12 _ _ ok_this
    have hE := hE.tr hE12
    refine lv_aload_n hx hb dX11_feed_36 rfl (lv_at hl 0 rfl) ?_
    refine lv_iload hx hb dX11_feed_37 (lv_at hl 5 rfl) ?_
    obtain ⟨S13, hc14, hf⟩ := cv_of hf
    refine cl_RX11_97 (As := [.int a5]) (rest := []) hC hR hS (c_X11_four l G n this a5 S10 S13 hc14 ok_this) ok_this rfl ⟨Nat.le_of_ble_eq_true rfl, Nat.le_of_ble_eq_true rfl⟩ hl.1 rfl (Nat.le_of_ble_eq_true rfl) dX11_feed_39 (Nat.zero_le _) (Nat.zero_le _) (fun H locs hR hS hE15 => ?_)
    have ok_this := hE15 _ _ ok_this
    have hE := hE.tr hE15
    refine lv_aload_n hx hb dX11_feed_42 rfl (lv_at hl 0 rfl) ?_
    refine gf_RX11_94 hC hR ok_this dX11_feed_43 ?_
    exact r_iret hC hR hS hE hf dX11_feed_46
  · replace hf := if_f hf hc
    refine lv_iconst (v := -1) hx hb dX11_feed_13 (by decide) ?_
    exact r_iret hC hR hS hE hf dX11_feed_14
abbrev rX11_end : Room := { frames := 1, cells := 0, slots := 0, locals := 22 }
def f_X11_end (n : Nat) (this : Nat) (a1 : Int32) (S : MS) : Option (Int32 × MS) :=
  cl (f_X11_isIn n a1 (0 : Int32) (mI S this 7) S) fun x4 S1 => (if x4 = 0 then some ((-1 : Int32), S1) else bd (sI S1 this 7 a1) fun S5 => some (a1, S5))
set_option maxRecDepth 100000 in
set_option maxHeartbeats 4000000 in
theorem c_X11_end (l : Launch) (G : Gx) (n : Nat) (this : Nat) (a1 : Int32) (S : MS) (ro : Int32) (So : MS) (hf : f_X11_end n this a1 S = some (ro, So)) (ok_this : Ok S this 11) : Cn G l yX11_end cX11_end 2 (some .int) rX11_end [.ref this, .int a1] S (some (.int ro)) So := by
  refine Cn.of (by decide) (Nat.le_of_ble_eq_true rfl) ?_
  intro p e s m args below meth c hC hname hR ls hl
  have hC : Cx G RX11 cX11_end 2 (some .int) p s m args meth c := hC
  have hl : lv_has ls 2 [(0, .ref this), (1, .int a1)] := hl
  have hx := hC.x
  have hb := hC.b
  have hS : va_S (gA G) s.heap s.heap [] := va_S.rf
  have hE : Ex S S := Ex.rf S
  unfold f_X11_end at hf
  refine lv_iload_n hx hb dX11_end_0 rfl (lv_at hl 1 rfl) ?_
  refine lv_iconst (v := 0) hx hb dX11_end_1 (by decide) ?_
  refine lv_aload_n hx hb dX11_end_2 rfl (lv_at hl 0 rfl) ?_
  refine gf_RX11_94 hC hR ok_this dX11_end_3 ?_
  obtain ⟨x4, S1, hc2, hf⟩ := cl_of hf
  refine cl_RX11_71 (As := [.int a1, .int (0 : Int32), .int (mI S this 7)]) (rest := []) hC hR hS (c_X11_isIn l G n a1 (0 : Int32) (mI S this 7) S x4 S1 hc2 ) rfl ⟨Nat.le_of_ble_eq_true rfl, Nat.le_of_ble_eq_true rfl⟩ hl.1 rfl (Nat.le_of_ble_eq_true rfl) dX11_end_6 (Nat.zero_le _) (Nat.zero_le _) (fun H locs hR hS hE3 => ?_)
  have ok_this := hE3 _ _ ok_this
  have hE := hE.tr hE3
  refine lv_if_ne (tgt := 14) hx hb dX11_end_9 (by decide) (fun hc => ?_) (fun hc => ?_)
  · replace hf := if_f hf hc
    refine lv_aload_n hx hb dX11_end_14 rfl (lv_at hl 0 rfl) ?_
    refine lv_iload_n hx hb dX11_end_15 rfl (lv_at hl 1 rfl) ?_
    refine pf_RX11_94 hC hR hS ok_this dX11_end_16 hf (fun S5 H locs hf hR hS hE6 => ?_)
    have ok_this := hE6 _ _ ok_this
    have hE := hE.tr hE6
    refine lv_iload_n hx hb dX11_end_19 rfl (lv_at hl 1 rfl) ?_
    exact r_iret hC hR hS hE hf dX11_end_20
  · replace hf := if_t hf hc
    refine lv_iconst (v := -1) hx hb dX11_end_12 (by decide) ?_
    exact r_iret hC hR hS hE hf dX11_end_13
abbrev rX11_byteAt : Room := { frames := 0, cells := 0, slots := 0, locals := 0 }
def f_X11_byteAt (_n : Nat) (this : Nat) (a1 : Int32) (S : MS) : Option (Int32 × MS) :=
  (if (mI S this 7) ≤ a1 then some ((-1 : Int32), S) else gR S (mR S this 6) 12 fun q1 => ck (inb a1 (mN S q1)) (some ((mI S q1 a1.toNatClampNeg), S)))
set_option maxRecDepth 100000 in
set_option maxHeartbeats 4000000 in
theorem c_X11_byteAt (l : Launch) (G : Gx) (n : Nat) (this : Nat) (a1 : Int32) (S : MS) (ro : Int32) (So : MS) (hf : f_X11_byteAt n this a1 S = some (ro, So)) (ok_this : Ok S this 11) : Cn G l yX11_byteAt cX11_byteAt 2 (some .int) rX11_byteAt [.ref this, .int a1] S (some (.int ro)) So := by
  refine Cn.of (by decide) (Nat.le_of_ble_eq_true rfl) ?_
  intro p e s m args below meth c hC hname hR ls hl
  have hC : Cx G RX11 cX11_byteAt 2 (some .int) p s m args meth c := hC
  have hl : lv_has ls 2 [(0, .ref this), (1, .int a1)] := hl
  have hx := hC.x
  have hb := hC.b
  have hS : va_S (gA G) s.heap s.heap [] := va_S.rf
  have hE : Ex S S := Ex.rf S
  unfold f_X11_byteAt at hf
  refine lv_iload_n hx hb dX11_byteAt_0 rfl (lv_at hl 1 rfl) ?_
  refine lv_aload_n hx hb dX11_byteAt_1 rfl (lv_at hl 0 rfl) ?_
  refine gf_RX11_94 hC hR ok_this dX11_byteAt_2 ?_
  refine lv_icmp_ge (tgt := 17) hx hb dX11_byteAt_5 (by decide) (fun hc => ?_) (fun hc => ?_)
  · replace hf := if_t hf hc
    refine lv_iconst (v := -1) hx hb dX11_byteAt_17 (by decide) ?_
    exact r_iret hC hR hS hE hf dX11_byteAt_18
  · replace hf := if_f hf hc
    refine lv_aload_n hx hb dX11_byteAt_8 rfl (lv_at hl 0 rfl) ?_
    obtain ⟨q1, hq2, ok_q1, hf⟩ := gR_of hf
    refine gf_RX11_16 hC hR ok_this hq2 dX11_byteAt_9 ?_
    refine lv_iload_n hx hb dX11_byteAt_12 rfl (lv_at hl 1 rfl) ?_
    obtain ⟨hi3, hf⟩ := ck_of hf
    refine r_iald hC hR ok_q1 hi3 dX11_byteAt_13 ?_
    refine lv_goto (tgt := 18) hx hb dX11_byteAt_14 (by decide) ?_
    exact r_iret hC hR hS hE hf dX11_byteAt_18
abbrev rX11_isLetter : Room := { frames := 1, cells := 0, slots := 0, locals := 22 }
def f_X11_isLetter (n : Nat) (a1 : Int32) (S : MS) : Option (Int32 × MS) :=
  cl (f_X11_isIn n a1 (97 : Int32) (122 : Int32) S) fun x4 S1 => (if x4 = 0 then cl (f_X11_isIn n a1 (65 : Int32) (90 : Int32) S1) fun x8 S5 => (if x8 = 0 then zb (0 : Int32) (some ((0 : Int32), S5)) else zb (1 : Int32) (some ((1 : Int32), S5))) else zb (1 : Int32) (some ((1 : Int32), S1)))
set_option maxRecDepth 100000 in
set_option maxHeartbeats 4000000 in
theorem c_X11_isLetter (l : Launch) (G : Gx) (n : Nat) (a1 : Int32) (S : MS) (ro : Int32) (So : MS) (hf : f_X11_isLetter n a1 S = some (ro, So)) : Cn G l yX11_isLetter cX11_isLetter 1 (some .boolean) rX11_isLetter [.int a1] S (some (.int ro)) So := by
  refine Cn.of (by decide) (Nat.le_of_ble_eq_true rfl) ?_
  intro p e s m args below meth c hC hname hR ls hl
  have hC : Cx G RX11 cX11_isLetter 1 (some .boolean) p s m args meth c := hC
  have hl : lv_has ls 1 [(0, .int a1)] := hl
  have hx := hC.x
  have hb := hC.b
  have hS : va_S (gA G) s.heap s.heap [] := va_S.rf
  have hE : Ex S S := Ex.rf S
  unfold f_X11_isLetter at hf
  refine lv_iload_n hx hb dX11_isLetter_0 rfl (lv_at hl 0 rfl) ?_
  refine lv_bipush (v := 97) hx hb dX11_isLetter_1 (by decide) ?_
  refine lv_bipush (v := 122) hx hb dX11_isLetter_3 (by decide) ?_
  obtain ⟨x4, S1, hc2, hf⟩ := cl_of hf
  refine cl_RX11_71 (As := [.int a1, .int (97 : Int32), .int (122 : Int32)]) (rest := []) hC hR hS (c_X11_isIn l G n a1 (97 : Int32) (122 : Int32) S x4 S1 hc2 ) rfl ⟨Nat.le_of_ble_eq_true rfl, Nat.le_of_ble_eq_true rfl⟩ hl.1 rfl (Nat.le_of_ble_eq_true rfl) dX11_isLetter_5 (Nat.zero_le _) (Nat.zero_le _) (fun H locs hR hS hE3 => ?_)
  have hE := hE.tr hE3
  refine lv_if_ne (tgt := 22) hx hb dX11_isLetter_8 (by decide) (fun hc => ?_) (fun hc => ?_)
  · replace hf := if_f hf hc
    refine lv_iconst (v := 1) hx hb dX11_isLetter_22 (by decide) ?_
    refine lv_goto (tgt := 27) hx hb dX11_isLetter_23 (by decide) ?_
    exact r_zret hC hR hS hE hf dX11_isLetter_27
  · replace hf := if_t hf hc
    refine lv_iload_n hx hb dX11_isLetter_11 rfl (lv_at hl 0 rfl) ?_
    refine lv_bipush (v := 65) hx hb dX11_isLetter_12 (by decide) ?_
    refine lv_bipush (v := 90) hx hb dX11_isLetter_14 (by decide) ?_
    obtain ⟨x8, S5, hc6, hf⟩ := cl_of hf
    refine cl_RX11_71 (As := [.int a1, .int (65 : Int32), .int (90 : Int32)]) (rest := []) hC hR hS (c_X11_isIn l G n a1 (65 : Int32) (90 : Int32) S1 x8 S5 hc6 ) rfl ⟨Nat.le_of_ble_eq_true rfl, Nat.le_of_ble_eq_true rfl⟩ hl.1 rfl (Nat.le_of_ble_eq_true rfl) dX11_isLetter_16 (Nat.zero_le _) (Nat.zero_le _) (fun H locs hR hS hE7 => ?_)
    have hE := hE.tr hE7
    refine lv_if_eq (tgt := 26) hx hb dX11_isLetter_19 (by decide) (fun hc => ?_) (fun hc => ?_)
    · replace hf := if_t hf hc
      refine lv_iconst (v := 0) hx hb dX11_isLetter_26 (by decide) ?_
      exact r_zret hC hR hS hE hf dX11_isLetter_27
    · replace hf := if_f hf hc
      refine lv_iconst (v := 1) hx hb dX11_isLetter_22 (by decide) ?_
      refine lv_goto (tgt := 27) hx hb dX11_isLetter_23 (by decide) ?_
      exact r_zret hC hR hS hE hf dX11_isLetter_27
abbrev rX11_isDigit : Room := { frames := 1, cells := 0, slots := 0, locals := 22 }
def f_X11_isDigit (n : Nat) (a1 : Int32) (S : MS) : Option (Int32 × MS) :=
  cl (f_X11_isIn n a1 (48 : Int32) (57 : Int32) S) fun x4 S1 => zb x4 (some (x4, S1))
set_option maxRecDepth 100000 in
set_option maxHeartbeats 4000000 in
theorem c_X11_isDigit (l : Launch) (G : Gx) (n : Nat) (a1 : Int32) (S : MS) (ro : Int32) (So : MS) (hf : f_X11_isDigit n a1 S = some (ro, So)) : Cn G l yX11_isDigit cX11_isDigit 1 (some .boolean) rX11_isDigit [.int a1] S (some (.int ro)) So := by
  refine Cn.of (by decide) (Nat.le_of_ble_eq_true rfl) ?_
  intro p e s m args below meth c hC hname hR ls hl
  have hC : Cx G RX11 cX11_isDigit 1 (some .boolean) p s m args meth c := hC
  have hl : lv_has ls 1 [(0, .int a1)] := hl
  have hx := hC.x
  have hb := hC.b
  have hS : va_S (gA G) s.heap s.heap [] := va_S.rf
  have hE : Ex S S := Ex.rf S
  unfold f_X11_isDigit at hf
  refine lv_iload_n hx hb dX11_isDigit_0 rfl (lv_at hl 0 rfl) ?_
  refine lv_bipush (v := 48) hx hb dX11_isDigit_1 (by decide) ?_
  refine lv_bipush (v := 57) hx hb dX11_isDigit_3 (by decide) ?_
  obtain ⟨x4, S1, hc2, hf⟩ := cl_of hf
  refine cl_RX11_71 (As := [.int a1, .int (48 : Int32), .int (57 : Int32)]) (rest := []) hC hR hS (c_X11_isIn l G n a1 (48 : Int32) (57 : Int32) S x4 S1 hc2 ) rfl ⟨Nat.le_of_ble_eq_true rfl, Nat.le_of_ble_eq_true rfl⟩ hl.1 rfl (Nat.le_of_ble_eq_true rfl) dX11_isDigit_5 (Nat.zero_le _) (Nat.zero_le _) (fun H locs hR hS hE3 => ?_)
  have hE := hE.tr hE3
  exact r_zret hC hR hS hE hf dX11_isDigit_8
abbrev rX11_nextToken : Room := { frames := 2, cells := 0, slots := 0, locals := 42 }
def f_X11_nextToken_L161 (n : Nat) (this : Nat) (j223_59 : MS → Option (MS)) : Nat → MS → Option (MS)
  | 0, _ => none
  | k + 1, S65 => jn (f_X11_nextToken_L161 n this j223_59 k) fun rec161_64 => cl (f_X11_byteAt n this (mI S65 this 10) S65) fun x69 S66 => cl (f_X11_isLetter n x69 S66) fun x73 S70 => (if x73 = 0 then j223_59 S70 else jn (fun (S76 : MS) => bd (sI S76 this 10 ((mI S76 this 10) + (1 : Int32))) fun S77 => rec161_64 S77) fun j210_75 => (if (7 : Int32) ≤ ((mI S70 this 10) - (mI S70 this 11)) then j210_75 S70 else cl (f_X11_byteAt n this (mI S70 this 10) S70) fun x82 S79 => bd (sJ S79 this 14 ((lsh (mJ S70 this 14) (8 : Int32)) ||| (x82.toInt64))) fun S83 => j210_75 S83))
def f_X11_nextToken_L85 (n : Nat) (this : Nat) : Nat → MS → Option (MS)
  | 0, _ => none
  | k + 1, S94 => jn (f_X11_nextToken_L85 n this k) fun rec85_93 => cl (f_X11_byteAt n this (mI S94 this 10) S94) fun x98 S95 => cl (f_X11_isDigit n x98 S95) fun x102 S99 => (if x102 = 0 then some S99 else jn (fun (S105 : MS) => bd (sI S105 this 10 ((mI S105 this 10) + (1 : Int32))) fun S106 => rec85_93 S106) fun j131_104 => (if (100000 : Int32) ≤ (mI S99 this 13) then j131_104 S99 else cl (f_X11_byteAt n this (mI S99 this 10) S99) fun x111 S108 => bd (sI S108 this 13 ((((10 : Int32) * (mI S99 this 13)) + x111) - (48 : Int32))) fun S112 => j131_104 S112))
def f_X11_nextToken_L0 (n : Nat) (this : Nat) (j39_2 : MS → Option (MS)) : Nat → MS → Option (MS)
  | 0, _ => none
  | k + 1, S120 => jn (f_X11_nextToken_L0 n this j39_2 k) fun rec0_119 => cl (f_X11_byteAt n this (mI S120 this 10) S120) fun x124 S121 => jn (fun (S127 : MS) => bd (sI S127 this 10 ((mI S127 this 10) + (1 : Int32))) fun S128 => rec0_119 S128) fun j26_126 => (if x124 = (32 : Int32) then j26_126 S121 else cl (f_X11_byteAt n this (mI S121 this 10) S121) fun x133 S130 => (if x133 = (10 : Int32) then j26_126 S130 else j39_2 S130))
def f_X11_nextToken (n : Nat) (this : Nat) (S : MS) : Option (MS) :=
  jn (fun (S3 : MS) => bd (sI S3 this 11 (mI S3 this 10)) fun S4 => cl (f_X11_byteAt n this (mI S4 this 10) S4) fun x9 S6 => (if 0 ≤ x9 then cl (f_X11_isDigit n x9 S6) fun x13 S10 => (if x13 = 0 then cl (f_X11_isLetter n x9 S10) fun x17 S14 => (if x17 = 0 then bd (sI S14 this 10 ((mI S14 this 10) + (1 : Int32))) fun S18 => jn (fun (x22 : Int32) (S23 : MS) => jn (fun (q26 : Nat) (x27 : Int32) (S28 : MS) => bd (sI S28 q26 12 x27) fun S29 => jn (fun (S33 : MS) => cl (f_X11_byteAt n this (mI S33 this 10) S33) fun x37 S34 => (if x37 = (61 : Int32) then bd (sI S34 this 10 ((mI S34 this 10) + (1 : Int32))) fun S38 => (if x9 = (60 : Int32) then bd (sI S38 this 12 (4 : Int32)) fun S42 => some S42 else bd (sI S38 this 12 (5 : Int32)) fun S40 => some S40) else some S34)) fun j358_32 => (if x9 = (60 : Int32) then j358_32 S29 else (if x9 = (62 : Int32) then j358_32 S29 else some S29))) fun j343_25 => (if x22 = 0 then j343_25 this (3 : Int32) S23 else j343_25 this x9 S23)) fun j332_21 => jn (fun (S50 : MS) => j332_21 (1 : Int32) S50) fun j327_49 => (if x9 = (60 : Int32) then j327_49 S18 else (if x9 = (62 : Int32) then j327_49 S18 else (if x9 = (61 : Int32) then j327_49 S18 else (if x9 = (35 : Int32) then j327_49 S18 else (if x9 = (43 : Int32) then j327_49 S18 else (if x9 = (45 : Int32) then j327_49 S18 else (if x9 = (42 : Int32) then j327_49 S18 else (if x9 = (47 : Int32) then j327_49 S18 else (if x9 = (40 : Int32) then j327_49 S18 else (if x9 = (41 : Int32) then j327_49 S18 else (if x9 = (59 : Int32) then j327_49 S18 else (if x9 = (44 : Int32) then j327_49 S18 else j332_21 (0 : Int32) S18)))))))))))) else bd (sI S14 this 12 (2 : Int32)) fun S54 => bd (sJ S54 this 14 (0 : Int64)) fun S56 => jn (fun (S60 : MS) => (if ((mI S60 this 10) - (mI S60 this 11)) ≤ (7 : Int32) then some S60 else bd (sJ S60 this 14 (0 : Int64)) fun S61 => some S61)) fun j223_59 => f_X11_nextToken_L161 n this j223_59 n S56) else bd (sI S10 this 12 (1 : Int32)) fun S88 => bd (sI S88 this 13 (0 : Int32)) fun S90 => f_X11_nextToken_L85 n this n S90) else bd (sI S6 this 12 (0 : Int32)) fun S116 => some S116)) fun j39_2 => f_X11_nextToken_L0 n this j39_2 n S
set_option maxRecDepth 100000 in
set_option maxHeartbeats 4000000 in
theorem c_X11_nextToken (l : Launch) (G : Gx) (n : Nat) (this : Nat) (S : MS) (So : MS) (hf : f_X11_nextToken n this S = some So) (ok_this : Ok S this 11) : Cn G l yX11_nextToken cX11_nextToken 3 none rX11_nextToken [.ref this] S none So := by
  refine Cn.of (by decide) (Nat.le_of_ble_eq_true rfl) ?_
  intro p e s m args below meth c hC hname hR ls hl
  have hC : Cx G RX11 cX11_nextToken 3 none p s m args meth c := hC
  have hl : lv_has ls 3 [(0, .ref this)] := hl
  have hx := hC.x
  have hb := hC.b
  have hS : va_S (gA G) s.heap s.heap [] := va_S.rf
  have hE : Ex S S := Ex.rf S
  unfold f_X11_nextToken at hf
  obtain ⟨j39_2, ej39_2, hf⟩ := jn_of1 hf
  have hj39_1 : ∀ (S3 : MS) (H : Heap) (locs : List Loc) (ls : Array Slot), j39_2 S3 = some So → Rp G S3 H → va_S (gA G) s.heap H locs → Ex S S3 → Ok S3 this 11 → lv_has ls 3 [(0, .ref this)] → W p l e rX11_nextToken s m args below meth c H locs 0 0 (MQ below (Qn G S none So) args s 0 0 (gA G)) (F0 m 39 ls []) := by
    intro S3 H locs ls hf hR hS hE ok_this hl
    rw [ej39_2] at hf
    refine lv_aload_n hx hb dX11_nextToken_39 rfl (lv_at hl 0 rfl) ?_
    refine lv_aload_n hx hb dX11_nextToken_40 rfl (lv_at hl 0 rfl) ?_
    refine gf_RX11_101 hC hR ok_this dX11_nextToken_41 ?_
    refine pf_RX11_108 hC hR hS ok_this dX11_nextToken_44 hf (fun S4 H locs hf hR hS hE5 => ?_)
    have ok_this := hE5 _ _ ok_this
    have hE := hE.tr hE5
    refine lv_aload_n hx hb dX11_nextToken_47 rfl (lv_at hl 0 rfl) ?_
    refine lv_aload_n hx hb dX11_nextToken_48 rfl (lv_at hl 0 rfl) ?_
    refine gf_RX11_101 hC hR ok_this dX11_nextToken_49 ?_
    obtain ⟨x9, S6, hc7, hf⟩ := cl_of hf
    refine cl_RX11_104 (As := [.int (mI S4 this 10)]) (rest := []) hC hR hS (c_X11_byteAt l G n this (mI S4 this 10) S4 x9 S6 hc7 ok_this) ok_this rfl ⟨Nat.le_of_ble_eq_true rfl, Nat.le_of_ble_eq_true rfl⟩ hl.1 rfl (Nat.le_of_ble_eq_true rfl) dX11_nextToken_52 (Nat.zero_le _) (Nat.zero_le _) (fun H locs hR hS hE8 => ?_)
    have ok_this := hE8 _ _ ok_this
    have hE := hE.tr hE8
    refine lv_istore_n (lv' := [(1, .int x9), (0, .ref this)]) hx hb dX11_nextToken_55 rfl hl (by decide) rfl (fun ls hl => ?_)
    refine lv_iload_n hx hb dX11_nextToken_56 rfl (lv_at hl 0 rfl) ?_
    refine lv_if_ge (tgt := 68) hx hb dX11_nextToken_57 (by decide) (fun hc => ?_) (fun hc => ?_)
    · replace hf := if_t hf hc
      refine lv_iload_n hx hb dX11_nextToken_68 rfl (lv_at hl 0 rfl) ?_
      obtain ⟨x13, S10, hc11, hf⟩ := cl_of hf
      refine cl_RX11_114 (As := [.int x9]) (rest := []) hC hR hS (c_X11_isDigit l G n x9 S6 x13 S10 hc11 ) rfl ⟨Nat.le_of_ble_eq_true rfl, Nat.le_of_ble_eq_true rfl⟩ hl.1 rfl (Nat.le_of_ble_eq_true rfl) dX11_nextToken_69 (Nat.zero_le _) (Nat.zero_le _) (fun H locs hR hS hE12 => ?_)
      have ok_this := hE12 _ _ ok_this
      have hE := hE.tr hE12
      refine lv_if_eq (tgt := 144) hx hb dX11_nextToken_72 (by decide) (fun hc => ?_) (fun hc => ?_)
      · replace hf := if_t hf hc
        refine lv_iload_n hx hb dX11_nextToken_144 rfl (lv_at hl 0 rfl) ?_
        obtain ⟨x17, S14, hc15, hf⟩ := cl_of hf
        refine cl_RX11_121 (As := [.int x9]) (rest := []) hC hR hS (c_X11_isLetter l G n x9 S10 x17 S14 hc15 ) rfl ⟨Nat.le_of_ble_eq_true rfl, Nat.le_of_ble_eq_true rfl⟩ hl.1 rfl (Nat.le_of_ble_eq_true rfl) dX11_nextToken_145 (Nat.zero_le _) (Nat.zero_le _) (fun H locs hR hS hE16 => ?_)
        have ok_this := hE16 _ _ ok_this
        have hE := hE.tr hE16
        refine lv_if_eq (tgt := 245) hx hb dX11_nextToken_148 (by decide) (fun hc => ?_) (fun hc => ?_)
        · replace hf := if_t hf hc
          refine lv_aload_n hx hb dX11_nextToken_245 rfl (lv_at hl 1 rfl) ?_
          refine lv_dup hx hb dX11_nextToken_246 rfl ?_
          refine gf_RX11_101 hC hR ok_this dX11_nextToken_247 ?_
          refine lv_iconst (v := 1) hx hb dX11_nextToken_250 (by decide) ?_
          refine lv_iadd hx hb dX11_nextToken_251 ?_
          refine pf_RX11_101 hC hR hS ok_this dX11_nextToken_252 hf (fun S18 H locs hf hR hS hE19 => ?_)
          have ok_this := hE19 _ _ ok_this
          have hE := hE.tr hE19
          refine lv_iload_n hx hb dX11_nextToken_255 rfl (lv_at hl 0 rfl) ?_
          refine lv_bipush (v := 60) hx hb dX11_nextToken_256 (by decide) ?_
          obtain ⟨j332_21, ej332_21, hf⟩ := jn_of2 hf
          have hj332_20 : ∀ (x22 : Int32) (S23 : MS) (H : Heap) (locs : List Loc) (ls : Array Slot), j332_21 x22 S23 = some So → Rp G S23 H → va_S (gA G) s.heap H locs → Ex S S23 → Ok S23 this 11 → lv_has ls 3 [(0, .ref this), (1, .int x9)] → W p l e rX11_nextToken s m args below meth c H locs 0 0 (MQ below (Qn G S none So) args s 0 0 (gA G)) (F0 m 332 ls [.int x22]) := by
            intro x22 S23 H locs ls hf hR hS hE ok_this hl
            rw [ej332_21] at hf
            refine lv_istore_n (lv' := [(2, .int x22), (0, .ref this), (1, .int x9)]) hx hb dX11_nextToken_332 rfl hl (by decide) rfl (fun ls hl => ?_)
            refine lv_aload_n hx hb dX11_nextToken_333 rfl (lv_at hl 1 rfl) ?_
            refine lv_iload_n hx hb dX11_nextToken_334 rfl (lv_at hl 0 rfl) ?_
            obtain ⟨j343_25, ej343_25, hf⟩ := jn_of3 hf
            have hj343_24 : ∀ (q26 : Nat) (x27 : Int32) (S28 : MS) (H : Heap) (locs : List Loc) (ls : Array Slot), j343_25 q26 x27 S28 = some So → Rp G S28 H → va_S (gA G) s.heap H locs → Ex S S28 → Ok S28 this 11 → Ok S28 q26 11 → lv_has ls 3 [(0, .ref this), (1, .int x9)] → W p l e rX11_nextToken s m args below meth c H locs 0 0 (MQ below (Qn G S none So) args s 0 0 (gA G)) (F0 m 343 ls [.int x27, .ref q26]) := by
              intro q26 x27 S28 H locs ls hf hR hS hE ok_this ok_q26 hl
              rw [ej343_25] at hf
              refine pf_RX11_111 hC hR hS ok_q26 dX11_nextToken_343 hf (fun S29 H locs hf hR hS hE30 => ?_)
              have ok_this := hE30 _ _ ok_this
              have ok_q26 := hE30 _ _ ok_q26
              have hE := hE.tr hE30
              refine lv_iload_n hx hb dX11_nextToken_346 rfl (lv_at hl 1 rfl) ?_
              refine lv_bipush (v := 60) hx hb dX11_nextToken_347 (by decide) ?_
              obtain ⟨j358_32, ej358_32, hf⟩ := jn_of1 hf
              have hj358_31 : ∀ (S33 : MS) (H : Heap) (locs : List Loc) (ls : Array Slot), j358_32 S33 = some So → Rp G S33 H → va_S (gA G) s.heap H locs → Ex S S33 → Ok S33 this 11 → lv_has ls 3 [(0, .ref this), (1, .int x9)] → W p l e rX11_nextToken s m args below meth c H locs 0 0 (MQ below (Qn G S none So) args s 0 0 (gA G)) (F0 m 358 ls []) := by
                intro S33 H locs ls hf hR hS hE ok_this hl
                rw [ej358_32] at hf
                refine lv_aload_n hx hb dX11_nextToken_358 rfl (lv_at hl 0 rfl) ?_
                refine lv_aload_n hx hb dX11_nextToken_359 rfl (lv_at hl 0 rfl) ?_
                refine gf_RX11_101 hC hR ok_this dX11_nextToken_360 ?_
                obtain ⟨x37, S34, hc35, hf⟩ := cl_of hf
                refine cl_RX11_104 (As := [.int (mI S33 this 10)]) (rest := []) hC hR hS (c_X11_byteAt l G n this (mI S33 this 10) S33 x37 S34 hc35 ok_this) ok_this rfl ⟨Nat.le_of_ble_eq_true rfl, Nat.le_of_ble_eq_true rfl⟩ hl.1 rfl (Nat.le_of_ble_eq_true rfl) dX11_nextToken_363 (Nat.zero_le _) (Nat.zero_le _) (fun H locs hR hS hE36 => ?_)
                have ok_this := hE36 _ _ ok_this
                have hE := hE.tr hE36
                refine lv_bipush (v := 61) hx hb dX11_nextToken_366 (by decide) ?_
                refine lv_icmp_ne (tgt := 396) hx hb dX11_nextToken_368 (by decide) (fun hc => ?_) (fun hc => ?_)
                · replace hf := if_f hf hc
                  exact r_vret hC hR hS hE hf dX11_nextToken_396
                · replace hf := if_t hf hc
                  refine lv_aload_n hx hb dX11_nextToken_371 rfl (lv_at hl 0 rfl) ?_
                  refine lv_dup hx hb dX11_nextToken_372 rfl ?_
                  refine gf_RX11_101 hC hR ok_this dX11_nextToken_373 ?_
                  refine lv_iconst (v := 1) hx hb dX11_nextToken_376 (by decide) ?_
                  refine lv_iadd hx hb dX11_nextToken_377 ?_
                  refine pf_RX11_101 hC hR hS ok_this dX11_nextToken_378 hf (fun S38 H locs hf hR hS hE39 => ?_)
                  have ok_this := hE39 _ _ ok_this
                  have hE := hE.tr hE39
                  refine lv_aload_n hx hb dX11_nextToken_381 rfl (lv_at hl 0 rfl) ?_
                  refine lv_iload_n hx hb dX11_nextToken_382 rfl (lv_at hl 1 rfl) ?_
                  refine lv_bipush (v := 60) hx hb dX11_nextToken_383 (by decide) ?_
                  refine lv_icmp_ne (tgt := 392) hx hb dX11_nextToken_385 (by decide) (fun hc => ?_) (fun hc => ?_)
                  · replace hf := if_f hf hc
                    refine lv_iconst (v := 5) hx hb dX11_nextToken_392 (by decide) ?_
                    refine pf_RX11_111 hC hR hS ok_this dX11_nextToken_393 hf (fun S40 H locs hf hR hS hE41 => ?_)
                    have ok_this := hE41 _ _ ok_this
                    have hE := hE.tr hE41
                    exact r_vret hC hR hS hE hf dX11_nextToken_396
                  · replace hf := if_t hf hc
                    refine lv_iconst (v := 4) hx hb dX11_nextToken_388 (by decide) ?_
                    refine lv_goto (tgt := 393) hx hb dX11_nextToken_389 (by decide) ?_
                    refine pf_RX11_111 hC hR hS ok_this dX11_nextToken_393 hf (fun S42 H locs hf hR hS hE43 => ?_)
                    have ok_this := hE43 _ _ ok_this
                    have hE := hE.tr hE43
                    exact r_vret hC hR hS hE hf dX11_nextToken_396
              refine lv_icmp_eq (tgt := 358) hx hb dX11_nextToken_349 (by decide) (fun hc => ?_) (fun hc => ?_)
              · replace hf := if_t hf hc
                exact hj358_31 S29 _ _ _ hf hR hS hE ok_this (lv_sub hl [0, 1] rfl)
              · replace hf := if_f hf hc
                refine lv_iload_n hx hb dX11_nextToken_352 rfl (lv_at hl 1 rfl) ?_
                refine lv_bipush (v := 62) hx hb dX11_nextToken_353 (by decide) ?_
                refine lv_icmp_ne (tgt := 396) hx hb dX11_nextToken_355 (by decide) (fun hc => ?_) (fun hc => ?_)
                · replace hf := if_f hf hc
                  exact r_vret hC hR hS hE hf dX11_nextToken_396
                · replace hf := if_t hf hc
                  exact hj358_31 S29 _ _ _ hf hR hS hE ok_this (lv_sub hl [0, 1] rfl)
            refine lv_if_eq (tgt := 342) hx hb dX11_nextToken_335 (by decide) (fun hc => ?_) (fun hc => ?_)
            · replace hf := if_t hf hc
              refine lv_iconst (v := 3) hx hb dX11_nextToken_342 (by decide) ?_
              exact hj343_24 this (3 : Int32) S23 _ _ _ hf hR hS hE ok_this ok_this (lv_sub hl [1, 2] rfl)
            · replace hf := if_f hf hc
              refine lv_iload_n hx hb dX11_nextToken_338 rfl (lv_at hl 2 rfl) ?_
              refine lv_goto (tgt := 343) hx hb dX11_nextToken_339 (by decide) ?_
              exact hj343_24 this x9 S23 _ _ _ hf hR hS hE ok_this ok_this (lv_sub hl [1, 2] rfl)
          obtain ⟨j327_49, ej327_49, hf⟩ := jn_of1 hf
          have hj327_48 : ∀ (S50 : MS) (H : Heap) (locs : List Loc) (ls : Array Slot), j327_49 S50 = some So → Rp G S50 H → va_S (gA G) s.heap H locs → Ex S S50 → Ok S50 this 11 → lv_has ls 3 [(0, .ref this), (1, .int x9)] → W p l e rX11_nextToken s m args below meth c H locs 0 0 (MQ below (Qn G S none So) args s 0 0 (gA G)) (F0 m 327 ls []) := by
            intro S50 H locs ls hf hR hS hE ok_this hl
            rw [ej327_49] at hf
            refine lv_iconst (v := 1) hx hb dX11_nextToken_327 (by decide) ?_
            refine lv_goto (tgt := 332) hx hb dX11_nextToken_328 (by decide) ?_
            exact hj332_20 (1 : Int32) S50 _ _ _ hf hR hS hE ok_this (lv_sub hl [0, 1] rfl)
          refine lv_icmp_eq (tgt := 327) hx hb dX11_nextToken_258 (by decide) (fun hc => ?_) (fun hc => ?_)
          · replace hf := if_t hf hc
            exact hj327_48 S18 _ _ _ hf hR hS hE ok_this (lv_sub hl [1, 0] rfl)
          · replace hf := if_f hf hc
            refine lv_iload_n hx hb dX11_nextToken_261 rfl (lv_at hl 0 rfl) ?_
            refine lv_bipush (v := 62) hx hb dX11_nextToken_262 (by decide) ?_
            refine lv_icmp_eq (tgt := 327) hx hb dX11_nextToken_264 (by decide) (fun hc => ?_) (fun hc => ?_)
            · replace hf := if_t hf hc
              exact hj327_48 S18 _ _ _ hf hR hS hE ok_this (lv_sub hl [1, 0] rfl)
            · replace hf := if_f hf hc
              refine lv_iload_n hx hb dX11_nextToken_267 rfl (lv_at hl 0 rfl) ?_
              refine lv_bipush (v := 61) hx hb dX11_nextToken_268 (by decide) ?_
              refine lv_icmp_eq (tgt := 327) hx hb dX11_nextToken_270 (by decide) (fun hc => ?_) (fun hc => ?_)
              · replace hf := if_t hf hc
                exact hj327_48 S18 _ _ _ hf hR hS hE ok_this (lv_sub hl [1, 0] rfl)
              · replace hf := if_f hf hc
                refine lv_iload_n hx hb dX11_nextToken_273 rfl (lv_at hl 0 rfl) ?_
                refine lv_bipush (v := 35) hx hb dX11_nextToken_274 (by decide) ?_
                refine lv_icmp_eq (tgt := 327) hx hb dX11_nextToken_276 (by decide) (fun hc => ?_) (fun hc => ?_)
                · replace hf := if_t hf hc
                  exact hj327_48 S18 _ _ _ hf hR hS hE ok_this (lv_sub hl [1, 0] rfl)
                · replace hf := if_f hf hc
                  refine lv_iload_n hx hb dX11_nextToken_279 rfl (lv_at hl 0 rfl) ?_
                  refine lv_bipush (v := 43) hx hb dX11_nextToken_280 (by decide) ?_
                  refine lv_icmp_eq (tgt := 327) hx hb dX11_nextToken_282 (by decide) (fun hc => ?_) (fun hc => ?_)
                  · replace hf := if_t hf hc
                    exact hj327_48 S18 _ _ _ hf hR hS hE ok_this (lv_sub hl [1, 0] rfl)
                  · replace hf := if_f hf hc
                    refine lv_iload_n hx hb dX11_nextToken_285 rfl (lv_at hl 0 rfl) ?_
                    refine lv_bipush (v := 45) hx hb dX11_nextToken_286 (by decide) ?_
                    refine lv_icmp_eq (tgt := 327) hx hb dX11_nextToken_288 (by decide) (fun hc => ?_) (fun hc => ?_)
                    · replace hf := if_t hf hc
                      exact hj327_48 S18 _ _ _ hf hR hS hE ok_this (lv_sub hl [1, 0] rfl)
                    · replace hf := if_f hf hc
                      refine lv_iload_n hx hb dX11_nextToken_291 rfl (lv_at hl 0 rfl) ?_
                      refine lv_bipush (v := 42) hx hb dX11_nextToken_292 (by decide) ?_
                      refine lv_icmp_eq (tgt := 327) hx hb dX11_nextToken_294 (by decide) (fun hc => ?_) (fun hc => ?_)
                      · replace hf := if_t hf hc
                        exact hj327_48 S18 _ _ _ hf hR hS hE ok_this (lv_sub hl [1, 0] rfl)
                      · replace hf := if_f hf hc
                        refine lv_iload_n hx hb dX11_nextToken_297 rfl (lv_at hl 0 rfl) ?_
                        refine lv_bipush (v := 47) hx hb dX11_nextToken_298 (by decide) ?_
                        refine lv_icmp_eq (tgt := 327) hx hb dX11_nextToken_300 (by decide) (fun hc => ?_) (fun hc => ?_)
                        · replace hf := if_t hf hc
                          exact hj327_48 S18 _ _ _ hf hR hS hE ok_this (lv_sub hl [1, 0] rfl)
                        · replace hf := if_f hf hc
                          refine lv_iload_n hx hb dX11_nextToken_303 rfl (lv_at hl 0 rfl) ?_
                          refine lv_bipush (v := 40) hx hb dX11_nextToken_304 (by decide) ?_
                          refine lv_icmp_eq (tgt := 327) hx hb dX11_nextToken_306 (by decide) (fun hc => ?_) (fun hc => ?_)
                          · replace hf := if_t hf hc
                            exact hj327_48 S18 _ _ _ hf hR hS hE ok_this (lv_sub hl [1, 0] rfl)
                          · replace hf := if_f hf hc
                            refine lv_iload_n hx hb dX11_nextToken_309 rfl (lv_at hl 0 rfl) ?_
                            refine lv_bipush (v := 41) hx hb dX11_nextToken_310 (by decide) ?_
                            refine lv_icmp_eq (tgt := 327) hx hb dX11_nextToken_312 (by decide) (fun hc => ?_) (fun hc => ?_)
                            · replace hf := if_t hf hc
                              exact hj327_48 S18 _ _ _ hf hR hS hE ok_this (lv_sub hl [1, 0] rfl)
                            · replace hf := if_f hf hc
                              refine lv_iload_n hx hb dX11_nextToken_315 rfl (lv_at hl 0 rfl) ?_
                              refine lv_bipush (v := 59) hx hb dX11_nextToken_316 (by decide) ?_
                              refine lv_icmp_eq (tgt := 327) hx hb dX11_nextToken_318 (by decide) (fun hc => ?_) (fun hc => ?_)
                              · replace hf := if_t hf hc
                                exact hj327_48 S18 _ _ _ hf hR hS hE ok_this (lv_sub hl [1, 0] rfl)
                              · replace hf := if_f hf hc
                                refine lv_iload_n hx hb dX11_nextToken_321 rfl (lv_at hl 0 rfl) ?_
                                refine lv_bipush (v := 44) hx hb dX11_nextToken_322 (by decide) ?_
                                refine lv_icmp_ne (tgt := 331) hx hb dX11_nextToken_324 (by decide) (fun hc => ?_) (fun hc => ?_)
                                · replace hf := if_f hf hc
                                  refine lv_iconst (v := 0) hx hb dX11_nextToken_331 (by decide) ?_
                                  exact hj332_20 (0 : Int32) S18 _ _ _ hf hR hS hE ok_this (lv_sub hl [1, 0] rfl)
                                · replace hf := if_t hf hc
                                  exact hj327_48 S18 _ _ _ hf hR hS hE ok_this (lv_sub hl [1, 0] rfl)
        · replace hf := if_f hf hc
          refine lv_aload_n hx hb dX11_nextToken_151 rfl (lv_at hl 1 rfl) ?_
          refine lv_iconst (v := 2) hx hb dX11_nextToken_152 (by decide) ?_
          refine pf_RX11_111 hC hR hS ok_this dX11_nextToken_153 hf (fun S54 H locs hf hR hS hE55 => ?_)
          have ok_this := hE55 _ _ ok_this
          have hE := hE.tr hE55
          refine lv_aload_n hx hb dX11_nextToken_156 rfl (lv_at hl 1 rfl) ?_
          refine lv_lconst (v := 0) hx hb dX11_nextToken_157 (by decide) ?_
          refine pf_RX11_124 hC hR hS ok_this dX11_nextToken_158 hf (fun S56 H locs hf hR hS hE57 => ?_)
          have ok_this := hE57 _ _ ok_this
          have hE := hE.tr hE57
          obtain ⟨j223_59, ej223_59, hf⟩ := jn_of1 hf
          have hj223_58 : ∀ (S60 : MS) (H : Heap) (locs : List Loc) (ls : Array Slot), j223_59 S60 = some So → Rp G S60 H → va_S (gA G) s.heap H locs → Ex S S60 → Ok S60 this 11 → lv_has ls 3 [(0, .ref this)] → W p l e rX11_nextToken s m args below meth c H locs 0 0 (MQ below (Qn G S none So) args s 0 0 (gA G)) (F0 m 223 ls []) := by
            intro S60 H locs ls hf hR hS hE ok_this hl
            rw [ej223_59] at hf
            refine lv_aload_n hx hb dX11_nextToken_223 rfl (lv_at hl 0 rfl) ?_
            refine gf_RX11_101 hC hR ok_this dX11_nextToken_224 ?_
            refine lv_aload_n hx hb dX11_nextToken_227 rfl (lv_at hl 0 rfl) ?_
            refine gf_RX11_108 hC hR ok_this dX11_nextToken_228 ?_
            refine lv_isub hx hb dX11_nextToken_231 ?_
            refine lv_bipush (v := 7) hx hb dX11_nextToken_232 (by decide) ?_
            refine lv_icmp_le (tgt := 396) hx hb dX11_nextToken_234 (by decide) (fun hc => ?_) (fun hc => ?_)
            · replace hf := if_t hf hc
              exact r_vret hC hR hS hE hf dX11_nextToken_396
            · replace hf := if_f hf hc
              refine lv_aload_n hx hb dX11_nextToken_237 rfl (lv_at hl 0 rfl) ?_
              refine lv_lconst (v := 0) hx hb dX11_nextToken_238 (by decide) ?_
              refine pf_RX11_124 hC hR hS ok_this dX11_nextToken_239 hf (fun S61 H locs hf hR hS hE62 => ?_)
              have ok_this := hE62 _ _ ok_this
              have hE := hE.tr hE62
              refine lv_goto (tgt := 396) hx hb dX11_nextToken_242 (by decide) ?_
              exact r_vret hC hR hS hE hf dX11_nextToken_396
          have hh86 : ∀ k : Nat, ∀ (S65 : MS) (H : Heap) (locs : List Loc) (ls : Array Slot), f_X11_nextToken_L161 n this j223_59 k S65 = some So → Rp G S65 H → va_S (gA G) s.heap H locs → Ex S S65 → Ok S65 this 11 → lv_has ls 3 [(0, .ref this)] → W p l e rX11_nextToken s m args below meth c H locs 0 0 (MQ below (Qn G S none So) args s 0 0 (gA G)) (F0 m 161 ls []) := by
            intro k
            induction k with
            | zero =>
              intro S65 H locs ls hf hR hS hE ok_this hl
              exact absurd hf (by rw [f_X11_nextToken_L161]; exact fun h => by cases h)
            | succ k ih =>
              intro S65 H locs ls hf hR hS hE ok_this hl
              rw [f_X11_nextToken_L161] at hf
              obtain ⟨rec161_64, erec161_64, hf⟩ := jn_of1 hf
              have hL161_63 : ∀ (S65 : MS) (H : Heap) (locs : List Loc) (ls : Array Slot), rec161_64 S65 = some So → Rp G S65 H → va_S (gA G) s.heap H locs → Ex S S65 → Ok S65 this 11 → lv_has ls 3 [(0, .ref this)] → W p l e rX11_nextToken s m args below meth c H locs 0 0 (MQ below (Qn G S none So) args s 0 0 (gA G)) (F0 m 161 ls []) := by
                intro S65 H locs ls hf hR hS hE ok_this hl
                rw [erec161_64] at hf
                exact ih S65 _ _ _ hf hR hS hE ok_this hl
              refine lv_aload_n hx hb dX11_nextToken_161 rfl (lv_at hl 0 rfl) ?_
              refine lv_aload_n hx hb dX11_nextToken_162 rfl (lv_at hl 0 rfl) ?_
              refine gf_RX11_101 hC hR ok_this dX11_nextToken_163 ?_
              obtain ⟨x69, S66, hc67, hf⟩ := cl_of hf
              refine cl_RX11_104 (As := [.int (mI S65 this 10)]) (rest := []) hC hR hS (c_X11_byteAt l G n this (mI S65 this 10) S65 x69 S66 hc67 ok_this) ok_this rfl ⟨Nat.le_of_ble_eq_true rfl, Nat.le_of_ble_eq_true rfl⟩ hl.1 rfl (Nat.le_of_ble_eq_true rfl) dX11_nextToken_166 (Nat.zero_le _) (Nat.zero_le _) (fun H locs hR hS hE68 => ?_)
              have ok_this := hE68 _ _ ok_this
              have hE := hE.tr hE68
              obtain ⟨x73, S70, hc71, hf⟩ := cl_of hf
              refine cl_RX11_121 (As := [.int x69]) (rest := []) hC hR hS (c_X11_isLetter l G n x69 S66 x73 S70 hc71 ) rfl ⟨Nat.le_of_ble_eq_true rfl, Nat.le_of_ble_eq_true rfl⟩ hl.1 rfl (Nat.le_of_ble_eq_true rfl) dX11_nextToken_169 (Nat.zero_le _) (Nat.zero_le _) (fun H locs hR hS hE72 => ?_)
              have ok_this := hE72 _ _ ok_this
              have hE := hE.tr hE72
              refine lv_if_eq (tgt := 223) hx hb dX11_nextToken_172 (by decide) (fun hc => ?_) (fun hc => ?_)
              · replace hf := if_t hf hc
                exact hj223_58 S70 _ _ _ hf hR hS hE ok_this (lv_sub hl [0] rfl)
              · replace hf := if_f hf hc
                refine lv_aload_n hx hb dX11_nextToken_175 rfl (lv_at hl 0 rfl) ?_
                refine gf_RX11_101 hC hR ok_this dX11_nextToken_176 ?_
                refine lv_aload_n hx hb dX11_nextToken_179 rfl (lv_at hl 0 rfl) ?_
                refine gf_RX11_108 hC hR ok_this dX11_nextToken_180 ?_
                refine lv_isub hx hb dX11_nextToken_183 ?_
                refine lv_bipush (v := 7) hx hb dX11_nextToken_184 (by decide) ?_
                obtain ⟨j210_75, ej210_75, hf⟩ := jn_of1 hf
                have hj210_74 : ∀ (S76 : MS) (H : Heap) (locs : List Loc) (ls : Array Slot), j210_75 S76 = some So → Rp G S76 H → va_S (gA G) s.heap H locs → Ex S S76 → Ok S76 this 11 → lv_has ls 3 [(0, .ref this)] → W p l e rX11_nextToken s m args below meth c H locs 0 0 (MQ below (Qn G S none So) args s 0 0 (gA G)) (F0 m 210 ls []) := by
                  intro S76 H locs ls hf hR hS hE ok_this hl
                  rw [ej210_75] at hf
                  refine lv_aload_n hx hb dX11_nextToken_210 rfl (lv_at hl 0 rfl) ?_
                  refine lv_dup hx hb dX11_nextToken_211 rfl ?_
                  refine gf_RX11_101 hC hR ok_this dX11_nextToken_212 ?_
                  refine lv_iconst (v := 1) hx hb dX11_nextToken_215 (by decide) ?_
                  refine lv_iadd hx hb dX11_nextToken_216 ?_
                  refine pf_RX11_101 hC hR hS ok_this dX11_nextToken_217 hf (fun S77 H locs hf hR hS hE78 => ?_)
                  have ok_this := hE78 _ _ ok_this
                  have hE := hE.tr hE78
                  refine lv_goto (tgt := 161) hx hb dX11_nextToken_220 (by decide) ?_
                  exact hL161_63 S77 _ _ _ hf hR hS hE ok_this (lv_sub hl [0] rfl)
                refine lv_icmp_ge (tgt := 210) hx hb dX11_nextToken_186 (by decide) (fun hc => ?_) (fun hc => ?_)
                · replace hf := if_t hf hc
                  exact hj210_74 S70 _ _ _ hf hR hS hE ok_this (lv_sub hl [0] rfl)
                · replace hf := if_f hf hc
                  refine lv_aload_n hx hb dX11_nextToken_189 rfl (lv_at hl 0 rfl) ?_
                  refine lv_aload_n hx hb dX11_nextToken_190 rfl (lv_at hl 0 rfl) ?_
                  refine gf_RX11_124 hC hR ok_this dX11_nextToken_191 ?_
                  refine lv_bipush (v := 8) hx hb dX11_nextToken_194 (by decide) ?_
                  refine lv_lshl (v := (lsh (mJ S70 this 14) (8 : Int32))) hx hb dX11_nextToken_196 rfl ?_
                  refine lv_aload_n hx hb dX11_nextToken_197 rfl (lv_at hl 0 rfl) ?_
                  refine lv_aload_n hx hb dX11_nextToken_198 rfl (lv_at hl 0 rfl) ?_
                  refine gf_RX11_101 hC hR ok_this dX11_nextToken_199 ?_
                  obtain ⟨x82, S79, hc80, hf⟩ := cl_of hf
                  refine cl_RX11_104 (As := [.int (mI S70 this 10)]) (rest := [.long (lsh (mJ S70 this 14) (8 : Int32)), .ref this]) hC hR hS (c_X11_byteAt l G n this (mI S70 this 10) S70 x82 S79 hc80 ok_this) ok_this rfl ⟨Nat.le_of_ble_eq_true rfl, Nat.le_of_ble_eq_true rfl⟩ hl.1 rfl (Nat.le_of_ble_eq_true rfl) dX11_nextToken_202 (Nat.zero_le _) (Nat.zero_le _) (fun H locs hR hS hE81 => ?_)
                  have ok_this := hE81 _ _ ok_this
                  have hE := hE.tr hE81
                  refine lv_i2l (v := (x82.toInt64)) hx hb dX11_nextToken_205 rfl ?_
                  refine lv_lor hx hb dX11_nextToken_206 ?_
                  refine pf_RX11_124 hC hR hS ok_this dX11_nextToken_207 hf (fun S83 H locs hf hR hS hE84 => ?_)
                  have ok_this := hE84 _ _ ok_this
                  have hE := hE.tr hE84
                  exact hj210_74 S83 _ _ _ hf hR hS hE ok_this (lv_sub hl [0] rfl)
          exact hh86 n S56 _ _ _ hf hR hS hE ok_this (lv_sub hl [1] rfl)
      · replace hf := if_f hf hc
        refine lv_aload_n hx hb dX11_nextToken_75 rfl (lv_at hl 1 rfl) ?_
        refine lv_iconst (v := 1) hx hb dX11_nextToken_76 (by decide) ?_
        refine pf_RX11_111 hC hR hS ok_this dX11_nextToken_77 hf (fun S88 H locs hf hR hS hE89 => ?_)
        have ok_this := hE89 _ _ ok_this
        have hE := hE.tr hE89
        refine lv_aload_n hx hb dX11_nextToken_80 rfl (lv_at hl 1 rfl) ?_
        refine lv_iconst (v := 0) hx hb dX11_nextToken_81 (by decide) ?_
        refine pf_RX11_117 hC hR hS ok_this dX11_nextToken_82 hf (fun S90 H locs hf hR hS hE91 => ?_)
        have ok_this := hE91 _ _ ok_this
        have hE := hE.tr hE91
        have hh115 : ∀ k : Nat, ∀ (S94 : MS) (H : Heap) (locs : List Loc) (ls : Array Slot), f_X11_nextToken_L85 n this k S94 = some So → Rp G S94 H → va_S (gA G) s.heap H locs → Ex S S94 → Ok S94 this 11 → lv_has ls 3 [(0, .ref this)] → W p l e rX11_nextToken s m args below meth c H locs 0 0 (MQ below (Qn G S none So) args s 0 0 (gA G)) (F0 m 85 ls []) := by
          intro k
          induction k with
          | zero =>
            intro S94 H locs ls hf hR hS hE ok_this hl
            exact absurd hf (by rw [f_X11_nextToken_L85]; exact fun h => by cases h)
          | succ k ih =>
            intro S94 H locs ls hf hR hS hE ok_this hl
            rw [f_X11_nextToken_L85] at hf
            obtain ⟨rec85_93, erec85_93, hf⟩ := jn_of1 hf
            have hL85_92 : ∀ (S94 : MS) (H : Heap) (locs : List Loc) (ls : Array Slot), rec85_93 S94 = some So → Rp G S94 H → va_S (gA G) s.heap H locs → Ex S S94 → Ok S94 this 11 → lv_has ls 3 [(0, .ref this)] → W p l e rX11_nextToken s m args below meth c H locs 0 0 (MQ below (Qn G S none So) args s 0 0 (gA G)) (F0 m 85 ls []) := by
              intro S94 H locs ls hf hR hS hE ok_this hl
              rw [erec85_93] at hf
              exact ih S94 _ _ _ hf hR hS hE ok_this hl
            refine lv_aload_n hx hb dX11_nextToken_85 rfl (lv_at hl 0 rfl) ?_
            refine lv_aload_n hx hb dX11_nextToken_86 rfl (lv_at hl 0 rfl) ?_
            refine gf_RX11_101 hC hR ok_this dX11_nextToken_87 ?_
            obtain ⟨x98, S95, hc96, hf⟩ := cl_of hf
            refine cl_RX11_104 (As := [.int (mI S94 this 10)]) (rest := []) hC hR hS (c_X11_byteAt l G n this (mI S94 this 10) S94 x98 S95 hc96 ok_this) ok_this rfl ⟨Nat.le_of_ble_eq_true rfl, Nat.le_of_ble_eq_true rfl⟩ hl.1 rfl (Nat.le_of_ble_eq_true rfl) dX11_nextToken_90 (Nat.zero_le _) (Nat.zero_le _) (fun H locs hR hS hE97 => ?_)
            have ok_this := hE97 _ _ ok_this
            have hE := hE.tr hE97
            obtain ⟨x102, S99, hc100, hf⟩ := cl_of hf
            refine cl_RX11_114 (As := [.int x98]) (rest := []) hC hR hS (c_X11_isDigit l G n x98 S95 x102 S99 hc100 ) rfl ⟨Nat.le_of_ble_eq_true rfl, Nat.le_of_ble_eq_true rfl⟩ hl.1 rfl (Nat.le_of_ble_eq_true rfl) dX11_nextToken_93 (Nat.zero_le _) (Nat.zero_le _) (fun H locs hR hS hE101 => ?_)
            have ok_this := hE101 _ _ ok_this
            have hE := hE.tr hE101
            refine lv_if_eq (tgt := 396) hx hb dX11_nextToken_96 (by decide) (fun hc => ?_) (fun hc => ?_)
            · replace hf := if_t hf hc
              exact r_vret hC hR hS hE hf dX11_nextToken_396
            · replace hf := if_f hf hc
              refine lv_aload_n hx hb dX11_nextToken_99 rfl (lv_at hl 0 rfl) ?_
              refine gf_RX11_117 hC hR ok_this dX11_nextToken_100 ?_
              refine lv_ldc (v := 100000) hx hb hC.ow (hC.ts _ (bg22 _ (List.mem_of_getElem? (i := 8) rfl))) dX11_nextToken_103 ?_
              obtain ⟨j131_104, ej131_104, hf⟩ := jn_of1 hf
              have hj131_103 : ∀ (S105 : MS) (H : Heap) (locs : List Loc) (ls : Array Slot), j131_104 S105 = some So → Rp G S105 H → va_S (gA G) s.heap H locs → Ex S S105 → Ok S105 this 11 → lv_has ls 3 [(0, .ref this)] → W p l e rX11_nextToken s m args below meth c H locs 0 0 (MQ below (Qn G S none So) args s 0 0 (gA G)) (F0 m 131 ls []) := by
                intro S105 H locs ls hf hR hS hE ok_this hl
                rw [ej131_104] at hf
                refine lv_aload_n hx hb dX11_nextToken_131 rfl (lv_at hl 0 rfl) ?_
                refine lv_dup hx hb dX11_nextToken_132 rfl ?_
                refine gf_RX11_101 hC hR ok_this dX11_nextToken_133 ?_
                refine lv_iconst (v := 1) hx hb dX11_nextToken_136 (by decide) ?_
                refine lv_iadd hx hb dX11_nextToken_137 ?_
                refine pf_RX11_101 hC hR hS ok_this dX11_nextToken_138 hf (fun S106 H locs hf hR hS hE107 => ?_)
                have ok_this := hE107 _ _ ok_this
                have hE := hE.tr hE107
                refine lv_goto (tgt := 85) hx hb dX11_nextToken_141 (by decide) ?_
                exact hL85_92 S106 _ _ _ hf hR hS hE ok_this (lv_sub hl [0] rfl)
              refine lv_icmp_ge (tgt := 131) hx hb dX11_nextToken_105 (by decide) (fun hc => ?_) (fun hc => ?_)
              · replace hf := if_t hf hc
                exact hj131_103 S99 _ _ _ hf hR hS hE ok_this (lv_sub hl [0] rfl)
              · replace hf := if_f hf hc
                refine lv_aload_n hx hb dX11_nextToken_108 rfl (lv_at hl 0 rfl) ?_
                refine lv_bipush (v := 10) hx hb dX11_nextToken_109 (by decide) ?_
                refine lv_aload_n hx hb dX11_nextToken_111 rfl (lv_at hl 0 rfl) ?_
                refine gf_RX11_117 hC hR ok_this dX11_nextToken_112 ?_
                refine lv_imul hx hb dX11_nextToken_115 ?_
                refine lv_aload_n hx hb dX11_nextToken_116 rfl (lv_at hl 0 rfl) ?_
                refine lv_aload_n hx hb dX11_nextToken_117 rfl (lv_at hl 0 rfl) ?_
                refine gf_RX11_101 hC hR ok_this dX11_nextToken_118 ?_
                obtain ⟨x111, S108, hc109, hf⟩ := cl_of hf
                refine cl_RX11_104 (As := [.int (mI S99 this 10)]) (rest := [.int ((10 : Int32) * (mI S99 this 13)), .ref this]) hC hR hS (c_X11_byteAt l G n this (mI S99 this 10) S99 x111 S108 hc109 ok_this) ok_this rfl ⟨Nat.le_of_ble_eq_true rfl, Nat.le_of_ble_eq_true rfl⟩ hl.1 rfl (Nat.le_of_ble_eq_true rfl) dX11_nextToken_121 (Nat.zero_le _) (Nat.zero_le _) (fun H locs hR hS hE110 => ?_)
                have ok_this := hE110 _ _ ok_this
                have hE := hE.tr hE110
                refine lv_iadd hx hb dX11_nextToken_124 ?_
                refine lv_bipush (v := 48) hx hb dX11_nextToken_125 (by decide) ?_
                refine lv_isub hx hb dX11_nextToken_127 ?_
                refine pf_RX11_117 hC hR hS ok_this dX11_nextToken_128 hf (fun S112 H locs hf hR hS hE113 => ?_)
                have ok_this := hE113 _ _ ok_this
                have hE := hE.tr hE113
                exact hj131_103 S112 _ _ _ hf hR hS hE ok_this (lv_sub hl [0] rfl)
        exact hh115 n S90 _ _ _ hf hR hS hE ok_this (lv_sub hl [1] rfl)
    · replace hf := if_f hf hc
      refine lv_aload_n hx hb dX11_nextToken_60 rfl (lv_at hl 1 rfl) ?_
      refine lv_iconst (v := 0) hx hb dX11_nextToken_61 (by decide) ?_
      refine pf_RX11_111 hC hR hS ok_this dX11_nextToken_62 hf (fun S116 H locs hf hR hS hE117 => ?_)
      have ok_this := hE117 _ _ ok_this
      have hE := hE.tr hE117
      refine lv_goto (tgt := 396) hx hb dX11_nextToken_65 (by decide) ?_
      exact r_vret hC hR hS hE hf dX11_nextToken_396
  have hh135 : ∀ k : Nat, ∀ (S120 : MS) (H : Heap) (locs : List Loc) (ls : Array Slot), f_X11_nextToken_L0 n this j39_2 k S120 = some So → Rp G S120 H → va_S (gA G) s.heap H locs → Ex S S120 → Ok S120 this 11 → lv_has ls 3 [(0, .ref this)] → W p l e rX11_nextToken s m args below meth c H locs 0 0 (MQ below (Qn G S none So) args s 0 0 (gA G)) (F0 m 0 ls []) := by
    intro k
    induction k with
    | zero =>
      intro S120 H locs ls hf hR hS hE ok_this hl
      exact absurd hf (by rw [f_X11_nextToken_L0]; exact fun h => by cases h)
    | succ k ih =>
      intro S120 H locs ls hf hR hS hE ok_this hl
      rw [f_X11_nextToken_L0] at hf
      obtain ⟨rec0_119, erec0_119, hf⟩ := jn_of1 hf
      have hL0_118 : ∀ (S120 : MS) (H : Heap) (locs : List Loc) (ls : Array Slot), rec0_119 S120 = some So → Rp G S120 H → va_S (gA G) s.heap H locs → Ex S S120 → Ok S120 this 11 → lv_has ls 3 [(0, .ref this)] → W p l e rX11_nextToken s m args below meth c H locs 0 0 (MQ below (Qn G S none So) args s 0 0 (gA G)) (F0 m 0 ls []) := by
        intro S120 H locs ls hf hR hS hE ok_this hl
        rw [erec0_119] at hf
        exact ih S120 _ _ _ hf hR hS hE ok_this hl
      refine lv_aload_n hx hb dX11_nextToken_0 rfl (lv_at hl 0 rfl) ?_
      refine lv_aload_n hx hb dX11_nextToken_1 rfl (lv_at hl 0 rfl) ?_
      refine gf_RX11_101 hC hR ok_this dX11_nextToken_2 ?_
      obtain ⟨x124, S121, hc122, hf⟩ := cl_of hf
      refine cl_RX11_104 (As := [.int (mI S120 this 10)]) (rest := []) hC hR hS (c_X11_byteAt l G n this (mI S120 this 10) S120 x124 S121 hc122 ok_this) ok_this rfl ⟨Nat.le_of_ble_eq_true rfl, Nat.le_of_ble_eq_true rfl⟩ hl.1 rfl (Nat.le_of_ble_eq_true rfl) dX11_nextToken_5 (Nat.zero_le _) (Nat.zero_le _) (fun H locs hR hS hE123 => ?_)
      have ok_this := hE123 _ _ ok_this
      have hE := hE.tr hE123
      refine lv_bipush (v := 32) hx hb dX11_nextToken_8 (by decide) ?_
      obtain ⟨j26_126, ej26_126, hf⟩ := jn_of1 hf
      have hj26_125 : ∀ (S127 : MS) (H : Heap) (locs : List Loc) (ls : Array Slot), j26_126 S127 = some So → Rp G S127 H → va_S (gA G) s.heap H locs → Ex S S127 → Ok S127 this 11 → lv_has ls 3 [(0, .ref this)] → W p l e rX11_nextToken s m args below meth c H locs 0 0 (MQ below (Qn G S none So) args s 0 0 (gA G)) (F0 m 26 ls []) := by
        intro S127 H locs ls hf hR hS hE ok_this hl
        rw [ej26_126] at hf
        refine lv_aload_n hx hb dX11_nextToken_26 rfl (lv_at hl 0 rfl) ?_
        refine lv_dup hx hb dX11_nextToken_27 rfl ?_
        refine gf_RX11_101 hC hR ok_this dX11_nextToken_28 ?_
        refine lv_iconst (v := 1) hx hb dX11_nextToken_31 (by decide) ?_
        refine lv_iadd hx hb dX11_nextToken_32 ?_
        refine pf_RX11_101 hC hR hS ok_this dX11_nextToken_33 hf (fun S128 H locs hf hR hS hE129 => ?_)
        have ok_this := hE129 _ _ ok_this
        have hE := hE.tr hE129
        refine lv_goto (tgt := 0) hx hb dX11_nextToken_36 (by decide) ?_
        exact hL0_118 S128 _ _ _ hf hR hS hE ok_this (lv_sub hl [0] rfl)
      refine lv_icmp_eq (tgt := 26) hx hb dX11_nextToken_10 (by decide) (fun hc => ?_) (fun hc => ?_)
      · replace hf := if_t hf hc
        exact hj26_125 S121 _ _ _ hf hR hS hE ok_this (lv_sub hl [0] rfl)
      · replace hf := if_f hf hc
        refine lv_aload_n hx hb dX11_nextToken_13 rfl (lv_at hl 0 rfl) ?_
        refine lv_aload_n hx hb dX11_nextToken_14 rfl (lv_at hl 0 rfl) ?_
        refine gf_RX11_101 hC hR ok_this dX11_nextToken_15 ?_
        obtain ⟨x133, S130, hc131, hf⟩ := cl_of hf
        refine cl_RX11_104 (As := [.int (mI S121 this 10)]) (rest := []) hC hR hS (c_X11_byteAt l G n this (mI S121 this 10) S121 x133 S130 hc131 ok_this) ok_this rfl ⟨Nat.le_of_ble_eq_true rfl, Nat.le_of_ble_eq_true rfl⟩ hl.1 rfl (Nat.le_of_ble_eq_true rfl) dX11_nextToken_18 (Nat.zero_le _) (Nat.zero_le _) (fun H locs hR hS hE132 => ?_)
        have ok_this := hE132 _ _ ok_this
        have hE := hE.tr hE132
        refine lv_bipush (v := 10) hx hb dX11_nextToken_21 (by decide) ?_
        refine lv_icmp_ne (tgt := 39) hx hb dX11_nextToken_23 (by decide) (fun hc => ?_) (fun hc => ?_)
        · replace hf := if_f hf hc
          exact hj39_1 S130 _ _ _ hf hR hS hE ok_this (lv_sub hl [0] rfl)
        · replace hf := if_t hf hc
          exact hj26_125 S130 _ _ _ hf hR hS hE ok_this (lv_sub hl [0] rfl)
  exact hh135 n S _ _ _ hf hR hS hE ok_this (lv_sub hl [0] rfl)
abbrev rX11_w3 : Room := { frames := 0, cells := 0, slots := 0, locals := 0 }
def f_X11_w3 (_n : Nat) (a1 : Int32) (a2 : Int32) (a3 : Int32) (S : MS) : Option (Int64 × MS) :=
  some (((lsh ((lsh (a1.toInt64) (8 : Int32)) ||| (a2.toInt64)) (8 : Int32)) ||| (a3.toInt64)), S)
set_option maxRecDepth 100000 in
set_option maxHeartbeats 4000000 in
theorem c_X11_w3 (l : Launch) (G : Gx) (n : Nat) (a1 : Int32) (a2 : Int32) (a3 : Int32) (S : MS) (ro : Int64) (So : MS) (hf : f_X11_w3 n a1 a2 a3 S = some (ro, So)) : Cn G l yX11_w3 cX11_w3 3 (some .long) rX11_w3 [.int a1, .int a2, .int a3] S (some (.long ro)) So := by
  refine Cn.of (by decide) (Nat.le_of_ble_eq_true rfl) ?_
  intro p e s m args below meth c hC hname hR ls hl
  have hC : Cx G RX11 cX11_w3 3 (some .long) p s m args meth c := hC
  have hl : lv_has ls 3 [(0, .int a1), (1, .int a2), (2, .int a3)] := hl
  have hx := hC.x
  have hb := hC.b
  have hS : va_S (gA G) s.heap s.heap [] := va_S.rf
  have hE : Ex S S := Ex.rf S
  unfold f_X11_w3 at hf
  refine lv_iload_n hx hb dX11_w3_0 rfl (lv_at hl 0 rfl) ?_
  refine lv_i2l (v := (a1.toInt64)) hx hb dX11_w3_1 rfl ?_
  refine lv_bipush (v := 8) hx hb dX11_w3_2 (by decide) ?_
  refine lv_lshl (v := (lsh (a1.toInt64) (8 : Int32))) hx hb dX11_w3_4 rfl ?_
  refine lv_iload_n hx hb dX11_w3_5 rfl (lv_at hl 1 rfl) ?_
  refine lv_i2l (v := (a2.toInt64)) hx hb dX11_w3_6 rfl ?_
  refine lv_lor hx hb dX11_w3_7 ?_
  refine lv_bipush (v := 8) hx hb dX11_w3_8 (by decide) ?_
  refine lv_lshl (v := (lsh ((lsh (a1.toInt64) (8 : Int32)) ||| (a2.toInt64)) (8 : Int32))) hx hb dX11_w3_10 rfl ?_
  refine lv_iload_n hx hb dX11_w3_11 rfl (lv_at hl 2 rfl) ?_
  refine lv_i2l (v := (a3.toInt64)) hx hb dX11_w3_12 rfl ?_
  refine lv_lor hx hb dX11_w3_13 ?_
  exact r_lret hC hR hS hE hf dX11_w3_14
abbrev rX11_w5 : Room := { frames := 1, cells := 0, slots := 0, locals := 22 }
def f_X11_w5 (n : Nat) (a1 : Int32) (a2 : Int32) (a3 : Int32) (a4 : Int32) (a5 : Int32) (S : MS) : Option (Int64 × MS) :=
  cl (f_X11_w3 n a1 a2 a3 S) fun x4 S1 => some (((lsh ((lsh x4 (8 : Int32)) ||| (a4.toInt64)) (8 : Int32)) ||| (a5.toInt64)), S1)
set_option maxRecDepth 100000 in
set_option maxHeartbeats 4000000 in
theorem c_X11_w5 (l : Launch) (G : Gx) (n : Nat) (a1 : Int32) (a2 : Int32) (a3 : Int32) (a4 : Int32) (a5 : Int32) (S : MS) (ro : Int64) (So : MS) (hf : f_X11_w5 n a1 a2 a3 a4 a5 S = some (ro, So)) : Cn G l yX11_w5 cX11_w5 5 (some .long) rX11_w5 [.int a1, .int a2, .int a3, .int a4, .int a5] S (some (.long ro)) So := by
  refine Cn.of (by decide) (Nat.le_of_ble_eq_true rfl) ?_
  intro p e s m args below meth c hC hname hR ls hl
  have hC : Cx G RX11 cX11_w5 5 (some .long) p s m args meth c := hC
  have hl : lv_has ls 5 [(0, .int a1), (1, .int a2), (2, .int a3), (3, .int a4), (4, .int a5)] := hl
  have hx := hC.x
  have hb := hC.b
  have hS : va_S (gA G) s.heap s.heap [] := va_S.rf
  have hE : Ex S S := Ex.rf S
  unfold f_X11_w5 at hf
  refine lv_iload_n hx hb dX11_w5_0 rfl (lv_at hl 0 rfl) ?_
  refine lv_iload_n hx hb dX11_w5_1 rfl (lv_at hl 1 rfl) ?_
  refine lv_iload_n hx hb dX11_w5_2 rfl (lv_at hl 2 rfl) ?_
  obtain ⟨x4, S1, hc2, hf⟩ := cl_of hf
  refine cl_RX11_128 (As := [.int a1, .int a2, .int a3]) (rest := []) hC hR hS (c_X11_w3 l G n a1 a2 a3 S x4 S1 hc2 ) rfl ⟨Nat.le_of_ble_eq_true rfl, Nat.le_of_ble_eq_true rfl⟩ hl.1 rfl (Nat.le_of_ble_eq_true rfl) dX11_w5_3 (Nat.zero_le _) (Nat.zero_le _) (fun H locs hR hS hE3 => ?_)
  have hE := hE.tr hE3
  refine lv_bipush (v := 8) hx hb dX11_w5_6 (by decide) ?_
  refine lv_lshl (v := (lsh x4 (8 : Int32))) hx hb dX11_w5_8 rfl ?_
  refine lv_iload_n hx hb dX11_w5_9 rfl (lv_at hl 3 rfl) ?_
  refine lv_i2l (v := (a4.toInt64)) hx hb dX11_w5_10 rfl ?_
  refine lv_lor hx hb dX11_w5_11 ?_
  refine lv_bipush (v := 8) hx hb dX11_w5_12 (by decide) ?_
  refine lv_lshl (v := (lsh ((lsh x4 (8 : Int32)) ||| (a4.toInt64)) (8 : Int32))) hx hb dX11_w5_14 rfl ?_
  refine lv_iload hx hb dX11_w5_15 (lv_at hl 4 rfl) ?_
  refine lv_i2l (v := (a5.toInt64)) hx hb dX11_w5_17 rfl ?_
  refine lv_lor hx hb dX11_w5_18 ?_
  exact r_lret hC hR hS hE hf dX11_w5_19
abbrev rX11_w4 : Room := { frames := 1, cells := 0, slots := 0, locals := 22 }
def f_X11_w4 (n : Nat) (a1 : Int32) (a2 : Int32) (a3 : Int32) (a4 : Int32) (S : MS) : Option (Int64 × MS) :=
  cl (f_X11_w3 n a1 a2 a3 S) fun x4 S1 => some (((lsh x4 (8 : Int32)) ||| (a4.toInt64)), S1)
set_option maxRecDepth 100000 in
set_option maxHeartbeats 4000000 in
theorem c_X11_w4 (l : Launch) (G : Gx) (n : Nat) (a1 : Int32) (a2 : Int32) (a3 : Int32) (a4 : Int32) (S : MS) (ro : Int64) (So : MS) (hf : f_X11_w4 n a1 a2 a3 a4 S = some (ro, So)) : Cn G l yX11_w4 cX11_w4 4 (some .long) rX11_w4 [.int a1, .int a2, .int a3, .int a4] S (some (.long ro)) So := by
  refine Cn.of (by decide) (Nat.le_of_ble_eq_true rfl) ?_
  intro p e s m args below meth c hC hname hR ls hl
  have hC : Cx G RX11 cX11_w4 4 (some .long) p s m args meth c := hC
  have hl : lv_has ls 4 [(0, .int a1), (1, .int a2), (2, .int a3), (3, .int a4)] := hl
  have hx := hC.x
  have hb := hC.b
  have hS : va_S (gA G) s.heap s.heap [] := va_S.rf
  have hE : Ex S S := Ex.rf S
  unfold f_X11_w4 at hf
  refine lv_iload_n hx hb dX11_w4_0 rfl (lv_at hl 0 rfl) ?_
  refine lv_iload_n hx hb dX11_w4_1 rfl (lv_at hl 1 rfl) ?_
  refine lv_iload_n hx hb dX11_w4_2 rfl (lv_at hl 2 rfl) ?_
  obtain ⟨x4, S1, hc2, hf⟩ := cl_of hf
  refine cl_RX11_128 (As := [.int a1, .int a2, .int a3]) (rest := []) hC hR hS (c_X11_w3 l G n a1 a2 a3 S x4 S1 hc2 ) rfl ⟨Nat.le_of_ble_eq_true rfl, Nat.le_of_ble_eq_true rfl⟩ hl.1 rfl (Nat.le_of_ble_eq_true rfl) dX11_w4_3 (Nat.zero_le _) (Nat.zero_le _) (fun H locs hR hS hE3 => ?_)
  have hE := hE.tr hE3
  refine lv_bipush (v := 8) hx hb dX11_w4_6 (by decide) ?_
  refine lv_lshl (v := (lsh x4 (8 : Int32))) hx hb dX11_w4_8 rfl ?_
  refine lv_iload_n hx hb dX11_w4_9 rfl (lv_at hl 3 rfl) ?_
  refine lv_i2l (v := (a4.toInt64)) hx hb dX11_w4_10 rfl ?_
  refine lv_lor hx hb dX11_w4_11 ?_
  exact r_lret hC hR hS hE hf dX11_w4_12
abbrev rX11_w6 : Room := { frames := 2, cells := 0, slots := 0, locals := 46 }
def f_X11_w6 (n : Nat) (a1 : Int32) (a2 : Int32) (a3 : Int32) (a4 : Int32) (a5 : Int32) (a6 : Int32) (S : MS) : Option (Int64 × MS) :=
  cl (f_X11_w5 n a1 a2 a3 a4 a5 S) fun x4 S1 => some (((lsh x4 (8 : Int32)) ||| (a6.toInt64)), S1)
set_option maxRecDepth 100000 in
set_option maxHeartbeats 4000000 in
theorem c_X11_w6 (l : Launch) (G : Gx) (n : Nat) (a1 : Int32) (a2 : Int32) (a3 : Int32) (a4 : Int32) (a5 : Int32) (a6 : Int32) (S : MS) (ro : Int64) (So : MS) (hf : f_X11_w6 n a1 a2 a3 a4 a5 a6 S = some (ro, So)) : Cn G l yX11_w6 cX11_w6 6 (some .long) rX11_w6 [.int a1, .int a2, .int a3, .int a4, .int a5, .int a6] S (some (.long ro)) So := by
  refine Cn.of (by decide) (Nat.le_of_ble_eq_true rfl) ?_
  intro p e s m args below meth c hC hname hR ls hl
  have hC : Cx G RX11 cX11_w6 6 (some .long) p s m args meth c := hC
  have hl : lv_has ls 6 [(0, .int a1), (1, .int a2), (2, .int a3), (3, .int a4), (4, .int a5), (5, .int a6)] := hl
  have hx := hC.x
  have hb := hC.b
  have hS : va_S (gA G) s.heap s.heap [] := va_S.rf
  have hE : Ex S S := Ex.rf S
  unfold f_X11_w6 at hf
  refine lv_iload_n hx hb dX11_w6_0 rfl (lv_at hl 0 rfl) ?_
  refine lv_iload_n hx hb dX11_w6_1 rfl (lv_at hl 1 rfl) ?_
  refine lv_iload_n hx hb dX11_w6_2 rfl (lv_at hl 2 rfl) ?_
  refine lv_iload_n hx hb dX11_w6_3 rfl (lv_at hl 3 rfl) ?_
  refine lv_iload hx hb dX11_w6_4 (lv_at hl 4 rfl) ?_
  obtain ⟨x4, S1, hc2, hf⟩ := cl_of hf
  refine cl_RX11_132 (As := [.int a1, .int a2, .int a3, .int a4, .int a5]) (rest := []) hC hR hS (c_X11_w5 l G n a1 a2 a3 a4 a5 S x4 S1 hc2 ) rfl ⟨Nat.le_of_ble_eq_true rfl, Nat.le_of_ble_eq_true rfl⟩ hl.1 rfl (Nat.le_of_ble_eq_true rfl) dX11_w6_6 (Nat.zero_le _) (Nat.zero_le _) (fun H locs hR hS hE3 => ?_)
  have hE := hE.tr hE3
  refine lv_bipush (v := 8) hx hb dX11_w6_9 (by decide) ?_
  refine lv_lshl (v := (lsh x4 (8 : Int32))) hx hb dX11_w6_11 rfl ?_
  refine lv_iload hx hb dX11_w6_12 (lv_at hl 5 rfl) ?_
  refine lv_i2l (v := (a6.toInt64)) hx hb dX11_w6_14 rfl ?_
  refine lv_lor hx hb dX11_w6_15 ?_
  exact r_lret hC hR hS hE hf dX11_w6_16
abbrev rX11_isWord : Room := { frames := 0, cells := 0, slots := 0, locals := 0 }
def f_X11_isWord (_n : Nat) (this : Nat) (a1 : Int64) (S : MS) : Option (Int32 × MS) :=
  (if (mI S this 12) = (2 : Int32) then (if (lg_cmp (mJ S this 14) a1) = 0 then zb (1 : Int32) (some ((1 : Int32), S)) else zb (0 : Int32) (some ((0 : Int32), S))) else zb (0 : Int32) (some ((0 : Int32), S)))
set_option maxRecDepth 100000 in
set_option maxHeartbeats 4000000 in
theorem c_X11_isWord (l : Launch) (G : Gx) (n : Nat) (this : Nat) (a1 : Int64) (S : MS) (ro : Int32) (So : MS) (hf : f_X11_isWord n this a1 S = some (ro, So)) (ok_this : Ok S this 11) : Cn G l yX11_isWord cX11_isWord 3 (some .boolean) rX11_isWord [.ref this, .long a1] S (some (.int ro)) So := by
  refine Cn.of (by decide) (Nat.le_of_ble_eq_true rfl) ?_
  intro p e s m args below meth c hC hname hR ls hl
  have hC : Cx G RX11 cX11_isWord 3 (some .boolean) p s m args meth c := hC
  have hl : lv_has ls 3 [(0, .ref this), (1, .long a1)] := hl
  have hx := hC.x
  have hb := hC.b
  have hS : va_S (gA G) s.heap s.heap [] := va_S.rf
  have hE : Ex S S := Ex.rf S
  unfold f_X11_isWord at hf
  refine lv_aload_n hx hb dX11_isWord_0 rfl (lv_at hl 0 rfl) ?_
  refine gf_RX11_111 hC hR ok_this dX11_isWord_1 ?_
  refine lv_iconst (v := 2) hx hb dX11_isWord_4 (by decide) ?_
  refine lv_icmp_ne (tgt := 21) hx hb dX11_isWord_5 (by decide) (fun hc => ?_) (fun hc => ?_)
  · replace hf := if_f hf hc
    refine lv_iconst (v := 0) hx hb dX11_isWord_21 (by decide) ?_
    exact r_zret hC hR hS hE hf dX11_isWord_22
  · replace hf := if_t hf hc
    refine lv_aload_n hx hb dX11_isWord_8 rfl (lv_at hl 0 rfl) ?_
    refine gf_RX11_124 hC hR ok_this dX11_isWord_9 ?_
    refine lv_lload_n hx hb dX11_isWord_12 rfl (lv_at hl 1 rfl) ?_
    refine W.lcmp hx hb dX11_isWord_13 ?_
    refine lv_if_ne (tgt := 21) hx hb dX11_isWord_14 (by decide) (fun hc => ?_) (fun hc => ?_)
    · replace hf := if_f hf hc
      refine lv_iconst (v := 0) hx hb dX11_isWord_21 (by decide) ?_
      exact r_zret hC hR hS hE hf dX11_isWord_22
    · replace hf := if_t hf hc
      refine lv_iconst (v := 1) hx hb dX11_isWord_17 (by decide) ?_
      refine lv_goto (tgt := 22) hx hb dX11_isWord_18 (by decide) ?_
      exact r_zret hC hR hS hE hf dX11_isWord_22
abbrev rX11_emit : Room := { frames := 0, cells := 0, slots := 0, locals := 0 }
def f_X11_emit (_n : Nat) (this : Nat) (a1 : Int32) (a2 : Int32) (S : MS) : Option (MS) :=
  gR S (mR S this 5) 12 fun q1 => ck (inb (((mI S this 15) + (85 : Int32)) + ((2 : Int32) * (mI S this 17))) (mN S q1)) (bd (sI S q1 (((mI S this 15) + (85 : Int32)) + ((2 : Int32) * (mI S this 17))).toNatClampNeg a1) fun S4 => gR S4 (mR S4 this 5) 12 fun q6 => ck (inb ((((mI S4 this 15) + (85 : Int32)) + ((2 : Int32) * (mI S4 this 17))) + (1 : Int32)) (mN S4 q6)) (bd (sI S4 q6 ((((mI S4 this 15) + (85 : Int32)) + ((2 : Int32) * (mI S4 this 17))) + (1 : Int32)).toNatClampNeg a2) fun S9 => bd (sI S9 this 17 ((mI S9 this 17) + (1 : Int32))) fun S11 => some S11))
set_option maxRecDepth 100000 in
set_option maxHeartbeats 4000000 in
theorem c_X11_emit (l : Launch) (G : Gx) (n : Nat) (this : Nat) (a1 : Int32) (a2 : Int32) (S : MS) (So : MS) (hf : f_X11_emit n this a1 a2 S = some So) (ok_this : Ok S this 11) : Cn G l yX11_emit cX11_emit 3 none rX11_emit [.ref this, .int a1, .int a2] S none So := by
  refine Cn.of (by decide) (Nat.le_of_ble_eq_true rfl) ?_
  intro p e s m args below meth c hC hname hR ls hl
  have hC : Cx G RX11 cX11_emit 3 none p s m args meth c := hC
  have hl : lv_has ls 3 [(0, .ref this), (1, .int a1), (2, .int a2)] := hl
  have hx := hC.x
  have hb := hC.b
  have hS : va_S (gA G) s.heap s.heap [] := va_S.rf
  have hE : Ex S S := Ex.rf S
  unfold f_X11_emit at hf
  refine lv_aload_n hx hb dX11_emit_0 rfl (lv_at hl 0 rfl) ?_
  obtain ⟨q1, hq2, ok_q1, hf⟩ := gR_of hf
  refine gf_RX11_13 hC hR ok_this hq2 dX11_emit_1 ?_
  refine lv_aload_n hx hb dX11_emit_4 rfl (lv_at hl 0 rfl) ?_
  refine gf_RX11_136 hC hR ok_this dX11_emit_5 ?_
  refine lv_bipush (v := 85) hx hb dX11_emit_8 (by decide) ?_
  refine lv_iadd hx hb dX11_emit_10 ?_
  refine lv_iconst (v := 2) hx hb dX11_emit_11 (by decide) ?_
  refine lv_aload_n hx hb dX11_emit_12 rfl (lv_at hl 0 rfl) ?_
  refine gf_RX11_139 hC hR ok_this dX11_emit_13 ?_
  refine lv_imul hx hb dX11_emit_16 ?_
  refine lv_iadd hx hb dX11_emit_17 ?_
  refine lv_iload_n hx hb dX11_emit_18 rfl (lv_at hl 1 rfl) ?_
  obtain ⟨hi3, hf⟩ := ck_of hf
  refine rB_iast hC hR hS ok_q1 hi3 dX11_emit_19 hf (fun S4 H locs hf hR hS hE5 => ?_)
  have ok_this := hE5 _ _ ok_this
  have ok_q1 := hE5 _ _ ok_q1
  have hE := hE.tr hE5
  refine lv_aload_n hx hb dX11_emit_20 rfl (lv_at hl 0 rfl) ?_
  obtain ⟨q6, hq7, ok_q6, hf⟩ := gR_of hf
  refine gf_RX11_13 hC hR ok_this hq7 dX11_emit_21 ?_
  refine lv_aload_n hx hb dX11_emit_24 rfl (lv_at hl 0 rfl) ?_
  refine gf_RX11_136 hC hR ok_this dX11_emit_25 ?_
  refine lv_bipush (v := 85) hx hb dX11_emit_28 (by decide) ?_
  refine lv_iadd hx hb dX11_emit_30 ?_
  refine lv_iconst (v := 2) hx hb dX11_emit_31 (by decide) ?_
  refine lv_aload_n hx hb dX11_emit_32 rfl (lv_at hl 0 rfl) ?_
  refine gf_RX11_139 hC hR ok_this dX11_emit_33 ?_
  refine lv_imul hx hb dX11_emit_36 ?_
  refine lv_iadd hx hb dX11_emit_37 ?_
  refine lv_iconst (v := 1) hx hb dX11_emit_38 (by decide) ?_
  refine lv_iadd hx hb dX11_emit_39 ?_
  refine lv_iload_n hx hb dX11_emit_40 rfl (lv_at hl 2 rfl) ?_
  obtain ⟨hi8, hf⟩ := ck_of hf
  refine rB_iast hC hR hS ok_q6 hi8 dX11_emit_41 hf (fun S9 H locs hf hR hS hE10 => ?_)
  have ok_this := hE10 _ _ ok_this
  have ok_q1 := hE10 _ _ ok_q1
  have ok_q6 := hE10 _ _ ok_q6
  have hE := hE.tr hE10
  refine lv_aload_n hx hb dX11_emit_42 rfl (lv_at hl 0 rfl) ?_
  refine lv_dup hx hb dX11_emit_43 rfl ?_
  refine gf_RX11_139 hC hR ok_this dX11_emit_44 ?_
  refine lv_iconst (v := 1) hx hb dX11_emit_47 (by decide) ?_
  refine lv_iadd hx hb dX11_emit_48 ?_
  refine pf_RX11_139 hC hR hS ok_this dX11_emit_49 hf (fun S11 H locs hf hR hS hE12 => ?_)
  have ok_this := hE12 _ _ ok_this
  have ok_q1 := hE12 _ _ ok_q1
  have ok_q6 := hE12 _ _ ok_q6
  have hE := hE.tr hE12
  exact r_vret hC hR hS hE hf dX11_emit_52
abbrev rX11_push : Room := { frames := 0, cells := 0, slots := 0, locals := 0 }
def f_X11_push (_n : Nat) (this : Nat) (a1 : Int32) (S : MS) : Option (MS) :=
  gR S (mR S this 19) 12 fun q1 => ck (inb (mI S this 20) (mN S q1)) (bd (sI S q1 (mI S this 20).toNatClampNeg a1) fun S4 => bd (sI S4 this 20 ((mI S4 this 20) + (1 : Int32))) fun S6 => some S6)
set_option maxRecDepth 100000 in
set_option maxHeartbeats 4000000 in
theorem c_X11_push (l : Launch) (G : Gx) (n : Nat) (this : Nat) (a1 : Int32) (S : MS) (So : MS) (hf : f_X11_push n this a1 S = some So) (ok_this : Ok S this 11) : Cn G l yX11_push cX11_push 2 none rX11_push [.ref this, .int a1] S none So := by
  refine Cn.of (by decide) (Nat.le_of_ble_eq_true rfl) ?_
  intro p e s m args below meth c hC hname hR ls hl
  have hC : Cx G RX11 cX11_push 2 none p s m args meth c := hC
  have hl : lv_has ls 2 [(0, .ref this), (1, .int a1)] := hl
  have hx := hC.x
  have hb := hC.b
  have hS : va_S (gA G) s.heap s.heap [] := va_S.rf
  have hE : Ex S S := Ex.rf S
  unfold f_X11_push at hf
  refine lv_aload_n hx hb dX11_push_0 rfl (lv_at hl 0 rfl) ?_
  obtain ⟨q1, hq2, ok_q1, hf⟩ := gR_of hf
  refine gf_RX11_26 hC hR ok_this hq2 dX11_push_1 ?_
  refine lv_aload_n hx hb dX11_push_4 rfl (lv_at hl 0 rfl) ?_
  refine gf_RX11_142 hC hR ok_this dX11_push_5 ?_
  refine lv_iload_n hx hb dX11_push_8 rfl (lv_at hl 1 rfl) ?_
  obtain ⟨hi3, hf⟩ := ck_of hf
  refine rB_iast hC hR hS ok_q1 hi3 dX11_push_9 hf (fun S4 H locs hf hR hS hE5 => ?_)
  have ok_this := hE5 _ _ ok_this
  have ok_q1 := hE5 _ _ ok_q1
  have hE := hE.tr hE5
  refine lv_aload_n hx hb dX11_push_10 rfl (lv_at hl 0 rfl) ?_
  refine lv_dup hx hb dX11_push_11 rfl ?_
  refine gf_RX11_142 hC hR ok_this dX11_push_12 ?_
  refine lv_iconst (v := 1) hx hb dX11_push_15 (by decide) ?_
  refine lv_iadd hx hb dX11_push_16 ?_
  refine pf_RX11_142 hC hR hS ok_this dX11_push_17 hf (fun S6 H locs hf hR hS hE7 => ?_)
  have ok_this := hE7 _ _ ok_this
  have ok_q1 := hE7 _ _ ok_q1
  have hE := hE.tr hE7
  exact r_vret hC hR hS hE hf dX11_push_20
abbrev rX11_rank : Room := { frames := 0, cells := 0, slots := 0, locals := 0 }
def f_X11_rank (_n : Nat) (a1 : Int32) (S : MS) : Option (Int32 × MS) :=
  (if a1 < (40 : Int32) then (if a1 = (22 : Int32) then some ((1 : Int32), S) else (if a1 = (21 : Int32) then some ((2 : Int32), S) else (if a1 = (20 : Int32) then some ((3 : Int32), S) else (if a1 < (10 : Int32) then (if a1 = (2 : Int32) then some ((7 : Int32), S) else (if a1 < (5 : Int32) then some ((5 : Int32), S) else some ((6 : Int32), S))) else some ((4 : Int32), S))))) else some ((0 : Int32), S))
set_option maxRecDepth 100000 in
set_option maxHeartbeats 4000000 in
theorem c_X11_rank (l : Launch) (G : Gx) (n : Nat) (a1 : Int32) (S : MS) (ro : Int32) (So : MS) (hf : f_X11_rank n a1 S = some (ro, So)) : Cn G l yX11_rank cX11_rank 1 (some .int) rX11_rank [.int a1] S (some (.int ro)) So := by
  refine Cn.of (by decide) (Nat.le_of_ble_eq_true rfl) ?_
  intro p e s m args below meth c hC hname hR ls hl
  have hC : Cx G RX11 cX11_rank 1 (some .int) p s m args meth c := hC
  have hl : lv_has ls 1 [(0, .int a1)] := hl
  have hx := hC.x
  have hb := hC.b
  have hS : va_S (gA G) s.heap s.heap [] := va_S.rf
  have hE : Ex S S := Ex.rf S
  unfold f_X11_rank at hf
  refine lv_iload_n hx hb dX11_rank_0 rfl (lv_at hl 0 rfl) ?_
  refine lv_bipush (v := 40) hx hb dX11_rank_1 (by decide) ?_
  refine lv_icmp_lt (tgt := 10) hx hb dX11_rank_3 (by decide) (fun hc => ?_) (fun hc => ?_)
  · replace hf := if_t hf hc
    refine lv_iload_n hx hb dX11_rank_10 rfl (lv_at hl 0 rfl) ?_
    refine lv_bipush (v := 22) hx hb dX11_rank_11 (by decide) ?_
    refine lv_icmp_ne (tgt := 20) hx hb dX11_rank_13 (by decide) (fun hc => ?_) (fun hc => ?_)
    · replace hf := if_f hf hc
      refine lv_iload_n hx hb dX11_rank_20 rfl (lv_at hl 0 rfl) ?_
      refine lv_bipush (v := 21) hx hb dX11_rank_21 (by decide) ?_
      refine lv_icmp_ne (tgt := 30) hx hb dX11_rank_23 (by decide) (fun hc => ?_) (fun hc => ?_)
      · replace hf := if_f hf hc
        refine lv_iload_n hx hb dX11_rank_30 rfl (lv_at hl 0 rfl) ?_
        refine lv_bipush (v := 20) hx hb dX11_rank_31 (by decide) ?_
        refine lv_icmp_ne (tgt := 40) hx hb dX11_rank_33 (by decide) (fun hc => ?_) (fun hc => ?_)
        · replace hf := if_f hf hc
          refine lv_iload_n hx hb dX11_rank_40 rfl (lv_at hl 0 rfl) ?_
          refine lv_bipush (v := 10) hx hb dX11_rank_41 (by decide) ?_
          refine lv_icmp_lt (tgt := 50) hx hb dX11_rank_43 (by decide) (fun hc => ?_) (fun hc => ?_)
          · replace hf := if_t hf hc
            refine lv_iload_n hx hb dX11_rank_50 rfl (lv_at hl 0 rfl) ?_
            refine lv_iconst (v := 2) hx hb dX11_rank_51 (by decide) ?_
            refine lv_icmp_ne (tgt := 60) hx hb dX11_rank_52 (by decide) (fun hc => ?_) (fun hc => ?_)
            · replace hf := if_f hf hc
              refine lv_iload_n hx hb dX11_rank_60 rfl (lv_at hl 0 rfl) ?_
              refine lv_iconst (v := 5) hx hb dX11_rank_61 (by decide) ?_
              refine lv_icmp_lt (tgt := 70) hx hb dX11_rank_62 (by decide) (fun hc => ?_) (fun hc => ?_)
              · replace hf := if_t hf hc
                refine lv_iconst (v := 5) hx hb dX11_rank_70 (by decide) ?_
                exact r_iret hC hR hS hE hf dX11_rank_71
              · replace hf := if_f hf hc
                refine lv_bipush (v := 6) hx hb dX11_rank_65 (by decide) ?_
                refine lv_goto (tgt := 71) hx hb dX11_rank_67 (by decide) ?_
                exact r_iret hC hR hS hE hf dX11_rank_71
            · replace hf := if_t hf hc
              refine lv_bipush (v := 7) hx hb dX11_rank_55 (by decide) ?_
              refine lv_goto (tgt := 71) hx hb dX11_rank_57 (by decide) ?_
              exact r_iret hC hR hS hE hf dX11_rank_71
          · replace hf := if_f hf hc
            refine lv_iconst (v := 4) hx hb dX11_rank_46 (by decide) ?_
            refine lv_goto (tgt := 71) hx hb dX11_rank_47 (by decide) ?_
            exact r_iret hC hR hS hE hf dX11_rank_71
        · replace hf := if_t hf hc
          refine lv_iconst (v := 3) hx hb dX11_rank_36 (by decide) ?_
          refine lv_goto (tgt := 71) hx hb dX11_rank_37 (by decide) ?_
          exact r_iret hC hR hS hE hf dX11_rank_71
      · replace hf := if_t hf hc
        refine lv_iconst (v := 2) hx hb dX11_rank_26 (by decide) ?_
        refine lv_goto (tgt := 71) hx hb dX11_rank_27 (by decide) ?_
        exact r_iret hC hR hS hE hf dX11_rank_71
    · replace hf := if_t hf hc
      refine lv_iconst (v := 1) hx hb dX11_rank_16 (by decide) ?_
      refine lv_goto (tgt := 71) hx hb dX11_rank_17 (by decide) ?_
      exact r_iret hC hR hS hE hf dX11_rank_71
  · replace hf := if_f hf hc
    refine lv_iconst (v := 0) hx hb dX11_rank_6 (by decide) ?_
    refine lv_goto (tgt := 71) hx hb dX11_rank_7 (by decide) ?_
    exact r_iret hC hR hS hE hf dX11_rank_71
abbrev rX11_settle : Room := { frames := 1, cells := 0, slots := 0, locals := 22 }
def f_X11_settle_L0 (n : Nat) (this : Nat) (a1 : Int32) : Nat → MS → Option (MS)
  | 0, _ => none
  | k + 1, S3 => jn (f_X11_settle_L0 n this a1 k) fun rec0_2 => (if (mI S3 this 20) ≤ 0 then some S3 else gR S3 (mR S3 this 19) 12 fun q4 => ck (inb ((mI S3 this 20) - (1 : Int32)) (mN S3 q4)) (cl (f_X11_rank n (mI S3 q4 ((mI S3 this 20) - (1 : Int32)).toNatClampNeg) S3) fun x10 S7 => (if x10 < a1 then some S7 else bd (sI S7 this 20 ((mI S7 this 20) - (1 : Int32))) fun S11 => gR S11 (mR S11 this 19) 12 fun q13 => ck (inb (mI S11 this 20) (mN S11 q13)) (cv (f_X11_emit n this (mI S11 q13 (mI S11 this 20).toNatClampNeg) (0 : Int32) S11) fun S16 => gR S16 (mR S16 this 19) 12 fun q19 => ck (inb (mI S16 this 20) (mN S16 q19)) (jn (fun (S24 : MS) => bd (sI S24 this 21 ((mI S24 this 21) - (1 : Int32))) fun S25 => rec0_2 S25) fun j76_23 => (if (mI S16 q19 (mI S16 this 20).toNatClampNeg) = (2 : Int32) then j76_23 S16 else gR S16 (mR S16 this 19) 12 fun q27 => ck (inb (mI S16 this 20) (mN S16 q27)) ((if (mI S16 q27 (mI S16 this 20).toNatClampNeg) = (20 : Int32) then j76_23 S16 else rec0_2 S16))))))))
def f_X11_settle (n : Nat) (this : Nat) (a1 : Int32) (S : MS) : Option (MS) :=
  f_X11_settle_L0 n this a1 n S
set_option maxRecDepth 100000 in
set_option maxHeartbeats 4000000 in
theorem c_X11_settle (l : Launch) (G : Gx) (n : Nat) (this : Nat) (a1 : Int32) (S : MS) (So : MS) (hf : f_X11_settle n this a1 S = some So) (ok_this : Ok S this 11) : Cn G l yX11_settle cX11_settle 2 none rX11_settle [.ref this, .int a1] S none So := by
  refine Cn.of (by decide) (Nat.le_of_ble_eq_true rfl) ?_
  intro p e s m args below meth c hC hname hR ls hl
  have hC : Cx G RX11 cX11_settle 2 none p s m args meth c := hC
  have hl : lv_has ls 2 [(0, .ref this), (1, .int a1)] := hl
  have hx := hC.x
  have hb := hC.b
  have hS : va_S (gA G) s.heap s.heap [] := va_S.rf
  have hE : Ex S S := Ex.rf S
  unfold f_X11_settle at hf
  have hh31 : ∀ k : Nat, ∀ (S3 : MS) (H : Heap) (locs : List Loc) (ls : Array Slot), f_X11_settle_L0 n this a1 k S3 = some So → Rp G S3 H → va_S (gA G) s.heap H locs → Ex S S3 → Ok S3 this 11 → lv_has ls 2 [(0, .ref this), (1, .int a1)] → W p l e rX11_settle s m args below meth c H locs 0 0 (MQ below (Qn G S none So) args s 0 0 (gA G)) (F0 m 0 ls []) := by
    intro k
    induction k with
    | zero =>
      intro S3 H locs ls hf hR hS hE ok_this hl
      exact absurd hf (by rw [f_X11_settle_L0]; exact fun h => by cases h)
    | succ k ih =>
      intro S3 H locs ls hf hR hS hE ok_this hl
      rw [f_X11_settle_L0] at hf
      obtain ⟨rec0_2, erec0_2, hf⟩ := jn_of1 hf
      have hL0_1 : ∀ (S3 : MS) (H : Heap) (locs : List Loc) (ls : Array Slot), rec0_2 S3 = some So → Rp G S3 H → va_S (gA G) s.heap H locs → Ex S S3 → Ok S3 this 11 → lv_has ls 2 [(0, .ref this), (1, .int a1)] → W p l e rX11_settle s m args below meth c H locs 0 0 (MQ below (Qn G S none So) args s 0 0 (gA G)) (F0 m 0 ls []) := by
        intro S3 H locs ls hf hR hS hE ok_this hl
        rw [erec0_2] at hf
        exact ih S3 _ _ _ hf hR hS hE ok_this hl
      refine lv_aload_n hx hb dX11_settle_0 rfl (lv_at hl 0 rfl) ?_
      refine gf_RX11_142 hC hR ok_this dX11_settle_1 ?_
      refine lv_if_le (tgt := 89) hx hb dX11_settle_4 (by decide) (fun hc => ?_) (fun hc => ?_)
      · replace hf := if_t hf hc
        exact r_vret hC hR hS hE hf dX11_settle_89
      · replace hf := if_f hf hc
        refine lv_aload_n hx hb dX11_settle_7 rfl (lv_at hl 0 rfl) ?_
        obtain ⟨q4, hq5, ok_q4, hf⟩ := gR_of hf
        refine gf_RX11_26 hC hR ok_this hq5 dX11_settle_8 ?_
        refine lv_aload_n hx hb dX11_settle_11 rfl (lv_at hl 0 rfl) ?_
        refine gf_RX11_142 hC hR ok_this dX11_settle_12 ?_
        refine lv_iconst (v := 1) hx hb dX11_settle_15 (by decide) ?_
        refine lv_isub hx hb dX11_settle_16 ?_
        obtain ⟨hi6, hf⟩ := ck_of hf
        refine r_iald hC hR ok_q4 hi6 dX11_settle_17 ?_
        obtain ⟨x10, S7, hc8, hf⟩ := cl_of hf
        refine cl_RX11_145 (As := [.int (mI S3 q4 ((mI S3 this 20) - (1 : Int32)).toNatClampNeg)]) (rest := []) hC hR hS (c_X11_rank l G n (mI S3 q4 ((mI S3 this 20) - (1 : Int32)).toNatClampNeg) S3 x10 S7 hc8 ) rfl ⟨Nat.le_of_ble_eq_true rfl, Nat.le_of_ble_eq_true rfl⟩ hl.1 rfl (Nat.le_of_ble_eq_true rfl) dX11_settle_18 (Nat.zero_le _) (Nat.zero_le _) (fun H locs hR hS hE9 => ?_)
        have ok_this := hE9 _ _ ok_this
        have ok_q4 := hE9 _ _ ok_q4
        have hE := hE.tr hE9
        refine lv_iload_n hx hb dX11_settle_21 rfl (lv_at hl 1 rfl) ?_
        refine lv_icmp_lt (tgt := 89) hx hb dX11_settle_22 (by decide) (fun hc => ?_) (fun hc => ?_)
        · replace hf := if_t hf hc
          exact r_vret hC hR hS hE hf dX11_settle_89
        · replace hf := if_f hf hc
          refine lv_aload_n hx hb dX11_settle_25 rfl (lv_at hl 0 rfl) ?_
          refine lv_dup hx hb dX11_settle_26 rfl ?_
          refine gf_RX11_142 hC hR ok_this dX11_settle_27 ?_
          refine lv_iconst (v := 1) hx hb dX11_settle_30 (by decide) ?_
          refine lv_isub hx hb dX11_settle_31 ?_
          refine pf_RX11_142 hC hR hS ok_this dX11_settle_32 hf (fun S11 H locs hf hR hS hE12 => ?_)
          have ok_this := hE12 _ _ ok_this
          have ok_q4 := hE12 _ _ ok_q4
          have hE := hE.tr hE12
          refine lv_aload_n hx hb dX11_settle_35 rfl (lv_at hl 0 rfl) ?_
          refine lv_aload_n hx hb dX11_settle_36 rfl (lv_at hl 0 rfl) ?_
          obtain ⟨q13, hq14, ok_q13, hf⟩ := gR_of hf
          refine gf_RX11_26 hC hR ok_this hq14 dX11_settle_37 ?_
          refine lv_aload_n hx hb dX11_settle_40 rfl (lv_at hl 0 rfl) ?_
          refine gf_RX11_142 hC hR ok_this dX11_settle_41 ?_
          obtain ⟨hi15, hf⟩ := ck_of hf
          refine r_iald hC hR ok_q13 hi15 dX11_settle_44 ?_
          refine lv_iconst (v := 0) hx hb dX11_settle_45 (by decide) ?_
          obtain ⟨S16, hc17, hf⟩ := cv_of hf
          refine cl_RX11_148 (As := [.int (mI S11 q13 (mI S11 this 20).toNatClampNeg), .int (0 : Int32)]) (rest := []) hC hR hS (c_X11_emit l G n this (mI S11 q13 (mI S11 this 20).toNatClampNeg) (0 : Int32) S11 S16 hc17 ok_this) ok_this rfl ⟨Nat.le_of_ble_eq_true rfl, Nat.le_of_ble_eq_true rfl⟩ hl.1 rfl (Nat.le_of_ble_eq_true rfl) dX11_settle_46 (Nat.zero_le _) (Nat.zero_le _) (fun H locs hR hS hE18 => ?_)
          have ok_this := hE18 _ _ ok_this
          have ok_q4 := hE18 _ _ ok_q4
          have ok_q13 := hE18 _ _ ok_q13
          have hE := hE.tr hE18
          refine lv_aload_n hx hb dX11_settle_49 rfl (lv_at hl 0 rfl) ?_
          obtain ⟨q19, hq20, ok_q19, hf⟩ := gR_of hf
          refine gf_RX11_26 hC hR ok_this hq20 dX11_settle_50 ?_
          refine lv_aload_n hx hb dX11_settle_53 rfl (lv_at hl 0 rfl) ?_
          refine gf_RX11_142 hC hR ok_this dX11_settle_54 ?_
          obtain ⟨hi21, hf⟩ := ck_of hf
          refine r_iald hC hR ok_q19 hi21 dX11_settle_57 ?_
          refine lv_iconst (v := 2) hx hb dX11_settle_58 (by decide) ?_
          obtain ⟨j76_23, ej76_23, hf⟩ := jn_of1 hf
          have hj76_22 : ∀ (S24 : MS) (H : Heap) (locs : List Loc) (ls : Array Slot), j76_23 S24 = some So → Rp G S24 H → va_S (gA G) s.heap H locs → Ex S S24 → Ok S24 this 11 → lv_has ls 2 [(0, .ref this), (1, .int a1)] → W p l e rX11_settle s m args below meth c H locs 0 0 (MQ below (Qn G S none So) args s 0 0 (gA G)) (F0 m 76 ls []) := by
            intro S24 H locs ls hf hR hS hE ok_this hl
            rw [ej76_23] at hf
            refine lv_aload_n hx hb dX11_settle_76 rfl (lv_at hl 0 rfl) ?_
            refine lv_dup hx hb dX11_settle_77 rfl ?_
            refine gf_RX11_151 hC hR ok_this dX11_settle_78 ?_
            refine lv_iconst (v := 1) hx hb dX11_settle_81 (by decide) ?_
            refine lv_isub hx hb dX11_settle_82 ?_
            refine pf_RX11_151 hC hR hS ok_this dX11_settle_83 hf (fun S25 H locs hf hR hS hE26 => ?_)
            have ok_this := hE26 _ _ ok_this
            have hE := hE.tr hE26
            refine lv_goto (tgt := 0) hx hb dX11_settle_86 (by decide) ?_
            exact hL0_1 S25 _ _ _ hf hR hS hE ok_this (lv_sub hl [0, 1] rfl)
          refine lv_icmp_eq (tgt := 76) hx hb dX11_settle_59 (by decide) (fun hc => ?_) (fun hc => ?_)
          · replace hf := if_t hf hc
            exact hj76_22 S16 _ _ _ hf hR hS hE ok_this (lv_sub hl [0, 1] rfl)
          · replace hf := if_f hf hc
            refine lv_aload_n hx hb dX11_settle_62 rfl (lv_at hl 0 rfl) ?_
            obtain ⟨q27, hq28, ok_q27, hf⟩ := gR_of hf
            refine gf_RX11_26 hC hR ok_this hq28 dX11_settle_63 ?_
            refine lv_aload_n hx hb dX11_settle_66 rfl (lv_at hl 0 rfl) ?_
            refine gf_RX11_142 hC hR ok_this dX11_settle_67 ?_
            obtain ⟨hi29, hf⟩ := ck_of hf
            refine r_iald hC hR ok_q27 hi29 dX11_settle_70 ?_
            refine lv_bipush (v := 20) hx hb dX11_settle_71 (by decide) ?_
            refine lv_icmp_ne (tgt := 0) hx hb dX11_settle_73 (by decide) (fun hc => ?_) (fun hc => ?_)
            · replace hf := if_f hf hc
              exact hL0_1 S16 _ _ _ hf hR hS hE ok_this (lv_sub hl [0, 1] rfl)
            · replace hf := if_t hf hc
              exact hj76_22 S16 _ _ _ hf hR hS hE ok_this (lv_sub hl [0, 1] rfl)
  exact hh31 n S _ _ _ hf hR hS hE ok_this (lv_sub hl [0, 1] rfl)
abbrev rX11_whole : Room := { frames := 2, cells := 0, slots := 0, locals := 43 }
def f_X11_whole (n : Nat) (this : Nat) (S : MS) : Option (MS) :=
  zb (1 : Int32) (bd (sI S this 22 (1 : Int32)) fun S1 => cv (f_X11_settle n this (7 : Int32) S1) fun S4 => some S4)
set_option maxRecDepth 100000 in
set_option maxHeartbeats 4000000 in
theorem c_X11_whole (l : Launch) (G : Gx) (n : Nat) (this : Nat) (S : MS) (So : MS) (hf : f_X11_whole n this S = some So) (ok_this : Ok S this 11) : Cn G l yX11_whole cX11_whole 1 none rX11_whole [.ref this] S none So := by
  refine Cn.of (by decide) (Nat.le_of_ble_eq_true rfl) ?_
  intro p e s m args below meth c hC hname hR ls hl
  have hC : Cx G RX11 cX11_whole 1 none p s m args meth c := hC
  have hl : lv_has ls 1 [(0, .ref this)] := hl
  have hx := hC.x
  have hb := hC.b
  have hS : va_S (gA G) s.heap s.heap [] := va_S.rf
  have hE : Ex S S := Ex.rf S
  unfold f_X11_whole at hf
  refine lv_aload_n hx hb dX11_whole_0 rfl (lv_at hl 0 rfl) ?_
  refine lv_iconst (v := 1) hx hb dX11_whole_1 (by decide) ?_
  obtain ⟨hz2, hf⟩ := zb_of hf
  refine pf_RX11_154 hC hR hS ok_this hz2 dX11_whole_2 hf (fun S1 H locs hf hR hS hE3 => ?_)
  have ok_this := hE3 _ _ ok_this
  have hE := hE.tr hE3
  refine lv_aload_n hx hb dX11_whole_5 rfl (lv_at hl 0 rfl) ?_
  refine lv_bipush (v := 7) hx hb dX11_whole_6 (by decide) ?_
  obtain ⟨S4, hc5, hf⟩ := cv_of hf
  refine cl_RX11_158 (As := [.int (7 : Int32)]) (rest := []) hC hR hS (c_X11_settle l G n this (7 : Int32) S1 S4 hc5 ok_this) ok_this rfl ⟨Nat.le_of_ble_eq_true rfl, Nat.le_of_ble_eq_true rfl⟩ hl.1 rfl (Nat.le_of_ble_eq_true rfl) dX11_whole_8 (Nat.zero_le _) (Nat.zero_le _) (fun H locs hR hS hE6 => ?_)
  have ok_this := hE6 _ _ ok_this
  have hE := hE.tr hE6
  exact r_vret hC hR hS hE hf dX11_whole_11
abbrev rX11_marker : Room := { frames := 0, cells := 0, slots := 0, locals := 0 }
def f_X11_marker_L7 (n : Nat) (this : Nat) : Nat → Int32 → MS → Option (Int32 × MS)
  | 0, _, _ => none
  | k + 1, x4, S5 => jn (f_X11_marker_L7 n this k) fun rec7_3 => (if x4 < 0 then some (x4, S5) else gR S5 (mR S5 this 19) 12 fun q6 => ck (inb x4 (mN S5 q6)) ((if (40 : Int32) ≤ (mI S5 q6 x4.toNatClampNeg) then some (x4, S5) else bd (x4 + (-1 : Int32)) fun x9 => rec7_3 x9 S5)))
def f_X11_marker (n : Nat) (this : Nat) (S : MS) : Option (Int32 × MS) :=
  bd ((mI S this 20) - (1 : Int32)) fun x1 => f_X11_marker_L7 n this n x1 S
set_option maxRecDepth 100000 in
set_option maxHeartbeats 4000000 in
theorem c_X11_marker (l : Launch) (G : Gx) (n : Nat) (this : Nat) (S : MS) (ro : Int32) (So : MS) (hf : f_X11_marker n this S = some (ro, So)) (ok_this : Ok S this 11) : Cn G l yX11_marker cX11_marker 2 (some .int) rX11_marker [.ref this] S (some (.int ro)) So := by
  refine Cn.of (by decide) (Nat.le_of_ble_eq_true rfl) ?_
  intro p e s m args below meth c hC hname hR ls hl
  have hC : Cx G RX11 cX11_marker 2 (some .int) p s m args meth c := hC
  have hl : lv_has ls 2 [(0, .ref this)] := hl
  have hx := hC.x
  have hb := hC.b
  have hS : va_S (gA G) s.heap s.heap [] := va_S.rf
  have hE : Ex S S := Ex.rf S
  unfold f_X11_marker at hf
  refine lv_aload_n hx hb dX11_marker_0 rfl (lv_at hl 0 rfl) ?_
  refine gf_RX11_142 hC hR ok_this dX11_marker_1 ?_
  refine lv_iconst (v := 1) hx hb dX11_marker_4 (by decide) ?_
  refine lv_isub hx hb dX11_marker_5 ?_
  refine bdi hf (fun x1 hf => ?_)
  refine lv_istore_n (lv' := [(1, .int x1), (0, .ref this)]) hx hb dX11_marker_6 rfl hl (by decide) rfl (fun ls hl => ?_)
  have hh10 : ∀ k : Nat, ∀ (x4 : Int32) (S5 : MS) (H : Heap) (locs : List Loc) (ls : Array Slot), f_X11_marker_L7 n this k x4 S5 = some (ro, So) → Rp G S5 H → va_S (gA G) s.heap H locs → Ex S S5 → Ok S5 this 11 → lv_has ls 2 [(0, .ref this), (1, .int x4)] → W p l e rX11_marker s m args below meth c H locs 0 0 (MQ below (Qn G S (some (.int ro)) So) args s 0 0 (gA G)) (F0 m 7 ls []) := by
    intro k
    induction k with
    | zero =>
      intro x4 S5 H locs ls hf hR hS hE ok_this hl
      exact absurd hf (by rw [f_X11_marker_L7]; exact fun h => by cases h)
    | succ k ih =>
      intro x4 S5 H locs ls hf hR hS hE ok_this hl
      rw [f_X11_marker_L7] at hf
      obtain ⟨rec7_3, erec7_3, hf⟩ := jn_of2 hf
      have hL7_2 : ∀ (x4 : Int32) (S5 : MS) (H : Heap) (locs : List Loc) (ls : Array Slot), rec7_3 x4 S5 = some (ro, So) → Rp G S5 H → va_S (gA G) s.heap H locs → Ex S S5 → Ok S5 this 11 → lv_has ls 2 [(0, .ref this), (1, .int x4)] → W p l e rX11_marker s m args below meth c H locs 0 0 (MQ below (Qn G S (some (.int ro)) So) args s 0 0 (gA G)) (F0 m 7 ls []) := by
        intro x4 S5 H locs ls hf hR hS hE ok_this hl
        rw [erec7_3] at hf
        exact ih x4 S5 _ _ _ hf hR hS hE ok_this hl
      refine lv_iload_n hx hb dX11_marker_7 rfl (lv_at hl 1 rfl) ?_
      refine lv_if_lt (tgt := 28) hx hb dX11_marker_8 (by decide) (fun hc => ?_) (fun hc => ?_)
      · replace hf := if_t hf hc
        refine lv_iload_n hx hb dX11_marker_28 rfl (lv_at hl 1 rfl) ?_
        exact r_iret hC hR hS hE hf dX11_marker_29
      · replace hf := if_f hf hc
        refine lv_aload_n hx hb dX11_marker_11 rfl (lv_at hl 0 rfl) ?_
        obtain ⟨q6, hq7, ok_q6, hf⟩ := gR_of hf
        refine gf_RX11_26 hC hR ok_this hq7 dX11_marker_12 ?_
        refine lv_iload_n hx hb dX11_marker_15 rfl (lv_at hl 1 rfl) ?_
        obtain ⟨hi8, hf⟩ := ck_of hf
        refine r_iald hC hR ok_q6 hi8 dX11_marker_16 ?_
        refine lv_bipush (v := 40) hx hb dX11_marker_17 (by decide) ?_
        refine lv_icmp_ge (tgt := 28) hx hb dX11_marker_19 (by decide) (fun hc => ?_) (fun hc => ?_)
        · replace hf := if_t hf hc
          refine lv_iload_n hx hb dX11_marker_28 rfl (lv_at hl 1 rfl) ?_
          exact r_iret hC hR hS hE hf dX11_marker_29
        · replace hf := if_f hf hc
          refine r_iinc (n := -1) (z := -1) (lv' := fun x9 => [(1, .int x9), (0, .ref this)]) hx hb dX11_marker_22 hl (k := 1) rfl (by decide) (by decide) (fun _ => rfl) hf (fun x9 ls hf hl => ?_)
          refine lv_goto (tgt := 7) hx hb dX11_marker_25 (by decide) ?_
          exact hL7_2 x9 S5 _ _ _ hf hR hS hE ok_this (lv_sub hl [1, 0] rfl)
  exact hh10 n x1 S _ _ _ hf hR hS hE ok_this (lv_sub hl [1, 0] rfl)
abbrev rX11_isCompared : Room := { frames := 1, cells := 0, slots := 0, locals := 20 }
def f_X11_isCompared_L7 (n : Nat) (this : Nat) (j30_3 : Int32 → MS → Option (Int32 × MS)) : Nat → Int32 → MS → Option (Int32 × MS)
  | 0, _, _ => none
  | k + 1, x15, S16 => jn (f_X11_isCompared_L7 n this j30_3 k) fun rec7_14 => (if x15 < 0 then j30_3 x15 S16 else gR S16 (mR S16 this 19) 12 fun q17 => ck (inb x15 (mN S16 q17)) (cl (f_X11_rank n (mI S16 q17 x15.toNatClampNeg) S16) fun x23 S20 => (if x23 ≤ (4 : Int32) then j30_3 x15 S20 else bd (x15 + (-1 : Int32)) fun x24 => rec7_14 x24 S20)))
def f_X11_isCompared (n : Nat) (this : Nat) (S : MS) : Option (Int32 × MS) :=
  bd ((mI S this 20) - (1 : Int32)) fun x1 => jn (fun (x4 : Int32) (S5 : MS) => (if x4 < 0 then zb (0 : Int32) (some ((0 : Int32), S5)) else gR S5 (mR S5 this 19) 12 fun q6 => ck (inb x4 (mN S5 q6)) (cl (f_X11_rank n (mI S5 q6 x4.toNatClampNeg) S5) fun x12 S9 => (if x12 = (4 : Int32) then zb (1 : Int32) (some ((1 : Int32), S9)) else zb (0 : Int32) (some ((0 : Int32), S9)))))) fun j30_3 => f_X11_isCompared_L7 n this j30_3 n x1 S
set_option maxRecDepth 100000 in
set_option maxHeartbeats 4000000 in
theorem c_X11_isCompared (l : Launch) (G : Gx) (n : Nat) (this : Nat) (S : MS) (ro : Int32) (So : MS) (hf : f_X11_isCompared n this S = some (ro, So)) (ok_this : Ok S this 11) : Cn G l yX11_isCompared cX11_isCompared 2 (some .boolean) rX11_isCompared [.ref this] S (some (.int ro)) So := by
  refine Cn.of (by decide) (Nat.le_of_ble_eq_true rfl) ?_
  intro p e s m args below meth c hC hname hR ls hl
  have hC : Cx G RX11 cX11_isCompared 2 (some .boolean) p s m args meth c := hC
  have hl : lv_has ls 2 [(0, .ref this)] := hl
  have hx := hC.x
  have hb := hC.b
  have hS : va_S (gA G) s.heap s.heap [] := va_S.rf
  have hE : Ex S S := Ex.rf S
  unfold f_X11_isCompared at hf
  refine lv_aload_n hx hb dX11_isCompared_0 rfl (lv_at hl 0 rfl) ?_
  refine gf_RX11_142 hC hR ok_this dX11_isCompared_1 ?_
  refine lv_iconst (v := 1) hx hb dX11_isCompared_4 (by decide) ?_
  refine lv_isub hx hb dX11_isCompared_5 ?_
  refine bdi hf (fun x1 hf => ?_)
  refine lv_istore_n (lv' := [(1, .int x1), (0, .ref this)]) hx hb dX11_isCompared_6 rfl hl (by decide) rfl (fun ls hl => ?_)
  obtain ⟨j30_3, ej30_3, hf⟩ := jn_of2 hf
  have hj30_2 : ∀ (x4 : Int32) (S5 : MS) (H : Heap) (locs : List Loc) (ls : Array Slot), j30_3 x4 S5 = some (ro, So) → Rp G S5 H → va_S (gA G) s.heap H locs → Ex S S5 → Ok S5 this 11 → lv_has ls 2 [(0, .ref this), (1, .int x4)] → W p l e rX11_isCompared s m args below meth c H locs 0 0 (MQ below (Qn G S (some (.int ro)) So) args s 0 0 (gA G)) (F0 m 30 ls []) := by
    intro x4 S5 H locs ls hf hR hS hE ok_this hl
    rw [ej30_3] at hf
    refine lv_iload_n hx hb dX11_isCompared_30 rfl (lv_at hl 1 rfl) ?_
    refine lv_if_lt (tgt := 51) hx hb dX11_isCompared_31 (by decide) (fun hc => ?_) (fun hc => ?_)
    · replace hf := if_t hf hc
      refine lv_iconst (v := 0) hx hb dX11_isCompared_51 (by decide) ?_
      exact r_zret hC hR hS hE hf dX11_isCompared_52
    · replace hf := if_f hf hc
      refine lv_aload_n hx hb dX11_isCompared_34 rfl (lv_at hl 0 rfl) ?_
      obtain ⟨q6, hq7, ok_q6, hf⟩ := gR_of hf
      refine gf_RX11_26 hC hR ok_this hq7 dX11_isCompared_35 ?_
      refine lv_iload_n hx hb dX11_isCompared_38 rfl (lv_at hl 1 rfl) ?_
      obtain ⟨hi8, hf⟩ := ck_of hf
      refine r_iald hC hR ok_q6 hi8 dX11_isCompared_39 ?_
      obtain ⟨x12, S9, hc10, hf⟩ := cl_of hf
      refine cl_RX11_145 (As := [.int (mI S5 q6 x4.toNatClampNeg)]) (rest := []) hC hR hS (c_X11_rank l G n (mI S5 q6 x4.toNatClampNeg) S5 x12 S9 hc10 ) rfl ⟨Nat.le_of_ble_eq_true rfl, Nat.le_of_ble_eq_true rfl⟩ hl.1 rfl (Nat.le_of_ble_eq_true rfl) dX11_isCompared_40 (Nat.zero_le _) (Nat.zero_le _) (fun H locs hR hS hE11 => ?_)
      have ok_this := hE11 _ _ ok_this
      have ok_q6 := hE11 _ _ ok_q6
      have hE := hE.tr hE11
      refine lv_iconst (v := 4) hx hb dX11_isCompared_43 (by decide) ?_
      refine lv_icmp_ne (tgt := 51) hx hb dX11_isCompared_44 (by decide) (fun hc => ?_) (fun hc => ?_)
      · replace hf := if_f hf hc
        refine lv_iconst (v := 0) hx hb dX11_isCompared_51 (by decide) ?_
        exact r_zret hC hR hS hE hf dX11_isCompared_52
      · replace hf := if_t hf hc
        refine lv_iconst (v := 1) hx hb dX11_isCompared_47 (by decide) ?_
        refine lv_goto (tgt := 52) hx hb dX11_isCompared_48 (by decide) ?_
        exact r_zret hC hR hS hE hf dX11_isCompared_52
  have hh25 : ∀ k : Nat, ∀ (x15 : Int32) (S16 : MS) (H : Heap) (locs : List Loc) (ls : Array Slot), f_X11_isCompared_L7 n this j30_3 k x15 S16 = some (ro, So) → Rp G S16 H → va_S (gA G) s.heap H locs → Ex S S16 → Ok S16 this 11 → lv_has ls 2 [(0, .ref this), (1, .int x15)] → W p l e rX11_isCompared s m args below meth c H locs 0 0 (MQ below (Qn G S (some (.int ro)) So) args s 0 0 (gA G)) (F0 m 7 ls []) := by
    intro k
    induction k with
    | zero =>
      intro x15 S16 H locs ls hf hR hS hE ok_this hl
      exact absurd hf (by rw [f_X11_isCompared_L7]; exact fun h => by cases h)
    | succ k ih =>
      intro x15 S16 H locs ls hf hR hS hE ok_this hl
      rw [f_X11_isCompared_L7] at hf
      obtain ⟨rec7_14, erec7_14, hf⟩ := jn_of2 hf
      have hL7_13 : ∀ (x15 : Int32) (S16 : MS) (H : Heap) (locs : List Loc) (ls : Array Slot), rec7_14 x15 S16 = some (ro, So) → Rp G S16 H → va_S (gA G) s.heap H locs → Ex S S16 → Ok S16 this 11 → lv_has ls 2 [(0, .ref this), (1, .int x15)] → W p l e rX11_isCompared s m args below meth c H locs 0 0 (MQ below (Qn G S (some (.int ro)) So) args s 0 0 (gA G)) (F0 m 7 ls []) := by
        intro x15 S16 H locs ls hf hR hS hE ok_this hl
        rw [erec7_14] at hf
        exact ih x15 S16 _ _ _ hf hR hS hE ok_this hl
      refine lv_iload_n hx hb dX11_isCompared_7 rfl (lv_at hl 1 rfl) ?_
      refine lv_if_lt (tgt := 30) hx hb dX11_isCompared_8 (by decide) (fun hc => ?_) (fun hc => ?_)
      · replace hf := if_t hf hc
        exact hj30_2 x15 S16 _ _ _ hf hR hS hE ok_this (lv_sub hl [0, 1] rfl)
      · replace hf := if_f hf hc
        refine lv_aload_n hx hb dX11_isCompared_11 rfl (lv_at hl 0 rfl) ?_
        obtain ⟨q17, hq18, ok_q17, hf⟩ := gR_of hf
        refine gf_RX11_26 hC hR ok_this hq18 dX11_isCompared_12 ?_
        refine lv_iload_n hx hb dX11_isCompared_15 rfl (lv_at hl 1 rfl) ?_
        obtain ⟨hi19, hf⟩ := ck_of hf
        refine r_iald hC hR ok_q17 hi19 dX11_isCompared_16 ?_
        obtain ⟨x23, S20, hc21, hf⟩ := cl_of hf
        refine cl_RX11_145 (As := [.int (mI S16 q17 x15.toNatClampNeg)]) (rest := []) hC hR hS (c_X11_rank l G n (mI S16 q17 x15.toNatClampNeg) S16 x23 S20 hc21 ) rfl ⟨Nat.le_of_ble_eq_true rfl, Nat.le_of_ble_eq_true rfl⟩ hl.1 rfl (Nat.le_of_ble_eq_true rfl) dX11_isCompared_17 (Nat.zero_le _) (Nat.zero_le _) (fun H locs hR hS hE22 => ?_)
        have ok_this := hE22 _ _ ok_this
        have ok_q17 := hE22 _ _ ok_q17
        have hE := hE.tr hE22
        refine lv_iconst (v := 4) hx hb dX11_isCompared_20 (by decide) ?_
        refine lv_icmp_le (tgt := 30) hx hb dX11_isCompared_21 (by decide) (fun hc => ?_) (fun hc => ?_)
        · replace hf := if_t hf hc
          exact hj30_2 x15 S20 _ _ _ hf hR hS hE ok_this (lv_sub hl [0, 1] rfl)
        · replace hf := if_f hf hc
          refine r_iinc (n := -1) (z := -1) (lv' := fun x24 => [(1, .int x24), (0, .ref this)]) hx hb dX11_isCompared_24 hl (k := 1) rfl (by decide) (by decide) (fun _ => rfl) hf (fun x24 ls hf hl => ?_)
          refine lv_goto (tgt := 7) hx hb dX11_isCompared_27 (by decide) ?_
          exact hL7_13 x24 S20 _ _ _ hf hR hS hE ok_this (lv_sub hl [1, 0] rfl)
  exact hh25 n x1 S _ _ _ hf hR hS hE ok_this (lv_sub hl [1, 0] rfl)
abbrev rX11_isAskAhead : Room := { frames := 1, cells := 0, slots := 0, locals := 22 }
def f_X11_isAskAhead (n : Nat) (this : Nat) (a1 : Int32) (S : MS) : Option (Int32 × MS) :=
  (if a1 = 0 then zb (0 : Int32) (some ((0 : Int32), S)) else cl (f_X11_marker n this S) fun x4 S1 => (if 0 ≤ x4 then zb (0 : Int32) (some ((0 : Int32), S1)) else (if (mI S1 this 20) = 0 then zb (1 : Int32) (some ((1 : Int32), S1)) else gR S1 (mR S1 this 19) 12 fun q5 => ck (inb ((mI S1 this 20) - (1 : Int32)) (mN S1 q5)) (cl (f_X11_rank n (mI S1 q5 ((mI S1 this 20) - (1 : Int32)).toNatClampNeg) S1) fun x11 S8 => cl (f_X11_isIn n x11 (1 : Int32) (3 : Int32) S8) fun x15 S12 => (if x15 = 0 then zb (0 : Int32) (some ((0 : Int32), S12)) else zb (1 : Int32) (some ((1 : Int32), S12)))))))
set_option maxRecDepth 100000 in
set_option maxHeartbeats 4000000 in
theorem c_X11_isAskAhead (l : Launch) (G : Gx) (n : Nat) (this : Nat) (a1 : Int32) (S : MS) (ro : Int32) (So : MS) (hf : f_X11_isAskAhead n this a1 S = some (ro, So)) (ok_this : Ok S this 11) : Cn G l yX11_isAskAhead cX11_isAskAhead 2 (some .boolean) rX11_isAskAhead [.ref this, .int a1] S (some (.int ro)) So := by
  refine Cn.of (by decide) (Nat.le_of_ble_eq_true rfl) ?_
  intro p e s m args below meth c hC hname hR ls hl
  have hC : Cx G RX11 cX11_isAskAhead 2 (some .boolean) p s m args meth c := hC
  have hl : lv_has ls 2 [(0, .ref this), (1, .int a1)] := hl
  have hx := hC.x
  have hb := hC.b
  have hS : va_S (gA G) s.heap s.heap [] := va_S.rf
  have hE : Ex S S := Ex.rf S
  unfold f_X11_isAskAhead at hf
  refine lv_iload_n hx hb dX11_isAskAhead_0 rfl (lv_at hl 1 rfl) ?_
  refine lv_if_eq (tgt := 44) hx hb dX11_isAskAhead_1 (by decide) (fun hc => ?_) (fun hc => ?_)
  · replace hf := if_t hf hc
    refine lv_iconst (v := 0) hx hb dX11_isAskAhead_44 (by decide) ?_
    exact r_zret hC hR hS hE hf dX11_isAskAhead_45
  · replace hf := if_f hf hc
    refine lv_aload_n hx hb dX11_isAskAhead_4 rfl (lv_at hl 0 rfl) ?_
    obtain ⟨x4, S1, hc2, hf⟩ := cl_of hf
    refine cl_RX11_161 (As := []) (rest := []) hC hR hS (c_X11_marker l G n this S x4 S1 hc2 ok_this) ok_this rfl ⟨Nat.le_of_ble_eq_true rfl, Nat.le_of_ble_eq_true rfl⟩ hl.1 rfl (Nat.le_of_ble_eq_true rfl) dX11_isAskAhead_5 (Nat.zero_le _) (Nat.zero_le _) (fun H locs hR hS hE3 => ?_)
    have ok_this := hE3 _ _ ok_this
    have hE := hE.tr hE3
    refine lv_if_ge (tgt := 44) hx hb dX11_isAskAhead_8 (by decide) (fun hc => ?_) (fun hc => ?_)
    · replace hf := if_t hf hc
      refine lv_iconst (v := 0) hx hb dX11_isAskAhead_44 (by decide) ?_
      exact r_zret hC hR hS hE hf dX11_isAskAhead_45
    · replace hf := if_f hf hc
      refine lv_aload_n hx hb dX11_isAskAhead_11 rfl (lv_at hl 0 rfl) ?_
      refine gf_RX11_142 hC hR ok_this dX11_isAskAhead_12 ?_
      refine lv_if_eq (tgt := 40) hx hb dX11_isAskAhead_15 (by decide) (fun hc => ?_) (fun hc => ?_)
      · replace hf := if_t hf hc
        refine lv_iconst (v := 1) hx hb dX11_isAskAhead_40 (by decide) ?_
        refine lv_goto (tgt := 45) hx hb dX11_isAskAhead_41 (by decide) ?_
        exact r_zret hC hR hS hE hf dX11_isAskAhead_45
      · replace hf := if_f hf hc
        refine lv_aload_n hx hb dX11_isAskAhead_18 rfl (lv_at hl 0 rfl) ?_
        obtain ⟨q5, hq6, ok_q5, hf⟩ := gR_of hf
        refine gf_RX11_26 hC hR ok_this hq6 dX11_isAskAhead_19 ?_
        refine lv_aload_n hx hb dX11_isAskAhead_22 rfl (lv_at hl 0 rfl) ?_
        refine gf_RX11_142 hC hR ok_this dX11_isAskAhead_23 ?_
        refine lv_iconst (v := 1) hx hb dX11_isAskAhead_26 (by decide) ?_
        refine lv_isub hx hb dX11_isAskAhead_27 ?_
        obtain ⟨hi7, hf⟩ := ck_of hf
        refine r_iald hC hR ok_q5 hi7 dX11_isAskAhead_28 ?_
        obtain ⟨x11, S8, hc9, hf⟩ := cl_of hf
        refine cl_RX11_145 (As := [.int (mI S1 q5 ((mI S1 this 20) - (1 : Int32)).toNatClampNeg)]) (rest := []) hC hR hS (c_X11_rank l G n (mI S1 q5 ((mI S1 this 20) - (1 : Int32)).toNatClampNeg) S1 x11 S8 hc9 ) rfl ⟨Nat.le_of_ble_eq_true rfl, Nat.le_of_ble_eq_true rfl⟩ hl.1 rfl (Nat.le_of_ble_eq_true rfl) dX11_isAskAhead_29 (Nat.zero_le _) (Nat.zero_le _) (fun H locs hR hS hE10 => ?_)
        have ok_this := hE10 _ _ ok_this
        have ok_q5 := hE10 _ _ ok_q5
        have hE := hE.tr hE10
        refine lv_iconst (v := 1) hx hb dX11_isAskAhead_32 (by decide) ?_
        refine lv_iconst (v := 3) hx hb dX11_isAskAhead_33 (by decide) ?_
        obtain ⟨x15, S12, hc13, hf⟩ := cl_of hf
        refine cl_RX11_71 (As := [.int x11, .int (1 : Int32), .int (3 : Int32)]) (rest := []) hC hR hS (c_X11_isIn l G n x11 (1 : Int32) (3 : Int32) S8 x15 S12 hc13 ) rfl ⟨Nat.le_of_ble_eq_true rfl, Nat.le_of_ble_eq_true rfl⟩ hl.1 rfl (Nat.le_of_ble_eq_true rfl) dX11_isAskAhead_34 (Nat.zero_le _) (Nat.zero_le _) (fun H locs hR hS hE14 => ?_)
        have ok_this := hE14 _ _ ok_this
        have ok_q5 := hE14 _ _ ok_q5
        have hE := hE.tr hE14
        refine lv_if_eq (tgt := 44) hx hb dX11_isAskAhead_37 (by decide) (fun hc => ?_) (fun hc => ?_)
        · replace hf := if_t hf hc
          refine lv_iconst (v := 0) hx hb dX11_isAskAhead_44 (by decide) ?_
          exact r_zret hC hR hS hE hf dX11_isAskAhead_45
        · replace hf := if_f hf hc
          refine lv_iconst (v := 1) hx hb dX11_isAskAhead_40 (by decide) ?_
          refine lv_goto (tgt := 45) hx hb dX11_isAskAhead_41 (by decide) ?_
          exact r_zret hC hR hS hE hf dX11_isAskAhead_45
abbrev rX11_opensBy : Room := { frames := 3, cells := 0, slots := 0, locals := 64 }
def f_X11_opensBy (n : Nat) (this : Nat) (a1 : Int32) (S : MS) : Option (Int32 × MS) :=
  jn (fun (S3 : MS) => jn (fun (S6 : MS) => (if (mI S6 this 21) = (8 : Int32) then some ((3 : Int32), S6) else bd (sI S6 this 21 ((mI S6 this 21) + (1 : Int32))) fun S7 => cv (f_X11_push n this a1 S7) fun S9 => cv (f_X11_nextToken n this S9) fun S12 => some ((0 : Int32), S12))) fun j39_5 => jn (fun (S17 : MS) => (if (mI S17 this 12) = (40 : Int32) then j39_5 S17 else some ((1 : Int32), S17))) fun j28_16 => (if a1 = (41 : Int32) then j28_16 S3 else (if a1 = (42 : Int32) then j28_16 S3 else j39_5 S3))) fun j16_2 => jn (fun (S22 : MS) => cv (f_X11_nextToken n this S22) fun S23 => j16_2 S23) fun j12_21 => (if a1 = (41 : Int32) then j12_21 S else (if a1 = (42 : Int32) then j12_21 S else j16_2 S))
set_option maxRecDepth 100000 in
set_option maxHeartbeats 4000000 in
theorem c_X11_opensBy (l : Launch) (G : Gx) (n : Nat) (this : Nat) (a1 : Int32) (S : MS) (ro : Int32) (So : MS) (hf : f_X11_opensBy n this a1 S = some (ro, So)) (ok_this : Ok S this 11) : Cn G l yX11_opensBy cX11_opensBy 2 (some .int) rX11_opensBy [.ref this, .int a1] S (some (.int ro)) So := by
  refine Cn.of (by decide) (Nat.le_of_ble_eq_true rfl) ?_
  intro p e s m args below meth c hC hname hR ls hl
  have hC : Cx G RX11 cX11_opensBy 2 (some .int) p s m args meth c := hC
  have hl : lv_has ls 2 [(0, .ref this), (1, .int a1)] := hl
  have hx := hC.x
  have hb := hC.b
  have hS : va_S (gA G) s.heap s.heap [] := va_S.rf
  have hE : Ex S S := Ex.rf S
  unfold f_X11_opensBy at hf
  refine lv_iload_n hx hb dX11_opensBy_0 rfl (lv_at hl 1 rfl) ?_
  refine lv_bipush (v := 41) hx hb dX11_opensBy_1 (by decide) ?_
  obtain ⟨j16_2, ej16_2, hf⟩ := jn_of1 hf
  have hj16_1 : ∀ (S3 : MS) (H : Heap) (locs : List Loc) (ls : Array Slot), j16_2 S3 = some (ro, So) → Rp G S3 H → va_S (gA G) s.heap H locs → Ex S S3 → Ok S3 this 11 → lv_has ls 2 [(0, .ref this), (1, .int a1)] → W p l e rX11_opensBy s m args below meth c H locs 0 0 (MQ below (Qn G S (some (.int ro)) So) args s 0 0 (gA G)) (F0 m 16 ls []) := by
    intro S3 H locs ls hf hR hS hE ok_this hl
    rw [ej16_2] at hf
    refine lv_iload_n hx hb dX11_opensBy_16 rfl (lv_at hl 1 rfl) ?_
    refine lv_bipush (v := 41) hx hb dX11_opensBy_17 (by decide) ?_
    obtain ⟨j39_5, ej39_5, hf⟩ := jn_of1 hf
    have hj39_4 : ∀ (S6 : MS) (H : Heap) (locs : List Loc) (ls : Array Slot), j39_5 S6 = some (ro, So) → Rp G S6 H → va_S (gA G) s.heap H locs → Ex S S6 → Ok S6 this 11 → lv_has ls 2 [(0, .ref this), (1, .int a1)] → W p l e rX11_opensBy s m args below meth c H locs 0 0 (MQ below (Qn G S (some (.int ro)) So) args s 0 0 (gA G)) (F0 m 39 ls []) := by
      intro S6 H locs ls hf hR hS hE ok_this hl
      rw [ej39_5] at hf
      refine lv_aload_n hx hb dX11_opensBy_39 rfl (lv_at hl 0 rfl) ?_
      refine gf_RX11_151 hC hR ok_this dX11_opensBy_40 ?_
      refine lv_bipush (v := 8) hx hb dX11_opensBy_43 (by decide) ?_
      refine lv_icmp_ne (tgt := 50) hx hb dX11_opensBy_45 (by decide) (fun hc => ?_) (fun hc => ?_)
      · replace hf := if_f hf hc
        refine lv_aload_n hx hb dX11_opensBy_50 rfl (lv_at hl 0 rfl) ?_
        refine lv_dup hx hb dX11_opensBy_51 rfl ?_
        refine gf_RX11_151 hC hR ok_this dX11_opensBy_52 ?_
        refine lv_iconst (v := 1) hx hb dX11_opensBy_55 (by decide) ?_
        refine lv_iadd hx hb dX11_opensBy_56 ?_
        refine pf_RX11_151 hC hR hS ok_this dX11_opensBy_57 hf (fun S7 H locs hf hR hS hE8 => ?_)
        have ok_this := hE8 _ _ ok_this
        have hE := hE.tr hE8
        refine lv_aload_n hx hb dX11_opensBy_60 rfl (lv_at hl 0 rfl) ?_
        refine lv_iload_n hx hb dX11_opensBy_61 rfl (lv_at hl 1 rfl) ?_
        obtain ⟨S9, hc10, hf⟩ := cv_of hf
        refine cl_RX11_168 (As := [.int a1]) (rest := []) hC hR hS (c_X11_push l G n this a1 S7 S9 hc10 ok_this) ok_this rfl ⟨Nat.le_of_ble_eq_true rfl, Nat.le_of_ble_eq_true rfl⟩ hl.1 rfl (Nat.le_of_ble_eq_true rfl) dX11_opensBy_62 (Nat.zero_le _) (Nat.zero_le _) (fun H locs hR hS hE11 => ?_)
        have ok_this := hE11 _ _ ok_this
        have hE := hE.tr hE11
        refine lv_aload_n hx hb dX11_opensBy_65 rfl (lv_at hl 0 rfl) ?_
        obtain ⟨S12, hc13, hf⟩ := cv_of hf
        refine cl_RX11_165 (As := []) (rest := []) hC hR hS (c_X11_nextToken l G n this S9 S12 hc13 ok_this) ok_this rfl ⟨Nat.le_of_ble_eq_true rfl, Nat.le_of_ble_eq_true rfl⟩ hl.1 rfl (Nat.le_of_ble_eq_true rfl) dX11_opensBy_66 (Nat.zero_le _) (Nat.zero_le _) (fun H locs hR hS hE14 => ?_)
        have ok_this := hE14 _ _ ok_this
        have hE := hE.tr hE14
        refine lv_iconst (v := 0) hx hb dX11_opensBy_69 (by decide) ?_
        exact r_iret hC hR hS hE hf dX11_opensBy_70
      · replace hf := if_t hf hc
        refine lv_iconst (v := 3) hx hb dX11_opensBy_48 (by decide) ?_
        exact r_iret hC hR hS hE hf dX11_opensBy_49
    obtain ⟨j28_16, ej28_16, hf⟩ := jn_of1 hf
    have hj28_15 : ∀ (S17 : MS) (H : Heap) (locs : List Loc) (ls : Array Slot), j28_16 S17 = some (ro, So) → Rp G S17 H → va_S (gA G) s.heap H locs → Ex S S17 → Ok S17 this 11 → lv_has ls 2 [(0, .ref this), (1, .int a1)] → W p l e rX11_opensBy s m args below meth c H locs 0 0 (MQ below (Qn G S (some (.int ro)) So) args s 0 0 (gA G)) (F0 m 28 ls []) := by
      intro S17 H locs ls hf hR hS hE ok_this hl
      rw [ej28_16] at hf
      refine lv_aload_n hx hb dX11_opensBy_28 rfl (lv_at hl 0 rfl) ?_
      refine gf_RX11_111 hC hR ok_this dX11_opensBy_29 ?_
      refine lv_bipush (v := 40) hx hb dX11_opensBy_32 (by decide) ?_
      refine lv_icmp_eq (tgt := 39) hx hb dX11_opensBy_34 (by decide) (fun hc => ?_) (fun hc => ?_)
      · replace hf := if_t hf hc
        exact hj39_4 S17 _ _ _ hf hR hS hE ok_this (lv_sub hl [0, 1] rfl)
      · replace hf := if_f hf hc
        refine lv_iconst (v := 1) hx hb dX11_opensBy_37 (by decide) ?_
        exact r_iret hC hR hS hE hf dX11_opensBy_38
    refine lv_icmp_eq (tgt := 28) hx hb dX11_opensBy_19 (by decide) (fun hc => ?_) (fun hc => ?_)
    · replace hf := if_t hf hc
      exact hj28_15 S3 _ _ _ hf hR hS hE ok_this (lv_sub hl [0, 1] rfl)
    · replace hf := if_f hf hc
      refine lv_iload_n hx hb dX11_opensBy_22 rfl (lv_at hl 1 rfl) ?_
      refine lv_bipush (v := 42) hx hb dX11_opensBy_23 (by decide) ?_
      refine lv_icmp_ne (tgt := 39) hx hb dX11_opensBy_25 (by decide) (fun hc => ?_) (fun hc => ?_)
      · replace hf := if_f hf hc
        exact hj39_4 S3 _ _ _ hf hR hS hE ok_this (lv_sub hl [0, 1] rfl)
      · replace hf := if_t hf hc
        exact hj28_15 S3 _ _ _ hf hR hS hE ok_this (lv_sub hl [0, 1] rfl)
  obtain ⟨j12_21, ej12_21, hf⟩ := jn_of1 hf
  have hj12_20 : ∀ (S22 : MS) (H : Heap) (locs : List Loc) (ls : Array Slot), j12_21 S22 = some (ro, So) → Rp G S22 H → va_S (gA G) s.heap H locs → Ex S S22 → Ok S22 this 11 → lv_has ls 2 [(0, .ref this), (1, .int a1)] → W p l e rX11_opensBy s m args below meth c H locs 0 0 (MQ below (Qn G S (some (.int ro)) So) args s 0 0 (gA G)) (F0 m 12 ls []) := by
    intro S22 H locs ls hf hR hS hE ok_this hl
    rw [ej12_21] at hf
    refine lv_aload_n hx hb dX11_opensBy_12 rfl (lv_at hl 0 rfl) ?_
    obtain ⟨S23, hc24, hf⟩ := cv_of hf
    refine cl_RX11_165 (As := []) (rest := []) hC hR hS (c_X11_nextToken l G n this S22 S23 hc24 ok_this) ok_this rfl ⟨Nat.le_of_ble_eq_true rfl, Nat.le_of_ble_eq_true rfl⟩ hl.1 rfl (Nat.le_of_ble_eq_true rfl) dX11_opensBy_13 (Nat.zero_le _) (Nat.zero_le _) (fun H locs hR hS hE25 => ?_)
    have ok_this := hE25 _ _ ok_this
    have hE := hE.tr hE25
    exact hj16_1 S23 _ _ _ hf hR hS hE ok_this (lv_sub hl [0, 1] rfl)
  refine lv_icmp_eq (tgt := 12) hx hb dX11_opensBy_3 (by decide) (fun hc => ?_) (fun hc => ?_)
  · replace hf := if_t hf hc
    exact hj12_20 S _ _ _ hf hR hS hE ok_this (lv_sub hl [0, 1] rfl)
  · replace hf := if_f hf hc
    refine lv_iload_n hx hb dX11_opensBy_6 rfl (lv_at hl 1 rfl) ?_
    refine lv_bipush (v := 42) hx hb dX11_opensBy_7 (by decide) ?_
    refine lv_icmp_ne (tgt := 16) hx hb dX11_opensBy_9 (by decide) (fun hc => ?_) (fun hc => ?_)
    · replace hf := if_f hf hc
      exact hj16_1 S _ _ _ hf hR hS hE ok_this (lv_sub hl [0, 1] rfl)
    · replace hf := if_t hf hc
      exact hj12_20 S _ _ _ hf hR hS hE ok_this (lv_sub hl [0, 1] rfl)
abbrev rX11_isOf : Room := { frames := 0, cells := 0, slots := 0, locals := 0 }
def f_X11_isOf (_n : Nat) (this : Nat) (a1 : Int32) (S : MS) : Option (Int32 × MS) :=
  (if (mI S this 23) = (2 : Int32) then (if (8 : Int32) < a1 then zb (1 : Int32) (some ((1 : Int32), S)) else (if a1 = (3 : Int32) then zb (1 : Int32) (some ((1 : Int32), S)) else (if a1 = (4 : Int32) then zb (1 : Int32) (some ((1 : Int32), S)) else zb (0 : Int32) (some ((0 : Int32), S))))) else (if a1 < (6 : Int32) then zb (1 : Int32) (some ((1 : Int32), S)) else jn (fun (S3 : MS) => (if (mI S3 this 23) = (3 : Int32) then (if a1 = (8 : Int32) then zb (1 : Int32) (some ((1 : Int32), S3)) else zb (0 : Int32) (some ((0 : Int32), S3))) else zb (0 : Int32) (some ((0 : Int32), S3)))) fun j50_2 => (if (mI S this 23) = (1 : Int32) then (if a1 < (8 : Int32) then zb (1 : Int32) (some ((1 : Int32), S)) else j50_2 S) else j50_2 S)))
set_option maxRecDepth 100000 in
set_option maxHeartbeats 4000000 in
theorem c_X11_isOf (l : Launch) (G : Gx) (n : Nat) (this : Nat) (a1 : Int32) (S : MS) (ro : Int32) (So : MS) (hf : f_X11_isOf n this a1 S = some (ro, So)) (ok_this : Ok S this 11) : Cn G l yX11_isOf cX11_isOf 2 (some .boolean) rX11_isOf [.ref this, .int a1] S (some (.int ro)) So := by
  refine Cn.of (by decide) (Nat.le_of_ble_eq_true rfl) ?_
  intro p e s m args below meth c hC hname hR ls hl
  have hC : Cx G RX11 cX11_isOf 2 (some .boolean) p s m args meth c := hC
  have hl : lv_has ls 2 [(0, .ref this), (1, .int a1)] := hl
  have hx := hC.x
  have hb := hC.b
  have hS : va_S (gA G) s.heap s.heap [] := va_S.rf
  have hE : Ex S S := Ex.rf S
  unfold f_X11_isOf at hf
  refine lv_aload_n hx hb dX11_isOf_0 rfl (lv_at hl 0 rfl) ?_
  refine gf_RX11_225 hC hR ok_this dX11_isOf_1 ?_
  refine lv_iconst (v := 2) hx hb dX11_isOf_4 (by decide) ?_
  refine lv_icmp_ne (tgt := 30) hx hb dX11_isOf_5 (by decide) (fun hc => ?_) (fun hc => ?_)
  · replace hf := if_f hf hc
    refine lv_iload_n hx hb dX11_isOf_30 rfl (lv_at hl 1 rfl) ?_
    refine lv_bipush (v := 6) hx hb dX11_isOf_31 (by decide) ?_
    refine lv_icmp_lt (tgt := 64) hx hb dX11_isOf_33 (by decide) (fun hc => ?_) (fun hc => ?_)
    · replace hf := if_t hf hc
      refine lv_iconst (v := 1) hx hb dX11_isOf_64 (by decide) ?_
      refine lv_goto (tgt := 69) hx hb dX11_isOf_65 (by decide) ?_
      exact r_zret hC hR hS hE hf dX11_isOf_69
    · replace hf := if_f hf hc
      refine lv_aload_n hx hb dX11_isOf_36 rfl (lv_at hl 0 rfl) ?_
      refine gf_RX11_225 hC hR ok_this dX11_isOf_37 ?_
      refine lv_iconst (v := 1) hx hb dX11_isOf_40 (by decide) ?_
      obtain ⟨j50_2, ej50_2, hf⟩ := jn_of1 hf
      have hj50_1 : ∀ (S3 : MS) (H : Heap) (locs : List Loc) (ls : Array Slot), j50_2 S3 = some (ro, So) → Rp G S3 H → va_S (gA G) s.heap H locs → Ex S S3 → Ok S3 this 11 → lv_has ls 2 [(0, .ref this), (1, .int a1)] → W p l e rX11_isOf s m args below meth c H locs 0 0 (MQ below (Qn G S (some (.int ro)) So) args s 0 0 (gA G)) (F0 m 50 ls []) := by
        intro S3 H locs ls hf hR hS hE ok_this hl
        rw [ej50_2] at hf
        refine lv_aload_n hx hb dX11_isOf_50 rfl (lv_at hl 0 rfl) ?_
        refine gf_RX11_225 hC hR ok_this dX11_isOf_51 ?_
        refine lv_iconst (v := 3) hx hb dX11_isOf_54 (by decide) ?_
        refine lv_icmp_ne (tgt := 68) hx hb dX11_isOf_55 (by decide) (fun hc => ?_) (fun hc => ?_)
        · replace hf := if_f hf hc
          refine lv_iconst (v := 0) hx hb dX11_isOf_68 (by decide) ?_
          exact r_zret hC hR hS hE hf dX11_isOf_69
        · replace hf := if_t hf hc
          refine lv_iload_n hx hb dX11_isOf_58 rfl (lv_at hl 1 rfl) ?_
          refine lv_bipush (v := 8) hx hb dX11_isOf_59 (by decide) ?_
          refine lv_icmp_ne (tgt := 68) hx hb dX11_isOf_61 (by decide) (fun hc => ?_) (fun hc => ?_)
          · replace hf := if_f hf hc
            refine lv_iconst (v := 0) hx hb dX11_isOf_68 (by decide) ?_
            exact r_zret hC hR hS hE hf dX11_isOf_69
          · replace hf := if_t hf hc
            refine lv_iconst (v := 1) hx hb dX11_isOf_64 (by decide) ?_
            refine lv_goto (tgt := 69) hx hb dX11_isOf_65 (by decide) ?_
            exact r_zret hC hR hS hE hf dX11_isOf_69
      refine lv_icmp_ne (tgt := 50) hx hb dX11_isOf_41 (by decide) (fun hc => ?_) (fun hc => ?_)
      · replace hf := if_f hf hc
        exact hj50_1 S _ _ _ hf hR hS hE ok_this (lv_sub hl [0, 1] rfl)
      · replace hf := if_t hf hc
        refine lv_iload_n hx hb dX11_isOf_44 rfl (lv_at hl 1 rfl) ?_
        refine lv_bipush (v := 8) hx hb dX11_isOf_45 (by decide) ?_
        refine lv_icmp_lt (tgt := 64) hx hb dX11_isOf_47 (by decide) (fun hc => ?_) (fun hc => ?_)
        · replace hf := if_t hf hc
          refine lv_iconst (v := 1) hx hb dX11_isOf_64 (by decide) ?_
          refine lv_goto (tgt := 69) hx hb dX11_isOf_65 (by decide) ?_
          exact r_zret hC hR hS hE hf dX11_isOf_69
        · replace hf := if_f hf hc
          exact hj50_1 S _ _ _ hf hR hS hE ok_this (lv_sub hl [0, 1] rfl)
  · replace hf := if_t hf hc
    refine lv_iload_n hx hb dX11_isOf_8 rfl (lv_at hl 1 rfl) ?_
    refine lv_bipush (v := 8) hx hb dX11_isOf_9 (by decide) ?_
    refine lv_icmp_gt (tgt := 24) hx hb dX11_isOf_11 (by decide) (fun hc => ?_) (fun hc => ?_)
    · replace hf := if_t hf hc
      refine lv_iconst (v := 1) hx hb dX11_isOf_24 (by decide) ?_
      refine lv_goto (tgt := 29) hx hb dX11_isOf_25 (by decide) ?_
      exact r_zret hC hR hS hE hf dX11_isOf_29
    · replace hf := if_f hf hc
      refine lv_iload_n hx hb dX11_isOf_14 rfl (lv_at hl 1 rfl) ?_
      refine lv_iconst (v := 3) hx hb dX11_isOf_15 (by decide) ?_
      refine lv_icmp_eq (tgt := 24) hx hb dX11_isOf_16 (by decide) (fun hc => ?_) (fun hc => ?_)
      · replace hf := if_t hf hc
        refine lv_iconst (v := 1) hx hb dX11_isOf_24 (by decide) ?_
        refine lv_goto (tgt := 29) hx hb dX11_isOf_25 (by decide) ?_
        exact r_zret hC hR hS hE hf dX11_isOf_29
      · replace hf := if_f hf hc
        refine lv_iload_n hx hb dX11_isOf_19 rfl (lv_at hl 1 rfl) ?_
        refine lv_iconst (v := 4) hx hb dX11_isOf_20 (by decide) ?_
        refine lv_icmp_ne (tgt := 28) hx hb dX11_isOf_21 (by decide) (fun hc => ?_) (fun hc => ?_)
        · replace hf := if_f hf hc
          refine lv_iconst (v := 0) hx hb dX11_isOf_28 (by decide) ?_
          exact r_zret hC hR hS hE hf dX11_isOf_29
        · replace hf := if_t hf hc
          refine lv_iconst (v := 1) hx hb dX11_isOf_24 (by decide) ?_
          refine lv_goto (tgt := 29) hx hb dX11_isOf_25 (by decide) ?_
          exact r_zret hC hR hS hE hf dX11_isOf_29
abbrev rX11_isStrength : Room := { frames := 1, cells := 0, slots := 0, locals := 21 }
def f_X11_isStrength (n : Nat) (this : Nat) (S : MS) : Option (Int32 × MS) :=
  (if ((mI S this 10) - (mI S this 11)) = (8 : Int32) then cl (f_X11_byteAt n this (mI S this 11) S) fun x4 S1 => (if x4 = (115 : Int32) then cl (f_X11_byteAt n this ((mI S1 this 11) + (1 : Int32)) S1) fun x8 S5 => (if x8 = (116 : Int32) then cl (f_X11_byteAt n this ((mI S5 this 11) + (2 : Int32)) S5) fun x12 S9 => (if x12 = (114 : Int32) then cl (f_X11_byteAt n this ((mI S9 this 11) + (3 : Int32)) S9) fun x16 S13 => (if x16 = (101 : Int32) then cl (f_X11_byteAt n this ((mI S13 this 11) + (4 : Int32)) S13) fun x20 S17 => (if x20 = (110 : Int32) then cl (f_X11_byteAt n this ((mI S17 this 11) + (5 : Int32)) S17) fun x24 S21 => (if x24 = (103 : Int32) then cl (f_X11_byteAt n this ((mI S21 this 11) + (6 : Int32)) S21) fun x28 S25 => (if x28 = (116 : Int32) then cl (f_X11_byteAt n this ((mI S25 this 11) + (7 : Int32)) S25) fun x32 S29 => (if x32 = (104 : Int32) then zb (1 : Int32) (some ((1 : Int32), S29)) else zb (0 : Int32) (some ((0 : Int32), S29))) else zb (0 : Int32) (some ((0 : Int32), S25))) else zb (0 : Int32) (some ((0 : Int32), S21))) else zb (0 : Int32) (some ((0 : Int32), S17))) else zb (0 : Int32) (some ((0 : Int32), S13))) else zb (0 : Int32) (some ((0 : Int32), S9))) else zb (0 : Int32) (some ((0 : Int32), S5))) else zb (0 : Int32) (some ((0 : Int32), S1))) else zb (0 : Int32) (some ((0 : Int32), S)))
set_option maxRecDepth 100000 in
set_option maxHeartbeats 4000000 in
theorem c_X11_isStrength (l : Launch) (G : Gx) (n : Nat) (this : Nat) (S : MS) (ro : Int32) (So : MS) (hf : f_X11_isStrength n this S = some (ro, So)) (ok_this : Ok S this 11) : Cn G l yX11_isStrength cX11_isStrength 1 (some .boolean) rX11_isStrength [.ref this] S (some (.int ro)) So := by
  refine Cn.of (by decide) (Nat.le_of_ble_eq_true rfl) ?_
  intro p e s m args below meth c hC hname hR ls hl
  have hC : Cx G RX11 cX11_isStrength 1 (some .boolean) p s m args meth c := hC
  have hl : lv_has ls 1 [(0, .ref this)] := hl
  have hx := hC.x
  have hb := hC.b
  have hS : va_S (gA G) s.heap s.heap [] := va_S.rf
  have hE : Ex S S := Ex.rf S
  unfold f_X11_isStrength at hf
  refine lv_aload_n hx hb dX11_isStrength_0 rfl (lv_at hl 0 rfl) ?_
  refine gf_RX11_101 hC hR ok_this dX11_isStrength_1 ?_
  refine lv_aload_n hx hb dX11_isStrength_4 rfl (lv_at hl 0 rfl) ?_
  refine gf_RX11_108 hC hR ok_this dX11_isStrength_5 ?_
  refine lv_isub hx hb dX11_isStrength_8 ?_
  refine lv_bipush (v := 8) hx hb dX11_isStrength_9 (by decide) ?_
  refine lv_icmp_ne (tgt := 72) hx hb dX11_isStrength_11 (by decide) (fun hc => ?_) (fun hc => ?_)
  · replace hf := if_f hf hc
    refine lv_iconst (v := 0) hx hb dX11_isStrength_72 (by decide) ?_
    exact r_zret hC hR hS hE hf dX11_isStrength_73
  · replace hf := if_t hf hc
    refine lv_aload_n hx hb dX11_isStrength_14 rfl (lv_at hl 0 rfl) ?_
    refine lv_aload_n hx hb dX11_isStrength_15 rfl (lv_at hl 0 rfl) ?_
    refine gf_RX11_108 hC hR ok_this dX11_isStrength_16 ?_
    obtain ⟨x4, S1, hc2, hf⟩ := cl_of hf
    refine cl_RX11_104 (As := [.int (mI S this 11)]) (rest := []) hC hR hS (c_X11_byteAt l G n this (mI S this 11) S x4 S1 hc2 ok_this) ok_this rfl ⟨Nat.le_of_ble_eq_true rfl, Nat.le_of_ble_eq_true rfl⟩ hl.1 rfl (Nat.le_of_ble_eq_true rfl) dX11_isStrength_19 (Nat.zero_le _) (Nat.zero_le _) (fun H locs hR hS hE3 => ?_)
    have ok_this := hE3 _ _ ok_this
    have hE := hE.tr hE3
    refine lv_bipush (v := 115) hx hb dX11_isStrength_22 (by decide) ?_
    refine lv_icmp_ne (tgt := 72) hx hb dX11_isStrength_24 (by decide) (fun hc => ?_) (fun hc => ?_)
    · replace hf := if_f hf hc
      refine lv_iconst (v := 0) hx hb dX11_isStrength_72 (by decide) ?_
      exact r_zret hC hR hS hE hf dX11_isStrength_73
    · replace hf := if_t hf hc
      refine lv_aload_n hx hb dX11_isStrength_27 rfl (lv_at hl 0 rfl) ?_
      refine lv_aload_n hx hb dX11_isStrength_28 rfl (lv_at hl 0 rfl) ?_
      refine gf_RX11_108 hC hR ok_this dX11_isStrength_29 ?_
      refine lv_iconst (v := 1) hx hb dX11_isStrength_32 (by decide) ?_
      refine lv_iadd hx hb dX11_isStrength_33 ?_
      obtain ⟨x8, S5, hc6, hf⟩ := cl_of hf
      refine cl_RX11_104 (As := [.int ((mI S1 this 11) + (1 : Int32))]) (rest := []) hC hR hS (c_X11_byteAt l G n this ((mI S1 this 11) + (1 : Int32)) S1 x8 S5 hc6 ok_this) ok_this rfl ⟨Nat.le_of_ble_eq_true rfl, Nat.le_of_ble_eq_true rfl⟩ hl.1 rfl (Nat.le_of_ble_eq_true rfl) dX11_isStrength_34 (Nat.zero_le _) (Nat.zero_le _) (fun H locs hR hS hE7 => ?_)
      have ok_this := hE7 _ _ ok_this
      have hE := hE.tr hE7
      refine lv_bipush (v := 116) hx hb dX11_isStrength_37 (by decide) ?_
      refine lv_icmp_ne (tgt := 72) hx hb dX11_isStrength_39 (by decide) (fun hc => ?_) (fun hc => ?_)
      · replace hf := if_f hf hc
        refine lv_iconst (v := 0) hx hb dX11_isStrength_72 (by decide) ?_
        exact r_zret hC hR hS hE hf dX11_isStrength_73
      · replace hf := if_t hf hc
        refine lv_aload_n hx hb dX11_isStrength_42 rfl (lv_at hl 0 rfl) ?_
        refine lv_aload_n hx hb dX11_isStrength_43 rfl (lv_at hl 0 rfl) ?_
        refine gf_RX11_108 hC hR ok_this dX11_isStrength_44 ?_
        refine lv_iconst (v := 2) hx hb dX11_isStrength_47 (by decide) ?_
        refine lv_iadd hx hb dX11_isStrength_48 ?_
        obtain ⟨x12, S9, hc10, hf⟩ := cl_of hf
        refine cl_RX11_104 (As := [.int ((mI S5 this 11) + (2 : Int32))]) (rest := []) hC hR hS (c_X11_byteAt l G n this ((mI S5 this 11) + (2 : Int32)) S5 x12 S9 hc10 ok_this) ok_this rfl ⟨Nat.le_of_ble_eq_true rfl, Nat.le_of_ble_eq_true rfl⟩ hl.1 rfl (Nat.le_of_ble_eq_true rfl) dX11_isStrength_49 (Nat.zero_le _) (Nat.zero_le _) (fun H locs hR hS hE11 => ?_)
        have ok_this := hE11 _ _ ok_this
        have hE := hE.tr hE11
        refine lv_bipush (v := 114) hx hb dX11_isStrength_52 (by decide) ?_
        refine lv_icmp_ne (tgt := 72) hx hb dX11_isStrength_54 (by decide) (fun hc => ?_) (fun hc => ?_)
        · replace hf := if_f hf hc
          refine lv_iconst (v := 0) hx hb dX11_isStrength_72 (by decide) ?_
          exact r_zret hC hR hS hE hf dX11_isStrength_73
        · replace hf := if_t hf hc
          refine lv_aload_n hx hb dX11_isStrength_57 rfl (lv_at hl 0 rfl) ?_
          refine lv_aload_n hx hb dX11_isStrength_58 rfl (lv_at hl 0 rfl) ?_
          refine gf_RX11_108 hC hR ok_this dX11_isStrength_59 ?_
          refine lv_iconst (v := 3) hx hb dX11_isStrength_62 (by decide) ?_
          refine lv_iadd hx hb dX11_isStrength_63 ?_
          obtain ⟨x16, S13, hc14, hf⟩ := cl_of hf
          refine cl_RX11_104 (As := [.int ((mI S9 this 11) + (3 : Int32))]) (rest := []) hC hR hS (c_X11_byteAt l G n this ((mI S9 this 11) + (3 : Int32)) S9 x16 S13 hc14 ok_this) ok_this rfl ⟨Nat.le_of_ble_eq_true rfl, Nat.le_of_ble_eq_true rfl⟩ hl.1 rfl (Nat.le_of_ble_eq_true rfl) dX11_isStrength_64 (Nat.zero_le _) (Nat.zero_le _) (fun H locs hR hS hE15 => ?_)
          have ok_this := hE15 _ _ ok_this
          have hE := hE.tr hE15
          refine lv_bipush (v := 101) hx hb dX11_isStrength_67 (by decide) ?_
          refine lv_icmp_eq (tgt := 74) hx hb dX11_isStrength_69 (by decide) (fun hc => ?_) (fun hc => ?_)
          · replace hf := if_t hf hc
            refine lv_aload_n hx hb dX11_isStrength_74 rfl (lv_at hl 0 rfl) ?_
            refine lv_aload_n hx hb dX11_isStrength_75 rfl (lv_at hl 0 rfl) ?_
            refine gf_RX11_108 hC hR ok_this dX11_isStrength_76 ?_
            refine lv_iconst (v := 4) hx hb dX11_isStrength_79 (by decide) ?_
            refine lv_iadd hx hb dX11_isStrength_80 ?_
            obtain ⟨x20, S17, hc18, hf⟩ := cl_of hf
            refine cl_RX11_104 (As := [.int ((mI S13 this 11) + (4 : Int32))]) (rest := []) hC hR hS (c_X11_byteAt l G n this ((mI S13 this 11) + (4 : Int32)) S13 x20 S17 hc18 ok_this) ok_this rfl ⟨Nat.le_of_ble_eq_true rfl, Nat.le_of_ble_eq_true rfl⟩ hl.1 rfl (Nat.le_of_ble_eq_true rfl) dX11_isStrength_81 (Nat.zero_le _) (Nat.zero_le _) (fun H locs hR hS hE19 => ?_)
            have ok_this := hE19 _ _ ok_this
            have hE := hE.tr hE19
            refine lv_bipush (v := 110) hx hb dX11_isStrength_84 (by decide) ?_
            refine lv_icmp_ne (tgt := 140) hx hb dX11_isStrength_86 (by decide) (fun hc => ?_) (fun hc => ?_)
            · replace hf := if_f hf hc
              refine lv_iconst (v := 0) hx hb dX11_isStrength_140 (by decide) ?_
              exact r_zret hC hR hS hE hf dX11_isStrength_141
            · replace hf := if_t hf hc
              refine lv_aload_n hx hb dX11_isStrength_89 rfl (lv_at hl 0 rfl) ?_
              refine lv_aload_n hx hb dX11_isStrength_90 rfl (lv_at hl 0 rfl) ?_
              refine gf_RX11_108 hC hR ok_this dX11_isStrength_91 ?_
              refine lv_iconst (v := 5) hx hb dX11_isStrength_94 (by decide) ?_
              refine lv_iadd hx hb dX11_isStrength_95 ?_
              obtain ⟨x24, S21, hc22, hf⟩ := cl_of hf
              refine cl_RX11_104 (As := [.int ((mI S17 this 11) + (5 : Int32))]) (rest := []) hC hR hS (c_X11_byteAt l G n this ((mI S17 this 11) + (5 : Int32)) S17 x24 S21 hc22 ok_this) ok_this rfl ⟨Nat.le_of_ble_eq_true rfl, Nat.le_of_ble_eq_true rfl⟩ hl.1 rfl (Nat.le_of_ble_eq_true rfl) dX11_isStrength_96 (Nat.zero_le _) (Nat.zero_le _) (fun H locs hR hS hE23 => ?_)
              have ok_this := hE23 _ _ ok_this
              have hE := hE.tr hE23
              refine lv_bipush (v := 103) hx hb dX11_isStrength_99 (by decide) ?_
              refine lv_icmp_ne (tgt := 140) hx hb dX11_isStrength_101 (by decide) (fun hc => ?_) (fun hc => ?_)
              · replace hf := if_f hf hc
                refine lv_iconst (v := 0) hx hb dX11_isStrength_140 (by decide) ?_
                exact r_zret hC hR hS hE hf dX11_isStrength_141
              · replace hf := if_t hf hc
                refine lv_aload_n hx hb dX11_isStrength_104 rfl (lv_at hl 0 rfl) ?_
                refine lv_aload_n hx hb dX11_isStrength_105 rfl (lv_at hl 0 rfl) ?_
                refine gf_RX11_108 hC hR ok_this dX11_isStrength_106 ?_
                refine lv_bipush (v := 6) hx hb dX11_isStrength_109 (by decide) ?_
                refine lv_iadd hx hb dX11_isStrength_111 ?_
                obtain ⟨x28, S25, hc26, hf⟩ := cl_of hf
                refine cl_RX11_104 (As := [.int ((mI S21 this 11) + (6 : Int32))]) (rest := []) hC hR hS (c_X11_byteAt l G n this ((mI S21 this 11) + (6 : Int32)) S21 x28 S25 hc26 ok_this) ok_this rfl ⟨Nat.le_of_ble_eq_true rfl, Nat.le_of_ble_eq_true rfl⟩ hl.1 rfl (Nat.le_of_ble_eq_true rfl) dX11_isStrength_112 (Nat.zero_le _) (Nat.zero_le _) (fun H locs hR hS hE27 => ?_)
                have ok_this := hE27 _ _ ok_this
                have hE := hE.tr hE27
                refine lv_bipush (v := 116) hx hb dX11_isStrength_115 (by decide) ?_
                refine lv_icmp_ne (tgt := 140) hx hb dX11_isStrength_117 (by decide) (fun hc => ?_) (fun hc => ?_)
                · replace hf := if_f hf hc
                  refine lv_iconst (v := 0) hx hb dX11_isStrength_140 (by decide) ?_
                  exact r_zret hC hR hS hE hf dX11_isStrength_141
                · replace hf := if_t hf hc
                  refine lv_aload_n hx hb dX11_isStrength_120 rfl (lv_at hl 0 rfl) ?_
                  refine lv_aload_n hx hb dX11_isStrength_121 rfl (lv_at hl 0 rfl) ?_
                  refine gf_RX11_108 hC hR ok_this dX11_isStrength_122 ?_
                  refine lv_bipush (v := 7) hx hb dX11_isStrength_125 (by decide) ?_
                  refine lv_iadd hx hb dX11_isStrength_127 ?_
                  obtain ⟨x32, S29, hc30, hf⟩ := cl_of hf
                  refine cl_RX11_104 (As := [.int ((mI S25 this 11) + (7 : Int32))]) (rest := []) hC hR hS (c_X11_byteAt l G n this ((mI S25 this 11) + (7 : Int32)) S25 x32 S29 hc30 ok_this) ok_this rfl ⟨Nat.le_of_ble_eq_true rfl, Nat.le_of_ble_eq_true rfl⟩ hl.1 rfl (Nat.le_of_ble_eq_true rfl) dX11_isStrength_128 (Nat.zero_le _) (Nat.zero_le _) (fun H locs hR hS hE31 => ?_)
                  have ok_this := hE31 _ _ ok_this
                  have hE := hE.tr hE31
                  refine lv_bipush (v := 104) hx hb dX11_isStrength_131 (by decide) ?_
                  refine lv_icmp_ne (tgt := 140) hx hb dX11_isStrength_133 (by decide) (fun hc => ?_) (fun hc => ?_)
                  · replace hf := if_f hf hc
                    refine lv_iconst (v := 0) hx hb dX11_isStrength_140 (by decide) ?_
                    exact r_zret hC hR hS hE hf dX11_isStrength_141
                  · replace hf := if_t hf hc
                    refine lv_iconst (v := 1) hx hb dX11_isStrength_136 (by decide) ?_
                    refine lv_goto (tgt := 141) hx hb dX11_isStrength_137 (by decide) ?_
                    exact r_zret hC hR hS hE hf dX11_isStrength_141
          · replace hf := if_f hf hc
            refine lv_iconst (v := 0) hx hb dX11_isStrength_72 (by decide) ?_
            exact r_zret hC hR hS hE hf dX11_isStrength_73
abbrev rX11_nameOf : Room := { frames := 3, cells := 0, slots := 0, locals := 71 }
def f_X11_nameOf (n : Nat) (this : Nat) (S : MS) : Option (Int32 × MS) :=
  (if (mI S this 12) = (2 : Int32) then cl (f_X11_w6 n (119 : Int32) (101 : Int32) (105 : Int32) (103 : Int32) (104 : Int32) (116 : Int32) S) fun x4 S1 => (if (lg_cmp (mJ S this 14) x4) = 0 then some ((0 : Int32), S1) else cl (f_X11_w4 n (108 : Int32) (105 : Int32) (101 : Int32) (115 : Int32) S1) fun x8 S5 => (if (lg_cmp (mJ S1 this 14) x8) = 0 then some ((1 : Int32), S5) else cl (f_X11_w6 n (98 : Int32) (101 : Int32) (115 : Int32) (105 : Int32) (100 : Int32) (101 : Int32) S5) fun x12 S9 => (if (lg_cmp (mJ S5 this 14) x12) = 0 then some ((2 : Int32), S9) else (if (lg_cmp (mJ S9 this 14) (120 : Int64)) = 0 then some ((3 : Int32), S9) else (if (lg_cmp (mJ S9 this 14) (121 : Int64)) = 0 then some ((4 : Int32), S9) else cl (f_X11_w4 n (104 : Int32) (111 : Int32) (117 : Int32) (114 : Int32) S9) fun x16 S13 => (if (lg_cmp (mJ S9 this 14) x16) = 0 then some ((5 : Int32), S13) else cl (f_X11_isStrength n this S13) fun x20 S17 => (if x20 = 0 then cl (f_X11_w5 n (115 : Int32) (112 : Int32) (97 : Int32) (114 : Int32) (101 : Int32) S17) fun x24 S21 => (if (lg_cmp (mJ S17 this 14) x24) = 0 then some ((7 : Int32), S21) else cl (f_X11_w4 n (109 : Int32) (97 : Int32) (110 : Int32) (121 : Int32) S21) fun x28 S25 => (if (lg_cmp (mJ S21 this 14) x28) = 0 then some ((8 : Int32), S25) else cl (f_X11_w3 n (97 : Int32) (103 : Int32) (101 : Int32) S25) fun x32 S29 => (if (lg_cmp (mJ S25 this 14) x32) = 0 then some ((9 : Int32), S29) else cl (f_X11_w4 n (97 : Int32) (114 : Int32) (101 : Int32) (97 : Int32) S29) fun x36 S33 => (if (lg_cmp (mJ S29 this 14) x36) = 0 then some ((10 : Int32), S33) else cl (f_X11_w5 n (119 : Int32) (97 : Int32) (116 : Int32) (101 : Int32) (114 : Int32) S33) fun x40 S37 => (if (lg_cmp (mJ S33 this 14) x40) = 0 then some ((11 : Int32), S37) else some ((-1 : Int32), S37)))))) else some ((6 : Int32), S17)))))))) else some ((-1 : Int32), S))
set_option maxRecDepth 100000 in
set_option maxHeartbeats 4000000 in
theorem c_X11_nameOf (l : Launch) (G : Gx) (n : Nat) (this : Nat) (S : MS) (ro : Int32) (So : MS) (hf : f_X11_nameOf n this S = some (ro, So)) (ok_this : Ok S this 11) : Cn G l yX11_nameOf cX11_nameOf 1 (some .int) rX11_nameOf [.ref this] S (some (.int ro)) So := by
  refine Cn.of (by decide) (Nat.le_of_ble_eq_true rfl) ?_
  intro p e s m args below meth c hC hname hR ls hl
  have hC : Cx G RX11 cX11_nameOf 1 (some .int) p s m args meth c := hC
  have hl : lv_has ls 1 [(0, .ref this)] := hl
  have hx := hC.x
  have hb := hC.b
  have hS : va_S (gA G) s.heap s.heap [] := va_S.rf
  have hE : Ex S S := Ex.rf S
  unfold f_X11_nameOf at hf
  refine lv_aload_n hx hb dX11_nameOf_0 rfl (lv_at hl 0 rfl) ?_
  refine gf_RX11_111 hC hR ok_this dX11_nameOf_1 ?_
  refine lv_iconst (v := 2) hx hb dX11_nameOf_4 (by decide) ?_
  refine lv_icmp_eq (tgt := 10) hx hb dX11_nameOf_5 (by decide) (fun hc => ?_) (fun hc => ?_)
  · replace hf := if_t hf hc
    refine lv_aload_n hx hb dX11_nameOf_10 rfl (lv_at hl 0 rfl) ?_
    refine gf_RX11_124 hC hR ok_this dX11_nameOf_11 ?_
    refine lv_bipush (v := 119) hx hb dX11_nameOf_14 (by decide) ?_
    refine lv_bipush (v := 101) hx hb dX11_nameOf_16 (by decide) ?_
    refine lv_bipush (v := 105) hx hb dX11_nameOf_18 (by decide) ?_
    refine lv_bipush (v := 103) hx hb dX11_nameOf_20 (by decide) ?_
    refine lv_bipush (v := 104) hx hb dX11_nameOf_22 (by decide) ?_
    refine lv_bipush (v := 116) hx hb dX11_nameOf_24 (by decide) ?_
    obtain ⟨x4, S1, hc2, hf⟩ := cl_of hf
    refine cl_RX11_210 (As := [.int (119 : Int32), .int (101 : Int32), .int (105 : Int32), .int (103 : Int32), .int (104 : Int32), .int (116 : Int32)]) (rest := [.long (mJ S this 14)]) hC hR hS (c_X11_w6 l G n (119 : Int32) (101 : Int32) (105 : Int32) (103 : Int32) (104 : Int32) (116 : Int32) S x4 S1 hc2 ) rfl ⟨Nat.le_of_ble_eq_true rfl, Nat.le_of_ble_eq_true rfl⟩ hl.1 rfl (Nat.le_of_ble_eq_true rfl) dX11_nameOf_26 (Nat.zero_le _) (Nat.zero_le _) (fun H locs hR hS hE3 => ?_)
    have ok_this := hE3 _ _ ok_this
    have hE := hE.tr hE3
    refine W.lcmp hx hb dX11_nameOf_29 ?_
    refine lv_if_ne (tgt := 35) hx hb dX11_nameOf_30 (by decide) (fun hc => ?_) (fun hc => ?_)
    · replace hf := if_f hf hc
      refine lv_aload_n hx hb dX11_nameOf_35 rfl (lv_at hl 0 rfl) ?_
      refine gf_RX11_124 hC hR ok_this dX11_nameOf_36 ?_
      refine lv_bipush (v := 108) hx hb dX11_nameOf_39 (by decide) ?_
      refine lv_bipush (v := 105) hx hb dX11_nameOf_41 (by decide) ?_
      refine lv_bipush (v := 101) hx hb dX11_nameOf_43 (by decide) ?_
      refine lv_bipush (v := 115) hx hb dX11_nameOf_45 (by decide) ?_
      obtain ⟨x8, S5, hc6, hf⟩ := cl_of hf
      refine cl_RX11_214 (As := [.int (108 : Int32), .int (105 : Int32), .int (101 : Int32), .int (115 : Int32)]) (rest := [.long (mJ S1 this 14)]) hC hR hS (c_X11_w4 l G n (108 : Int32) (105 : Int32) (101 : Int32) (115 : Int32) S1 x8 S5 hc6 ) rfl ⟨Nat.le_of_ble_eq_true rfl, Nat.le_of_ble_eq_true rfl⟩ hl.1 rfl (Nat.le_of_ble_eq_true rfl) dX11_nameOf_47 (Nat.zero_le _) (Nat.zero_le _) (fun H locs hR hS hE7 => ?_)
      have ok_this := hE7 _ _ ok_this
      have hE := hE.tr hE7
      refine W.lcmp hx hb dX11_nameOf_50 ?_
      refine lv_if_ne (tgt := 56) hx hb dX11_nameOf_51 (by decide) (fun hc => ?_) (fun hc => ?_)
      · replace hf := if_f hf hc
        refine lv_aload_n hx hb dX11_nameOf_56 rfl (lv_at hl 0 rfl) ?_
        refine gf_RX11_124 hC hR ok_this dX11_nameOf_57 ?_
        refine lv_bipush (v := 98) hx hb dX11_nameOf_60 (by decide) ?_
        refine lv_bipush (v := 101) hx hb dX11_nameOf_62 (by decide) ?_
        refine lv_bipush (v := 115) hx hb dX11_nameOf_64 (by decide) ?_
        refine lv_bipush (v := 105) hx hb dX11_nameOf_66 (by decide) ?_
        refine lv_bipush (v := 100) hx hb dX11_nameOf_68 (by decide) ?_
        refine lv_bipush (v := 101) hx hb dX11_nameOf_70 (by decide) ?_
        obtain ⟨x12, S9, hc10, hf⟩ := cl_of hf
        refine cl_RX11_210 (As := [.int (98 : Int32), .int (101 : Int32), .int (115 : Int32), .int (105 : Int32), .int (100 : Int32), .int (101 : Int32)]) (rest := [.long (mJ S5 this 14)]) hC hR hS (c_X11_w6 l G n (98 : Int32) (101 : Int32) (115 : Int32) (105 : Int32) (100 : Int32) (101 : Int32) S5 x12 S9 hc10 ) rfl ⟨Nat.le_of_ble_eq_true rfl, Nat.le_of_ble_eq_true rfl⟩ hl.1 rfl (Nat.le_of_ble_eq_true rfl) dX11_nameOf_72 (Nat.zero_le _) (Nat.zero_le _) (fun H locs hR hS hE11 => ?_)
        have ok_this := hE11 _ _ ok_this
        have hE := hE.tr hE11
        refine W.lcmp hx hb dX11_nameOf_75 ?_
        refine lv_if_ne (tgt := 81) hx hb dX11_nameOf_76 (by decide) (fun hc => ?_) (fun hc => ?_)
        · replace hf := if_f hf hc
          refine lv_aload_n hx hb dX11_nameOf_81 rfl (lv_at hl 0 rfl) ?_
          refine gf_RX11_124 hC hR ok_this dX11_nameOf_82 ?_
          refine lv_ldc2 (v := 120) hx hb hC.ow (hC.ts _ (bg26 _ (List.mem_of_getElem? (i := 13) rfl))) dX11_nameOf_85 ?_
          refine W.lcmp hx hb dX11_nameOf_88 ?_
          refine lv_if_ne (tgt := 94) hx hb dX11_nameOf_89 (by decide) (fun hc => ?_) (fun hc => ?_)
          · replace hf := if_f hf hc
            refine lv_aload_n hx hb dX11_nameOf_94 rfl (lv_at hl 0 rfl) ?_
            refine gf_RX11_124 hC hR ok_this dX11_nameOf_95 ?_
            refine lv_ldc2 (v := 121) hx hb hC.ow (hC.ts _ (bg26 _ (List.mem_of_getElem? (i := 14) rfl))) dX11_nameOf_98 ?_
            refine W.lcmp hx hb dX11_nameOf_101 ?_
            refine lv_if_ne (tgt := 107) hx hb dX11_nameOf_102 (by decide) (fun hc => ?_) (fun hc => ?_)
            · replace hf := if_f hf hc
              refine lv_aload_n hx hb dX11_nameOf_107 rfl (lv_at hl 0 rfl) ?_
              refine gf_RX11_124 hC hR ok_this dX11_nameOf_108 ?_
              refine lv_bipush (v := 104) hx hb dX11_nameOf_111 (by decide) ?_
              refine lv_bipush (v := 111) hx hb dX11_nameOf_113 (by decide) ?_
              refine lv_bipush (v := 117) hx hb dX11_nameOf_115 (by decide) ?_
              refine lv_bipush (v := 114) hx hb dX11_nameOf_117 (by decide) ?_
              obtain ⟨x16, S13, hc14, hf⟩ := cl_of hf
              refine cl_RX11_214 (As := [.int (104 : Int32), .int (111 : Int32), .int (117 : Int32), .int (114 : Int32)]) (rest := [.long (mJ S9 this 14)]) hC hR hS (c_X11_w4 l G n (104 : Int32) (111 : Int32) (117 : Int32) (114 : Int32) S9 x16 S13 hc14 ) rfl ⟨Nat.le_of_ble_eq_true rfl, Nat.le_of_ble_eq_true rfl⟩ hl.1 rfl (Nat.le_of_ble_eq_true rfl) dX11_nameOf_119 (Nat.zero_le _) (Nat.zero_le _) (fun H locs hR hS hE15 => ?_)
              have ok_this := hE15 _ _ ok_this
              have hE := hE.tr hE15
              refine W.lcmp hx hb dX11_nameOf_122 ?_
              refine lv_if_ne (tgt := 128) hx hb dX11_nameOf_123 (by decide) (fun hc => ?_) (fun hc => ?_)
              · replace hf := if_f hf hc
                refine lv_aload_n hx hb dX11_nameOf_128 rfl (lv_at hl 0 rfl) ?_
                obtain ⟨x20, S17, hc18, hf⟩ := cl_of hf
                refine cl_RX11_222 (As := []) (rest := []) hC hR hS (c_X11_isStrength l G n this S13 x20 S17 hc18 ok_this) ok_this rfl ⟨Nat.le_of_ble_eq_true rfl, Nat.le_of_ble_eq_true rfl⟩ hl.1 rfl (Nat.le_of_ble_eq_true rfl) dX11_nameOf_129 (Nat.zero_le _) (Nat.zero_le _) (fun H locs hR hS hE19 => ?_)
                have ok_this := hE19 _ _ ok_this
                have hE := hE.tr hE19
                refine lv_if_eq (tgt := 138) hx hb dX11_nameOf_132 (by decide) (fun hc => ?_) (fun hc => ?_)
                · replace hf := if_t hf hc
                  refine lv_aload_n hx hb dX11_nameOf_138 rfl (lv_at hl 0 rfl) ?_
                  refine gf_RX11_124 hC hR ok_this dX11_nameOf_139 ?_
                  refine lv_bipush (v := 115) hx hb dX11_nameOf_142 (by decide) ?_
                  refine lv_bipush (v := 112) hx hb dX11_nameOf_144 (by decide) ?_
                  refine lv_bipush (v := 97) hx hb dX11_nameOf_146 (by decide) ?_
                  refine lv_bipush (v := 114) hx hb dX11_nameOf_148 (by decide) ?_
                  refine lv_bipush (v := 101) hx hb dX11_nameOf_150 (by decide) ?_
                  obtain ⟨x24, S21, hc22, hf⟩ := cl_of hf
                  refine cl_RX11_132 (As := [.int (115 : Int32), .int (112 : Int32), .int (97 : Int32), .int (114 : Int32), .int (101 : Int32)]) (rest := [.long (mJ S17 this 14)]) hC hR hS (c_X11_w5 l G n (115 : Int32) (112 : Int32) (97 : Int32) (114 : Int32) (101 : Int32) S17 x24 S21 hc22 ) rfl ⟨Nat.le_of_ble_eq_true rfl, Nat.le_of_ble_eq_true rfl⟩ hl.1 rfl (Nat.le_of_ble_eq_true rfl) dX11_nameOf_152 (Nat.zero_le _) (Nat.zero_le _) (fun H locs hR hS hE23 => ?_)
                  have ok_this := hE23 _ _ ok_this
                  have hE := hE.tr hE23
                  refine W.lcmp hx hb dX11_nameOf_155 ?_
                  refine lv_if_ne (tgt := 162) hx hb dX11_nameOf_156 (by decide) (fun hc => ?_) (fun hc => ?_)
                  · replace hf := if_f hf hc
                    refine lv_aload_n hx hb dX11_nameOf_162 rfl (lv_at hl 0 rfl) ?_
                    refine gf_RX11_124 hC hR ok_this dX11_nameOf_163 ?_
                    refine lv_bipush (v := 109) hx hb dX11_nameOf_166 (by decide) ?_
                    refine lv_bipush (v := 97) hx hb dX11_nameOf_168 (by decide) ?_
                    refine lv_bipush (v := 110) hx hb dX11_nameOf_170 (by decide) ?_
                    refine lv_bipush (v := 121) hx hb dX11_nameOf_172 (by decide) ?_
                    obtain ⟨x28, S25, hc26, hf⟩ := cl_of hf
                    refine cl_RX11_214 (As := [.int (109 : Int32), .int (97 : Int32), .int (110 : Int32), .int (121 : Int32)]) (rest := [.long (mJ S21 this 14)]) hC hR hS (c_X11_w4 l G n (109 : Int32) (97 : Int32) (110 : Int32) (121 : Int32) S21 x28 S25 hc26 ) rfl ⟨Nat.le_of_ble_eq_true rfl, Nat.le_of_ble_eq_true rfl⟩ hl.1 rfl (Nat.le_of_ble_eq_true rfl) dX11_nameOf_174 (Nat.zero_le _) (Nat.zero_le _) (fun H locs hR hS hE27 => ?_)
                    have ok_this := hE27 _ _ ok_this
                    have hE := hE.tr hE27
                    refine W.lcmp hx hb dX11_nameOf_177 ?_
                    refine lv_if_ne (tgt := 184) hx hb dX11_nameOf_178 (by decide) (fun hc => ?_) (fun hc => ?_)
                    · replace hf := if_f hf hc
                      refine lv_aload_n hx hb dX11_nameOf_184 rfl (lv_at hl 0 rfl) ?_
                      refine gf_RX11_124 hC hR ok_this dX11_nameOf_185 ?_
                      refine lv_bipush (v := 97) hx hb dX11_nameOf_188 (by decide) ?_
                      refine lv_bipush (v := 103) hx hb dX11_nameOf_190 (by decide) ?_
                      refine lv_bipush (v := 101) hx hb dX11_nameOf_192 (by decide) ?_
                      obtain ⟨x32, S29, hc30, hf⟩ := cl_of hf
                      refine cl_RX11_128 (As := [.int (97 : Int32), .int (103 : Int32), .int (101 : Int32)]) (rest := [.long (mJ S25 this 14)]) hC hR hS (c_X11_w3 l G n (97 : Int32) (103 : Int32) (101 : Int32) S25 x32 S29 hc30 ) rfl ⟨Nat.le_of_ble_eq_true rfl, Nat.le_of_ble_eq_true rfl⟩ hl.1 rfl (Nat.le_of_ble_eq_true rfl) dX11_nameOf_194 (Nat.zero_le _) (Nat.zero_le _) (fun H locs hR hS hE31 => ?_)
                      have ok_this := hE31 _ _ ok_this
                      have hE := hE.tr hE31
                      refine W.lcmp hx hb dX11_nameOf_197 ?_
                      refine lv_if_ne (tgt := 204) hx hb dX11_nameOf_198 (by decide) (fun hc => ?_) (fun hc => ?_)
                      · replace hf := if_f hf hc
                        refine lv_aload_n hx hb dX11_nameOf_204 rfl (lv_at hl 0 rfl) ?_
                        refine gf_RX11_124 hC hR ok_this dX11_nameOf_205 ?_
                        refine lv_bipush (v := 97) hx hb dX11_nameOf_208 (by decide) ?_
                        refine lv_bipush (v := 114) hx hb dX11_nameOf_210 (by decide) ?_
                        refine lv_bipush (v := 101) hx hb dX11_nameOf_212 (by decide) ?_
                        refine lv_bipush (v := 97) hx hb dX11_nameOf_214 (by decide) ?_
                        obtain ⟨x36, S33, hc34, hf⟩ := cl_of hf
                        refine cl_RX11_214 (As := [.int (97 : Int32), .int (114 : Int32), .int (101 : Int32), .int (97 : Int32)]) (rest := [.long (mJ S29 this 14)]) hC hR hS (c_X11_w4 l G n (97 : Int32) (114 : Int32) (101 : Int32) (97 : Int32) S29 x36 S33 hc34 ) rfl ⟨Nat.le_of_ble_eq_true rfl, Nat.le_of_ble_eq_true rfl⟩ hl.1 rfl (Nat.le_of_ble_eq_true rfl) dX11_nameOf_216 (Nat.zero_le _) (Nat.zero_le _) (fun H locs hR hS hE35 => ?_)
                        have ok_this := hE35 _ _ ok_this
                        have hE := hE.tr hE35
                        refine W.lcmp hx hb dX11_nameOf_219 ?_
                        refine lv_if_ne (tgt := 228) hx hb dX11_nameOf_220 (by decide) (fun hc => ?_) (fun hc => ?_)
                        · replace hf := if_f hf hc
                          refine lv_aload_n hx hb dX11_nameOf_228 rfl (lv_at hl 0 rfl) ?_
                          refine gf_RX11_124 hC hR ok_this dX11_nameOf_229 ?_
                          refine lv_bipush (v := 119) hx hb dX11_nameOf_232 (by decide) ?_
                          refine lv_bipush (v := 97) hx hb dX11_nameOf_234 (by decide) ?_
                          refine lv_bipush (v := 116) hx hb dX11_nameOf_236 (by decide) ?_
                          refine lv_bipush (v := 101) hx hb dX11_nameOf_238 (by decide) ?_
                          refine lv_bipush (v := 114) hx hb dX11_nameOf_240 (by decide) ?_
                          obtain ⟨x40, S37, hc38, hf⟩ := cl_of hf
                          refine cl_RX11_132 (As := [.int (119 : Int32), .int (97 : Int32), .int (116 : Int32), .int (101 : Int32), .int (114 : Int32)]) (rest := [.long (mJ S33 this 14)]) hC hR hS (c_X11_w5 l G n (119 : Int32) (97 : Int32) (116 : Int32) (101 : Int32) (114 : Int32) S33 x40 S37 hc38 ) rfl ⟨Nat.le_of_ble_eq_true rfl, Nat.le_of_ble_eq_true rfl⟩ hl.1 rfl (Nat.le_of_ble_eq_true rfl) dX11_nameOf_242 (Nat.zero_le _) (Nat.zero_le _) (fun H locs hR hS hE39 => ?_)
                          have ok_this := hE39 _ _ ok_this
                          have hE := hE.tr hE39
                          refine W.lcmp hx hb dX11_nameOf_245 ?_
                          refine lv_if_ne (tgt := 254) hx hb dX11_nameOf_246 (by decide) (fun hc => ?_) (fun hc => ?_)
                          · replace hf := if_f hf hc
                            refine lv_iconst (v := -1) hx hb dX11_nameOf_254 (by decide) ?_
                            exact r_iret hC hR hS hE hf dX11_nameOf_255
                          · replace hf := if_t hf hc
                            refine lv_bipush (v := 11) hx hb dX11_nameOf_249 (by decide) ?_
                            refine lv_goto (tgt := 255) hx hb dX11_nameOf_251 (by decide) ?_
                            exact r_iret hC hR hS hE hf dX11_nameOf_255
                        · replace hf := if_t hf hc
                          refine lv_bipush (v := 10) hx hb dX11_nameOf_223 (by decide) ?_
                          refine lv_goto (tgt := 255) hx hb dX11_nameOf_225 (by decide) ?_
                          exact r_iret hC hR hS hE hf dX11_nameOf_255
                      · replace hf := if_t hf hc
                        refine lv_bipush (v := 9) hx hb dX11_nameOf_201 (by decide) ?_
                        exact r_iret hC hR hS hE hf dX11_nameOf_203
                    · replace hf := if_t hf hc
                      refine lv_bipush (v := 8) hx hb dX11_nameOf_181 (by decide) ?_
                      exact r_iret hC hR hS hE hf dX11_nameOf_183
                  · replace hf := if_t hf hc
                    refine lv_bipush (v := 7) hx hb dX11_nameOf_159 (by decide) ?_
                    exact r_iret hC hR hS hE hf dX11_nameOf_161
                · replace hf := if_f hf hc
                  refine lv_bipush (v := 6) hx hb dX11_nameOf_135 (by decide) ?_
                  exact r_iret hC hR hS hE hf dX11_nameOf_137
              · replace hf := if_t hf hc
                refine lv_iconst (v := 5) hx hb dX11_nameOf_126 (by decide) ?_
                exact r_iret hC hR hS hE hf dX11_nameOf_127
            · replace hf := if_t hf hc
              refine lv_iconst (v := 4) hx hb dX11_nameOf_105 (by decide) ?_
              exact r_iret hC hR hS hE hf dX11_nameOf_106
          · replace hf := if_t hf hc
            refine lv_iconst (v := 3) hx hb dX11_nameOf_92 (by decide) ?_
            exact r_iret hC hR hS hE hf dX11_nameOf_93
        · replace hf := if_t hf hc
          refine lv_iconst (v := 2) hx hb dX11_nameOf_79 (by decide) ?_
          exact r_iret hC hR hS hE hf dX11_nameOf_80
      · replace hf := if_t hf hc
        refine lv_iconst (v := 1) hx hb dX11_nameOf_54 (by decide) ?_
        exact r_iret hC hR hS hE hf dX11_nameOf_55
    · replace hf := if_t hf hc
      refine lv_iconst (v := 0) hx hb dX11_nameOf_33 (by decide) ?_
      exact r_iret hC hR hS hE hf dX11_nameOf_34
  · replace hf := if_f hf hc
    refine lv_iconst (v := -1) hx hb dX11_nameOf_8 (by decide) ?_
    exact r_iret hC hR hS hE hf dX11_nameOf_9
abbrev rX11_beginOne : Room := { frames := 4, cells := 0, slots := 0, locals := 91 }
def f_X11_beginOne (n : Nat) (this : Nat) (a1 : Int32) (S : MS) : Option (Int32 × MS) :=
  jn (fun (S3 : MS) => cl (f_X11_nameOf n this S3) fun x7 S4 => jn (fun (S10 : MS) => jn (fun (S13 : MS) => jn (fun (q16 : Nat) (x17 : Int32) (S18 : MS) => jn (fun (q21 : Nat) (x22 : Int32) (x23 : Int32) (S24 : MS) => cv (f_X11_emit n q21 x22 x23 S24) fun S25 => cv (f_X11_nextToken n this S25) fun S28 => cv (f_X11_whole n this S28) fun S31 => some ((0 : Int32), S31)) fun j81_20 => (if (mI S18 this 12) = (1 : Int32) then j81_20 q16 x17 (mI S18 this 13) S18 else j81_20 q16 x17 x7 S18)) fun j65_15 => (if (mI S13 this 12) = (1 : Int32) then j65_15 this (0 : Int32) S13 else j65_15 this (1 : Int32) S13)) fun j51_12 => (if (mI S10 this 12) = (1 : Int32) then j51_12 S10 else (if x7 < 0 then (if (mI S10 this 12) = (40 : Int32) then cl (f_X11_opensBy n this (40 : Int32) S10) fun x88 S85 => some (x88, S85) else (if (mI S10 this 12) = (45 : Int32) then cl (f_X11_opensBy n this (2 : Int32) S10) fun x84 S81 => some (x84, S81) else cl (f_X11_w3 n (109 : Int32) (105 : Int32) (110 : Int32) S10) fun x44 S41 => cl (f_X11_isWord n this x44 S41) fun x48 S45 => (if x48 = 0 then cl (f_X11_w3 n (109 : Int32) (97 : Int32) (120 : Int32) S45) fun x52 S49 => cl (f_X11_isWord n this x52 S49) fun x56 S53 => (if x56 = 0 then cl (f_X11_w3 n (110 : Int32) (111 : Int32) (116 : Int32) S53) fun x60 S57 => cl (f_X11_isWord n this x60 S57) fun x64 S61 => (if x64 = 0 then some ((1 : Int32), S61) else cl (f_X11_isAskAhead n this a1 S61) fun x68 S65 => (if x68 = 0 then some ((1 : Int32), S65) else cl (f_X11_opensBy n this (20 : Int32) S65) fun x72 S69 => some (x72, S69))) else cl (f_X11_opensBy n this (42 : Int32) S53) fun x76 S73 => some (x76, S73)) else cl (f_X11_opensBy n this (41 : Int32) S45) fun x80 S77 => some (x80, S77)))) else j51_12 S10))) fun j39_9 => (if x7 < 0 then j39_9 S4 else cl (f_X11_isOf n this x7 S4) fun x93 S90 => (if x93 = 0 then some ((5 : Int32), S90) else j39_9 S90))) fun j20_2 => (if (mI S this 12) = (1 : Int32) then (if (mI S this 13) ≤ (9999 : Int32) then j20_2 S else some ((2 : Int32), S)) else j20_2 S)
set_option maxRecDepth 100000 in
set_option maxHeartbeats 4000000 in
theorem c_X11_beginOne (l : Launch) (G : Gx) (n : Nat) (this : Nat) (a1 : Int32) (S : MS) (ro : Int32) (So : MS) (hf : f_X11_beginOne n this a1 S = some (ro, So)) (ok_this : Ok S this 11) : Cn G l yX11_beginOne cX11_beginOne 3 (some .int) rX11_beginOne [.ref this, .int a1] S (some (.int ro)) So := by
  refine Cn.of (by decide) (Nat.le_of_ble_eq_true rfl) ?_
  intro p e s m args below meth c hC hname hR ls hl
  have hC : Cx G RX11 cX11_beginOne 3 (some .int) p s m args meth c := hC
  have hl : lv_has ls 3 [(0, .ref this), (1, .int a1)] := hl
  have hx := hC.x
  have hb := hC.b
  have hS : va_S (gA G) s.heap s.heap [] := va_S.rf
  have hE : Ex S S := Ex.rf S
  unfold f_X11_beginOne at hf
  refine lv_aload_n hx hb dX11_beginOne_0 rfl (lv_at hl 0 rfl) ?_
  refine gf_RX11_111 hC hR ok_this dX11_beginOne_1 ?_
  refine lv_iconst (v := 1) hx hb dX11_beginOne_4 (by decide) ?_
  obtain ⟨j20_2, ej20_2, hf⟩ := jn_of1 hf
  have hj20_1 : ∀ (S3 : MS) (H : Heap) (locs : List Loc) (ls : Array Slot), j20_2 S3 = some (ro, So) → Rp G S3 H → va_S (gA G) s.heap H locs → Ex S S3 → Ok S3 this 11 → lv_has ls 3 [(0, .ref this), (1, .int a1)] → W p l e rX11_beginOne s m args below meth c H locs 0 0 (MQ below (Qn G S (some (.int ro)) So) args s 0 0 (gA G)) (F0 m 20 ls []) := by
    intro S3 H locs ls hf hR hS hE ok_this hl
    rw [ej20_2] at hf
    refine lv_aload_n hx hb dX11_beginOne_20 rfl (lv_at hl 0 rfl) ?_
    obtain ⟨x7, S4, hc5, hf⟩ := cl_of hf
    refine cl_RX11_171 (As := []) (rest := []) hC hR hS (c_X11_nameOf l G n this S3 x7 S4 hc5 ok_this) ok_this rfl ⟨Nat.le_of_ble_eq_true rfl, Nat.le_of_ble_eq_true rfl⟩ hl.1 rfl (Nat.le_of_ble_eq_true rfl) dX11_beginOne_21 (Nat.zero_le _) (Nat.zero_le _) (fun H locs hR hS hE6 => ?_)
    have ok_this := hE6 _ _ ok_this
    have hE := hE.tr hE6
    refine lv_istore_n (lv' := [(2, .int x7), (0, .ref this), (1, .int a1)]) hx hb dX11_beginOne_24 rfl hl (by decide) rfl (fun ls hl => ?_)
    refine lv_iload_n hx hb dX11_beginOne_25 rfl (lv_at hl 0 rfl) ?_
    obtain ⟨j39_9, ej39_9, hf⟩ := jn_of1 hf
    have hj39_8 : ∀ (S10 : MS) (H : Heap) (locs : List Loc) (ls : Array Slot), j39_9 S10 = some (ro, So) → Rp G S10 H → va_S (gA G) s.heap H locs → Ex S S10 → Ok S10 this 11 → lv_has ls 3 [(0, .ref this), (1, .int a1), (2, .int x7)] → W p l e rX11_beginOne s m args below meth c H locs 0 0 (MQ below (Qn G S (some (.int ro)) So) args s 0 0 (gA G)) (F0 m 39 ls []) := by
      intro S10 H locs ls hf hR hS hE ok_this hl
      rw [ej39_9] at hf
      refine lv_aload_n hx hb dX11_beginOne_39 rfl (lv_at hl 0 rfl) ?_
      refine gf_RX11_111 hC hR ok_this dX11_beginOne_40 ?_
      refine lv_iconst (v := 1) hx hb dX11_beginOne_43 (by decide) ?_
      obtain ⟨j51_12, ej51_12, hf⟩ := jn_of1 hf
      have hj51_11 : ∀ (S13 : MS) (H : Heap) (locs : List Loc) (ls : Array Slot), j51_12 S13 = some (ro, So) → Rp G S13 H → va_S (gA G) s.heap H locs → Ex S S13 → Ok S13 this 11 → lv_has ls 3 [(0, .ref this), (2, .int x7)] → W p l e rX11_beginOne s m args below meth c H locs 0 0 (MQ below (Qn G S (some (.int ro)) So) args s 0 0 (gA G)) (F0 m 51 ls []) := by
        intro S13 H locs ls hf hR hS hE ok_this hl
        rw [ej51_12] at hf
        refine lv_aload_n hx hb dX11_beginOne_51 rfl (lv_at hl 0 rfl) ?_
        refine lv_aload_n hx hb dX11_beginOne_52 rfl (lv_at hl 0 rfl) ?_
        refine gf_RX11_111 hC hR ok_this dX11_beginOne_53 ?_
        refine lv_iconst (v := 1) hx hb dX11_beginOne_56 (by decide) ?_
        obtain ⟨j65_15, ej65_15, hf⟩ := jn_of3 hf
        have hj65_14 : ∀ (q16 : Nat) (x17 : Int32) (S18 : MS) (H : Heap) (locs : List Loc) (ls : Array Slot), j65_15 q16 x17 S18 = some (ro, So) → Rp G S18 H → va_S (gA G) s.heap H locs → Ex S S18 → Ok S18 this 11 → Ok S18 q16 11 → lv_has ls 3 [(0, .ref this), (2, .int x7)] → W p l e rX11_beginOne s m args below meth c H locs 0 0 (MQ below (Qn G S (some (.int ro)) So) args s 0 0 (gA G)) (F0 m 65 ls [.int x17, .ref q16]) := by
          intro q16 x17 S18 H locs ls hf hR hS hE ok_this ok_q16 hl
          rw [ej65_15] at hf
          refine lv_aload_n hx hb dX11_beginOne_65 rfl (lv_at hl 0 rfl) ?_
          refine gf_RX11_111 hC hR ok_this dX11_beginOne_66 ?_
          refine lv_iconst (v := 1) hx hb dX11_beginOne_69 (by decide) ?_
          obtain ⟨j81_20, ej81_20, hf⟩ := jn_of4 hf
          have hj81_19 : ∀ (q21 : Nat) (x22 : Int32) (x23 : Int32) (S24 : MS) (H : Heap) (locs : List Loc) (ls : Array Slot), j81_20 q21 x22 x23 S24 = some (ro, So) → Rp G S24 H → va_S (gA G) s.heap H locs → Ex S S24 → Ok S24 this 11 → Ok S24 q21 11 → lv_has ls 3 [(0, .ref this)] → W p l e rX11_beginOne s m args below meth c H locs 0 0 (MQ below (Qn G S (some (.int ro)) So) args s 0 0 (gA G)) (F0 m 81 ls [.int x23, .int x22, .ref q21]) := by
            intro q21 x22 x23 S24 H locs ls hf hR hS hE ok_this ok_q21 hl
            rw [ej81_20] at hf
            obtain ⟨S25, hc26, hf⟩ := cv_of hf
            refine cl_RX11_148 (As := [.int x22, .int x23]) (rest := []) hC hR hS (c_X11_emit l G n q21 x22 x23 S24 S25 hc26 ok_q21) ok_q21 rfl ⟨Nat.le_of_ble_eq_true rfl, Nat.le_of_ble_eq_true rfl⟩ hl.1 rfl (Nat.le_of_ble_eq_true rfl) dX11_beginOne_81 (Nat.zero_le _) (Nat.zero_le _) (fun H locs hR hS hE27 => ?_)
            have ok_this := hE27 _ _ ok_this
            have ok_q21 := hE27 _ _ ok_q21
            have hE := hE.tr hE27
            refine lv_aload_n hx hb dX11_beginOne_84 rfl (lv_at hl 0 rfl) ?_
            obtain ⟨S28, hc29, hf⟩ := cv_of hf
            refine cl_RX11_165 (As := []) (rest := []) hC hR hS (c_X11_nextToken l G n this S25 S28 hc29 ok_this) ok_this rfl ⟨Nat.le_of_ble_eq_true rfl, Nat.le_of_ble_eq_true rfl⟩ hl.1 rfl (Nat.le_of_ble_eq_true rfl) dX11_beginOne_85 (Nat.zero_le _) (Nat.zero_le _) (fun H locs hR hS hE30 => ?_)
            have ok_this := hE30 _ _ ok_this
            have ok_q21 := hE30 _ _ ok_q21
            have hE := hE.tr hE30
            refine lv_aload_n hx hb dX11_beginOne_88 rfl (lv_at hl 0 rfl) ?_
            obtain ⟨S31, hc32, hf⟩ := cv_of hf
            refine cl_RX11_177 (As := []) (rest := []) hC hR hS (c_X11_whole l G n this S28 S31 hc32 ok_this) ok_this rfl ⟨Nat.le_of_ble_eq_true rfl, Nat.le_of_ble_eq_true rfl⟩ hl.1 rfl (Nat.le_of_ble_eq_true rfl) dX11_beginOne_89 (Nat.zero_le _) (Nat.zero_le _) (fun H locs hR hS hE33 => ?_)
            have ok_this := hE33 _ _ ok_this
            have ok_q21 := hE33 _ _ ok_q21
            have hE := hE.tr hE33
            refine lv_iconst (v := 0) hx hb dX11_beginOne_92 (by decide) ?_
            exact r_iret hC hR hS hE hf dX11_beginOne_93
          refine lv_icmp_ne (tgt := 80) hx hb dX11_beginOne_70 (by decide) (fun hc => ?_) (fun hc => ?_)
          · replace hf := if_f hf hc
            refine lv_iload_n hx hb dX11_beginOne_80 rfl (lv_at hl 1 rfl) ?_
            exact hj81_19 q16 x17 x7 S18 _ _ _ hf hR hS hE ok_this ok_q16 (lv_sub hl [0] rfl)
          · replace hf := if_t hf hc
            refine lv_aload_n hx hb dX11_beginOne_73 rfl (lv_at hl 0 rfl) ?_
            refine gf_RX11_117 hC hR ok_this dX11_beginOne_74 ?_
            refine lv_goto (tgt := 81) hx hb dX11_beginOne_77 (by decide) ?_
            exact hj81_19 q16 x17 (mI S18 this 13) S18 _ _ _ hf hR hS hE ok_this ok_q16 (lv_sub hl [0] rfl)
        refine lv_icmp_ne (tgt := 64) hx hb dX11_beginOne_57 (by decide) (fun hc => ?_) (fun hc => ?_)
        · replace hf := if_f hf hc
          refine lv_iconst (v := 1) hx hb dX11_beginOne_64 (by decide) ?_
          exact hj65_14 this (1 : Int32) S13 _ _ _ hf hR hS hE ok_this ok_this (lv_sub hl [0, 1] rfl)
        · replace hf := if_t hf hc
          refine lv_iconst (v := 0) hx hb dX11_beginOne_60 (by decide) ?_
          refine lv_goto (tgt := 65) hx hb dX11_beginOne_61 (by decide) ?_
          exact hj65_14 this (0 : Int32) S13 _ _ _ hf hR hS hE ok_this ok_this (lv_sub hl [0, 1] rfl)
      refine lv_icmp_eq (tgt := 51) hx hb dX11_beginOne_44 (by decide) (fun hc => ?_) (fun hc => ?_)
      · replace hf := if_t hf hc
        exact hj51_11 S10 _ _ _ hf hR hS hE ok_this (lv_sub hl [0, 2] rfl)
      · replace hf := if_f hf hc
        refine lv_iload_n hx hb dX11_beginOne_47 rfl (lv_at hl 2 rfl) ?_
        refine lv_if_lt (tgt := 94) hx hb dX11_beginOne_48 (by decide) (fun hc => ?_) (fun hc => ?_)
        · replace hf := if_t hf hc
          refine lv_aload_n hx hb dX11_beginOne_94 rfl (lv_at hl 0 rfl) ?_
          refine gf_RX11_111 hC hR ok_this dX11_beginOne_95 ?_
          refine lv_bipush (v := 40) hx hb dX11_beginOne_98 (by decide) ?_
          refine lv_icmp_ne (tgt := 110) hx hb dX11_beginOne_100 (by decide) (fun hc => ?_) (fun hc => ?_)
          · replace hf := if_f hf hc
            refine lv_aload_n hx hb dX11_beginOne_110 rfl (lv_at hl 0 rfl) ?_
            refine gf_RX11_111 hC hR ok_this dX11_beginOne_111 ?_
            refine lv_bipush (v := 45) hx hb dX11_beginOne_114 (by decide) ?_
            refine lv_icmp_ne (tgt := 125) hx hb dX11_beginOne_116 (by decide) (fun hc => ?_) (fun hc => ?_)
            · replace hf := if_f hf hc
              refine lv_aload_n hx hb dX11_beginOne_125 rfl (lv_at hl 0 rfl) ?_
              refine lv_bipush (v := 109) hx hb dX11_beginOne_126 (by decide) ?_
              refine lv_bipush (v := 105) hx hb dX11_beginOne_128 (by decide) ?_
              refine lv_bipush (v := 110) hx hb dX11_beginOne_130 (by decide) ?_
              obtain ⟨x44, S41, hc42, hf⟩ := cl_of hf
              refine cl_RX11_128 (As := [.int (109 : Int32), .int (105 : Int32), .int (110 : Int32)]) (rest := [.ref this]) hC hR hS (c_X11_w3 l G n (109 : Int32) (105 : Int32) (110 : Int32) S10 x44 S41 hc42 ) rfl ⟨Nat.le_of_ble_eq_true rfl, Nat.le_of_ble_eq_true rfl⟩ hl.1 rfl (Nat.le_of_ble_eq_true rfl) dX11_beginOne_132 (Nat.zero_le _) (Nat.zero_le _) (fun H locs hR hS hE43 => ?_)
              have ok_this := hE43 _ _ ok_this
              have hE := hE.tr hE43
              obtain ⟨x48, S45, hc46, hf⟩ := cl_of hf
              refine cl_RX11_183 (As := [.long x44]) (rest := []) hC hR hS (c_X11_isWord l G n this x44 S41 x48 S45 hc46 ok_this) ok_this rfl ⟨Nat.le_of_ble_eq_true rfl, Nat.le_of_ble_eq_true rfl⟩ hl.1 rfl (Nat.le_of_ble_eq_true rfl) dX11_beginOne_135 (Nat.zero_le _) (Nat.zero_le _) (fun H locs hR hS hE47 => ?_)
              have ok_this := hE47 _ _ ok_this
              have hE := hE.tr hE47
              refine lv_if_eq (tgt := 148) hx hb dX11_beginOne_138 (by decide) (fun hc => ?_) (fun hc => ?_)
              · replace hf := if_t hf hc
                refine lv_aload_n hx hb dX11_beginOne_148 rfl (lv_at hl 0 rfl) ?_
                refine lv_bipush (v := 109) hx hb dX11_beginOne_149 (by decide) ?_
                refine lv_bipush (v := 97) hx hb dX11_beginOne_151 (by decide) ?_
                refine lv_bipush (v := 120) hx hb dX11_beginOne_153 (by decide) ?_
                obtain ⟨x52, S49, hc50, hf⟩ := cl_of hf
                refine cl_RX11_128 (As := [.int (109 : Int32), .int (97 : Int32), .int (120 : Int32)]) (rest := [.ref this]) hC hR hS (c_X11_w3 l G n (109 : Int32) (97 : Int32) (120 : Int32) S45 x52 S49 hc50 ) rfl ⟨Nat.le_of_ble_eq_true rfl, Nat.le_of_ble_eq_true rfl⟩ hl.1 rfl (Nat.le_of_ble_eq_true rfl) dX11_beginOne_155 (Nat.zero_le _) (Nat.zero_le _) (fun H locs hR hS hE51 => ?_)
                have ok_this := hE51 _ _ ok_this
                have hE := hE.tr hE51
                obtain ⟨x56, S53, hc54, hf⟩ := cl_of hf
                refine cl_RX11_183 (As := [.long x52]) (rest := []) hC hR hS (c_X11_isWord l G n this x52 S49 x56 S53 hc54 ok_this) ok_this rfl ⟨Nat.le_of_ble_eq_true rfl, Nat.le_of_ble_eq_true rfl⟩ hl.1 rfl (Nat.le_of_ble_eq_true rfl) dX11_beginOne_158 (Nat.zero_le _) (Nat.zero_le _) (fun H locs hR hS hE55 => ?_)
                have ok_this := hE55 _ _ ok_this
                have hE := hE.tr hE55
                refine lv_if_eq (tgt := 171) hx hb dX11_beginOne_161 (by decide) (fun hc => ?_) (fun hc => ?_)
                · replace hf := if_t hf hc
                  refine lv_aload_n hx hb dX11_beginOne_171 rfl (lv_at hl 0 rfl) ?_
                  refine lv_bipush (v := 110) hx hb dX11_beginOne_172 (by decide) ?_
                  refine lv_bipush (v := 111) hx hb dX11_beginOne_174 (by decide) ?_
                  refine lv_bipush (v := 116) hx hb dX11_beginOne_176 (by decide) ?_
                  obtain ⟨x60, S57, hc58, hf⟩ := cl_of hf
                  refine cl_RX11_128 (As := [.int (110 : Int32), .int (111 : Int32), .int (116 : Int32)]) (rest := [.ref this]) hC hR hS (c_X11_w3 l G n (110 : Int32) (111 : Int32) (116 : Int32) S53 x60 S57 hc58 ) rfl ⟨Nat.le_of_ble_eq_true rfl, Nat.le_of_ble_eq_true rfl⟩ hl.1 rfl (Nat.le_of_ble_eq_true rfl) dX11_beginOne_178 (Nat.zero_le _) (Nat.zero_le _) (fun H locs hR hS hE59 => ?_)
                  have ok_this := hE59 _ _ ok_this
                  have hE := hE.tr hE59
                  obtain ⟨x64, S61, hc62, hf⟩ := cl_of hf
                  refine cl_RX11_183 (As := [.long x60]) (rest := []) hC hR hS (c_X11_isWord l G n this x60 S57 x64 S61 hc62 ok_this) ok_this rfl ⟨Nat.le_of_ble_eq_true rfl, Nat.le_of_ble_eq_true rfl⟩ hl.1 rfl (Nat.le_of_ble_eq_true rfl) dX11_beginOne_181 (Nat.zero_le _) (Nat.zero_le _) (fun H locs hR hS hE63 => ?_)
                  have ok_this := hE63 _ _ ok_this
                  have hE := hE.tr hE63
                  refine lv_if_eq (tgt := 204) hx hb dX11_beginOne_184 (by decide) (fun hc => ?_) (fun hc => ?_)
                  · replace hf := if_t hf hc
                    refine lv_iconst (v := 1) hx hb dX11_beginOne_204 (by decide) ?_
                    exact r_iret hC hR hS hE hf dX11_beginOne_205
                  · replace hf := if_f hf hc
                    refine lv_aload_n hx hb dX11_beginOne_187 rfl (lv_at hl 0 rfl) ?_
                    refine lv_iload_n hx hb dX11_beginOne_188 rfl (lv_at hl 1 rfl) ?_
                    obtain ⟨x68, S65, hc66, hf⟩ := cl_of hf
                    refine cl_RX11_187 (As := [.int a1]) (rest := []) hC hR hS (c_X11_isAskAhead l G n this a1 S61 x68 S65 hc66 ok_this) ok_this rfl ⟨Nat.le_of_ble_eq_true rfl, Nat.le_of_ble_eq_true rfl⟩ hl.1 rfl (Nat.le_of_ble_eq_true rfl) dX11_beginOne_189 (Nat.zero_le _) (Nat.zero_le _) (fun H locs hR hS hE67 => ?_)
                    have ok_this := hE67 _ _ ok_this
                    have hE := hE.tr hE67
                    refine lv_if_eq (tgt := 204) hx hb dX11_beginOne_192 (by decide) (fun hc => ?_) (fun hc => ?_)
                    · replace hf := if_t hf hc
                      refine lv_iconst (v := 1) hx hb dX11_beginOne_204 (by decide) ?_
                      exact r_iret hC hR hS hE hf dX11_beginOne_205
                    · replace hf := if_f hf hc
                      refine lv_aload_n hx hb dX11_beginOne_195 rfl (lv_at hl 0 rfl) ?_
                      refine lv_bipush (v := 20) hx hb dX11_beginOne_196 (by decide) ?_
                      obtain ⟨x72, S69, hc70, hf⟩ := cl_of hf
                      refine cl_RX11_180 (As := [.int (20 : Int32)]) (rest := []) hC hR hS (c_X11_opensBy l G n this (20 : Int32) S65 x72 S69 hc70 ok_this) ok_this rfl ⟨Nat.le_of_ble_eq_true rfl, Nat.le_of_ble_eq_true rfl⟩ hl.1 rfl (Nat.le_of_ble_eq_true rfl) dX11_beginOne_198 (Nat.zero_le _) (Nat.zero_le _) (fun H locs hR hS hE71 => ?_)
                      have ok_this := hE71 _ _ ok_this
                      have hE := hE.tr hE71
                      refine lv_goto (tgt := 205) hx hb dX11_beginOne_201 (by decide) ?_
                      exact r_iret hC hR hS hE hf dX11_beginOne_205
                · replace hf := if_f hf hc
                  refine lv_aload_n hx hb dX11_beginOne_164 rfl (lv_at hl 0 rfl) ?_
                  refine lv_bipush (v := 42) hx hb dX11_beginOne_165 (by decide) ?_
                  obtain ⟨x76, S73, hc74, hf⟩ := cl_of hf
                  refine cl_RX11_180 (As := [.int (42 : Int32)]) (rest := []) hC hR hS (c_X11_opensBy l G n this (42 : Int32) S53 x76 S73 hc74 ok_this) ok_this rfl ⟨Nat.le_of_ble_eq_true rfl, Nat.le_of_ble_eq_true rfl⟩ hl.1 rfl (Nat.le_of_ble_eq_true rfl) dX11_beginOne_167 (Nat.zero_le _) (Nat.zero_le _) (fun H locs hR hS hE75 => ?_)
                  have ok_this := hE75 _ _ ok_this
                  have hE := hE.tr hE75
                  exact r_iret hC hR hS hE hf dX11_beginOne_170
              · replace hf := if_f hf hc
                refine lv_aload_n hx hb dX11_beginOne_141 rfl (lv_at hl 0 rfl) ?_
                refine lv_bipush (v := 41) hx hb dX11_beginOne_142 (by decide) ?_
                obtain ⟨x80, S77, hc78, hf⟩ := cl_of hf
                refine cl_RX11_180 (As := [.int (41 : Int32)]) (rest := []) hC hR hS (c_X11_opensBy l G n this (41 : Int32) S45 x80 S77 hc78 ok_this) ok_this rfl ⟨Nat.le_of_ble_eq_true rfl, Nat.le_of_ble_eq_true rfl⟩ hl.1 rfl (Nat.le_of_ble_eq_true rfl) dX11_beginOne_144 (Nat.zero_le _) (Nat.zero_le _) (fun H locs hR hS hE79 => ?_)
                have ok_this := hE79 _ _ ok_this
                have hE := hE.tr hE79
                exact r_iret hC hR hS hE hf dX11_beginOne_147
            · replace hf := if_t hf hc
              refine lv_aload_n hx hb dX11_beginOne_119 rfl (lv_at hl 0 rfl) ?_
              refine lv_iconst (v := 2) hx hb dX11_beginOne_120 (by decide) ?_
              obtain ⟨x84, S81, hc82, hf⟩ := cl_of hf
              refine cl_RX11_180 (As := [.int (2 : Int32)]) (rest := []) hC hR hS (c_X11_opensBy l G n this (2 : Int32) S10 x84 S81 hc82 ok_this) ok_this rfl ⟨Nat.le_of_ble_eq_true rfl, Nat.le_of_ble_eq_true rfl⟩ hl.1 rfl (Nat.le_of_ble_eq_true rfl) dX11_beginOne_121 (Nat.zero_le _) (Nat.zero_le _) (fun H locs hR hS hE83 => ?_)
              have ok_this := hE83 _ _ ok_this
              have hE := hE.tr hE83
              exact r_iret hC hR hS hE hf dX11_beginOne_124
          · replace hf := if_t hf hc
            refine lv_aload_n hx hb dX11_beginOne_103 rfl (lv_at hl 0 rfl) ?_
            refine lv_bipush (v := 40) hx hb dX11_beginOne_104 (by decide) ?_
            obtain ⟨x88, S85, hc86, hf⟩ := cl_of hf
            refine cl_RX11_180 (As := [.int (40 : Int32)]) (rest := []) hC hR hS (c_X11_opensBy l G n this (40 : Int32) S10 x88 S85 hc86 ok_this) ok_this rfl ⟨Nat.le_of_ble_eq_true rfl, Nat.le_of_ble_eq_true rfl⟩ hl.1 rfl (Nat.le_of_ble_eq_true rfl) dX11_beginOne_106 (Nat.zero_le _) (Nat.zero_le _) (fun H locs hR hS hE87 => ?_)
            have ok_this := hE87 _ _ ok_this
            have hE := hE.tr hE87
            exact r_iret hC hR hS hE hf dX11_beginOne_109
        · replace hf := if_f hf hc
          exact hj51_11 S10 _ _ _ hf hR hS hE ok_this (lv_sub hl [0, 2] rfl)
    refine lv_if_lt (tgt := 39) hx hb dX11_beginOne_26 (by decide) (fun hc => ?_) (fun hc => ?_)
    · replace hf := if_t hf hc
      exact hj39_8 S4 _ _ _ hf hR hS hE ok_this (lv_sub hl [1, 2, 0] rfl)
    · replace hf := if_f hf hc
      refine lv_aload_n hx hb dX11_beginOne_29 rfl (lv_at hl 1 rfl) ?_
      refine lv_iload_n hx hb dX11_beginOne_30 rfl (lv_at hl 0 rfl) ?_
      obtain ⟨x93, S90, hc91, hf⟩ := cl_of hf
      refine cl_RX11_174 (As := [.int x7]) (rest := []) hC hR hS (c_X11_isOf l G n this x7 S4 x93 S90 hc91 ok_this) ok_this rfl ⟨Nat.le_of_ble_eq_true rfl, Nat.le_of_ble_eq_true rfl⟩ hl.1 rfl (Nat.le_of_ble_eq_true rfl) dX11_beginOne_31 (Nat.zero_le _) (Nat.zero_le _) (fun H locs hR hS hE92 => ?_)
      have ok_this := hE92 _ _ ok_this
      have hE := hE.tr hE92
      refine lv_if_ne (tgt := 39) hx hb dX11_beginOne_34 (by decide) (fun hc => ?_) (fun hc => ?_)
      · replace hf := if_f hf hc
        exact hj39_8 S90 _ _ _ hf hR hS hE ok_this (lv_sub hl [1, 2, 0] rfl)
      · replace hf := if_t hf hc
        refine lv_iconst (v := 5) hx hb dX11_beginOne_37 (by decide) ?_
        exact r_iret hC hR hS hE hf dX11_beginOne_38
  refine lv_icmp_ne (tgt := 20) hx hb dX11_beginOne_5 (by decide) (fun hc => ?_) (fun hc => ?_)
  · replace hf := if_f hf hc
    exact hj20_1 S _ _ _ hf hR hS hE ok_this (lv_sub hl [0, 1] rfl)
  · replace hf := if_t hf hc
    refine lv_aload_n hx hb dX11_beginOne_8 rfl (lv_at hl 0 rfl) ?_
    refine gf_RX11_117 hC hR ok_this dX11_beginOne_9 ?_
    refine lv_sipush (v := 9999) hx hb dX11_beginOne_12 (by decide) ?_
    refine lv_icmp_le (tgt := 20) hx hb dX11_beginOne_15 (by decide) (fun hc => ?_) (fun hc => ?_)
    · replace hf := if_t hf hc
      exact hj20_1 S _ _ _ hf hR hS hE ok_this (lv_sub hl [0, 1] rfl)
    · replace hf := if_f hf hc
      refine lv_iconst (v := 2) hx hb dX11_beginOne_18 (by decide) ?_
      exact r_iret hC hR hS hE hf dX11_beginOne_19
abbrev rX11_compareOf : Room := { frames := 0, cells := 0, slots := 0, locals := 0 }
def f_X11_compareOf (_n : Nat) (this : Nat) (S : MS) : Option (Int32 × MS) :=
  (if (mI S this 12) = (60 : Int32) then some ((10 : Int32), S) else (if (mI S this 12) = (4 : Int32) then some ((11 : Int32), S) else (if (mI S this 12) = (62 : Int32) then some ((12 : Int32), S) else (if (mI S this 12) = (5 : Int32) then some ((13 : Int32), S) else (if (mI S this 12) = (61 : Int32) then some ((14 : Int32), S) else (if (mI S this 12) = (35 : Int32) then some ((15 : Int32), S) else some ((-1 : Int32), S)))))))
set_option maxRecDepth 100000 in
set_option maxHeartbeats 4000000 in
theorem c_X11_compareOf (l : Launch) (G : Gx) (n : Nat) (this : Nat) (S : MS) (ro : Int32) (So : MS) (hf : f_X11_compareOf n this S = some (ro, So)) (ok_this : Ok S this 11) : Cn G l yX11_compareOf cX11_compareOf 1 (some .int) rX11_compareOf [.ref this] S (some (.int ro)) So := by
  refine Cn.of (by decide) (Nat.le_of_ble_eq_true rfl) ?_
  intro p e s m args below meth c hC hname hR ls hl
  have hC : Cx G RX11 cX11_compareOf 1 (some .int) p s m args meth c := hC
  have hl : lv_has ls 1 [(0, .ref this)] := hl
  have hx := hC.x
  have hb := hC.b
  have hS : va_S (gA G) s.heap s.heap [] := va_S.rf
  have hE : Ex S S := Ex.rf S
  unfold f_X11_compareOf at hf
  refine lv_aload_n hx hb dX11_compareOf_0 rfl (lv_at hl 0 rfl) ?_
  refine gf_RX11_111 hC hR ok_this dX11_compareOf_1 ?_
  refine lv_bipush (v := 60) hx hb dX11_compareOf_4 (by decide) ?_
  refine lv_icmp_ne (tgt := 14) hx hb dX11_compareOf_6 (by decide) (fun hc => ?_) (fun hc => ?_)
  · replace hf := if_f hf hc
    refine lv_aload_n hx hb dX11_compareOf_14 rfl (lv_at hl 0 rfl) ?_
    refine gf_RX11_111 hC hR ok_this dX11_compareOf_15 ?_
    refine lv_iconst (v := 4) hx hb dX11_compareOf_18 (by decide) ?_
    refine lv_icmp_ne (tgt := 27) hx hb dX11_compareOf_19 (by decide) (fun hc => ?_) (fun hc => ?_)
    · replace hf := if_f hf hc
      refine lv_aload_n hx hb dX11_compareOf_27 rfl (lv_at hl 0 rfl) ?_
      refine gf_RX11_111 hC hR ok_this dX11_compareOf_28 ?_
      refine lv_bipush (v := 62) hx hb dX11_compareOf_31 (by decide) ?_
      refine lv_icmp_ne (tgt := 41) hx hb dX11_compareOf_33 (by decide) (fun hc => ?_) (fun hc => ?_)
      · replace hf := if_f hf hc
        refine lv_aload_n hx hb dX11_compareOf_41 rfl (lv_at hl 0 rfl) ?_
        refine gf_RX11_111 hC hR ok_this dX11_compareOf_42 ?_
        refine lv_iconst (v := 5) hx hb dX11_compareOf_45 (by decide) ?_
        refine lv_icmp_ne (tgt := 54) hx hb dX11_compareOf_46 (by decide) (fun hc => ?_) (fun hc => ?_)
        · replace hf := if_f hf hc
          refine lv_aload_n hx hb dX11_compareOf_54 rfl (lv_at hl 0 rfl) ?_
          refine gf_RX11_111 hC hR ok_this dX11_compareOf_55 ?_
          refine lv_bipush (v := 61) hx hb dX11_compareOf_58 (by decide) ?_
          refine lv_icmp_ne (tgt := 68) hx hb dX11_compareOf_60 (by decide) (fun hc => ?_) (fun hc => ?_)
          · replace hf := if_f hf hc
            refine lv_aload_n hx hb dX11_compareOf_68 rfl (lv_at hl 0 rfl) ?_
            refine gf_RX11_111 hC hR ok_this dX11_compareOf_69 ?_
            refine lv_bipush (v := 35) hx hb dX11_compareOf_72 (by decide) ?_
            refine lv_icmp_ne (tgt := 82) hx hb dX11_compareOf_74 (by decide) (fun hc => ?_) (fun hc => ?_)
            · replace hf := if_f hf hc
              refine lv_iconst (v := -1) hx hb dX11_compareOf_82 (by decide) ?_
              exact r_iret hC hR hS hE hf dX11_compareOf_83
            · replace hf := if_t hf hc
              refine lv_bipush (v := 15) hx hb dX11_compareOf_77 (by decide) ?_
              refine lv_goto (tgt := 83) hx hb dX11_compareOf_79 (by decide) ?_
              exact r_iret hC hR hS hE hf dX11_compareOf_83
          · replace hf := if_t hf hc
            refine lv_bipush (v := 14) hx hb dX11_compareOf_63 (by decide) ?_
            refine lv_goto (tgt := 83) hx hb dX11_compareOf_65 (by decide) ?_
            exact r_iret hC hR hS hE hf dX11_compareOf_83
        · replace hf := if_t hf hc
          refine lv_bipush (v := 13) hx hb dX11_compareOf_49 (by decide) ?_
          refine lv_goto (tgt := 83) hx hb dX11_compareOf_51 (by decide) ?_
          exact r_iret hC hR hS hE hf dX11_compareOf_83
      · replace hf := if_t hf hc
        refine lv_bipush (v := 12) hx hb dX11_compareOf_36 (by decide) ?_
        refine lv_goto (tgt := 83) hx hb dX11_compareOf_38 (by decide) ?_
        exact r_iret hC hR hS hE hf dX11_compareOf_83
    · replace hf := if_t hf hc
      refine lv_bipush (v := 11) hx hb dX11_compareOf_22 (by decide) ?_
      refine lv_goto (tgt := 83) hx hb dX11_compareOf_24 (by decide) ?_
      exact r_iret hC hR hS hE hf dX11_compareOf_83
  · replace hf := if_t hf hc
    refine lv_bipush (v := 10) hx hb dX11_compareOf_9 (by decide) ?_
    refine lv_goto (tgt := 83) hx hb dX11_compareOf_11 (by decide) ?_
    exact r_iret hC hR hS hE hf dX11_compareOf_83
abbrev rX11_betweenOf : Room := { frames := 2, cells := 0, slots := 0, locals := 41 }
def f_X11_betweenOf (n : Nat) (this : Nat) (a1 : Int32) (S : MS) : Option (Int32 × MS) :=
  (if (mI S this 12) = (43 : Int32) then some ((3 : Int32), S) else (if (mI S this 12) = (45 : Int32) then some ((4 : Int32), S) else (if (mI S this 12) = (42 : Int32) then some ((5 : Int32), S) else (if (mI S this 12) = (47 : Int32) then some ((6 : Int32), S) else (if a1 = 0 then some ((-1 : Int32), S) else cl (f_X11_marker n this S) fun x4 S1 => (if x4 < 0 then cl (f_X11_isCompared n this S1) fun x8 S5 => (if x8 = 0 then cl (f_X11_compareOf n this S5) fun x20 S17 => some (x20, S17) else cl (f_X11_w3 n (97 : Int32) (110 : Int32) (100 : Int32) S5) fun x12 S9 => cl (f_X11_isWord n this x12 S9) fun x16 S13 => (if x16 = 0 then (if (mI S13 this 12) = (2 : Int32) then (if (lg_cmp (mJ S13 this 14) (28530 : Int64)) = 0 then some ((22 : Int32), S13) else some ((-1 : Int32), S13)) else some ((-1 : Int32), S13)) else some ((21 : Int32), S13))) else some ((-1 : Int32), S1)))))))
set_option maxRecDepth 100000 in
set_option maxHeartbeats 4000000 in
theorem c_X11_betweenOf (l : Launch) (G : Gx) (n : Nat) (this : Nat) (a1 : Int32) (S : MS) (ro : Int32) (So : MS) (hf : f_X11_betweenOf n this a1 S = some (ro, So)) (ok_this : Ok S this 11) : Cn G l yX11_betweenOf cX11_betweenOf 2 (some .int) rX11_betweenOf [.ref this, .int a1] S (some (.int ro)) So := by
  refine Cn.of (by decide) (Nat.le_of_ble_eq_true rfl) ?_
  intro p e s m args below meth c hC hname hR ls hl
  have hC : Cx G RX11 cX11_betweenOf 2 (some .int) p s m args meth c := hC
  have hl : lv_has ls 2 [(0, .ref this), (1, .int a1)] := hl
  have hx := hC.x
  have hb := hC.b
  have hS : va_S (gA G) s.heap s.heap [] := va_S.rf
  have hE : Ex S S := Ex.rf S
  unfold f_X11_betweenOf at hf
  refine lv_aload_n hx hb dX11_betweenOf_0 rfl (lv_at hl 0 rfl) ?_
  refine gf_RX11_111 hC hR ok_this dX11_betweenOf_1 ?_
  refine lv_bipush (v := 43) hx hb dX11_betweenOf_4 (by decide) ?_
  refine lv_icmp_ne (tgt := 11) hx hb dX11_betweenOf_6 (by decide) (fun hc => ?_) (fun hc => ?_)
  · replace hf := if_f hf hc
    refine lv_aload_n hx hb dX11_betweenOf_11 rfl (lv_at hl 0 rfl) ?_
    refine gf_RX11_111 hC hR ok_this dX11_betweenOf_12 ?_
    refine lv_bipush (v := 45) hx hb dX11_betweenOf_15 (by decide) ?_
    refine lv_icmp_ne (tgt := 22) hx hb dX11_betweenOf_17 (by decide) (fun hc => ?_) (fun hc => ?_)
    · replace hf := if_f hf hc
      refine lv_aload_n hx hb dX11_betweenOf_22 rfl (lv_at hl 0 rfl) ?_
      refine gf_RX11_111 hC hR ok_this dX11_betweenOf_23 ?_
      refine lv_bipush (v := 42) hx hb dX11_betweenOf_26 (by decide) ?_
      refine lv_icmp_ne (tgt := 33) hx hb dX11_betweenOf_28 (by decide) (fun hc => ?_) (fun hc => ?_)
      · replace hf := if_f hf hc
        refine lv_aload_n hx hb dX11_betweenOf_33 rfl (lv_at hl 0 rfl) ?_
        refine gf_RX11_111 hC hR ok_this dX11_betweenOf_34 ?_
        refine lv_bipush (v := 47) hx hb dX11_betweenOf_37 (by decide) ?_
        refine lv_icmp_ne (tgt := 45) hx hb dX11_betweenOf_39 (by decide) (fun hc => ?_) (fun hc => ?_)
        · replace hf := if_f hf hc
          refine lv_iload_n hx hb dX11_betweenOf_45 rfl (lv_at hl 1 rfl) ?_
          refine lv_if_eq (tgt := 56) hx hb dX11_betweenOf_46 (by decide) (fun hc => ?_) (fun hc => ?_)
          · replace hf := if_t hf hc
            refine lv_iconst (v := -1) hx hb dX11_betweenOf_56 (by decide) ?_
            exact r_iret hC hR hS hE hf dX11_betweenOf_57
          · replace hf := if_f hf hc
            refine lv_aload_n hx hb dX11_betweenOf_49 rfl (lv_at hl 0 rfl) ?_
            obtain ⟨x4, S1, hc2, hf⟩ := cl_of hf
            refine cl_RX11_161 (As := []) (rest := []) hC hR hS (c_X11_marker l G n this S x4 S1 hc2 ok_this) ok_this rfl ⟨Nat.le_of_ble_eq_true rfl, Nat.le_of_ble_eq_true rfl⟩ hl.1 rfl (Nat.le_of_ble_eq_true rfl) dX11_betweenOf_50 (Nat.zero_le _) (Nat.zero_le _) (fun H locs hR hS hE3 => ?_)
            have ok_this := hE3 _ _ ok_this
            have hE := hE.tr hE3
            refine lv_if_lt (tgt := 58) hx hb dX11_betweenOf_53 (by decide) (fun hc => ?_) (fun hc => ?_)
            · replace hf := if_t hf hc
              refine lv_aload_n hx hb dX11_betweenOf_58 rfl (lv_at hl 0 rfl) ?_
              obtain ⟨x8, S5, hc6, hf⟩ := cl_of hf
              refine cl_RX11_191 (As := []) (rest := []) hC hR hS (c_X11_isCompared l G n this S1 x8 S5 hc6 ok_this) ok_this rfl ⟨Nat.le_of_ble_eq_true rfl, Nat.le_of_ble_eq_true rfl⟩ hl.1 rfl (Nat.le_of_ble_eq_true rfl) dX11_betweenOf_59 (Nat.zero_le _) (Nat.zero_le _) (fun H locs hR hS hE7 => ?_)
              have ok_this := hE7 _ _ ok_this
              have hE := hE.tr hE7
              refine lv_if_ne (tgt := 70) hx hb dX11_betweenOf_62 (by decide) (fun hc => ?_) (fun hc => ?_)
              · replace hf := if_f hf hc
                refine lv_aload_n hx hb dX11_betweenOf_70 rfl (lv_at hl 0 rfl) ?_
                refine lv_bipush (v := 97) hx hb dX11_betweenOf_71 (by decide) ?_
                refine lv_bipush (v := 110) hx hb dX11_betweenOf_73 (by decide) ?_
                refine lv_bipush (v := 100) hx hb dX11_betweenOf_75 (by decide) ?_
                obtain ⟨x12, S9, hc10, hf⟩ := cl_of hf
                refine cl_RX11_128 (As := [.int (97 : Int32), .int (110 : Int32), .int (100 : Int32)]) (rest := [.ref this]) hC hR hS (c_X11_w3 l G n (97 : Int32) (110 : Int32) (100 : Int32) S5 x12 S9 hc10 ) rfl ⟨Nat.le_of_ble_eq_true rfl, Nat.le_of_ble_eq_true rfl⟩ hl.1 rfl (Nat.le_of_ble_eq_true rfl) dX11_betweenOf_77 (Nat.zero_le _) (Nat.zero_le _) (fun H locs hR hS hE11 => ?_)
                have ok_this := hE11 _ _ ok_this
                have hE := hE.tr hE11
                obtain ⟨x16, S13, hc14, hf⟩ := cl_of hf
                refine cl_RX11_183 (As := [.long x12]) (rest := []) hC hR hS (c_X11_isWord l G n this x12 S9 x16 S13 hc14 ok_this) ok_this rfl ⟨Nat.le_of_ble_eq_true rfl, Nat.le_of_ble_eq_true rfl⟩ hl.1 rfl (Nat.le_of_ble_eq_true rfl) dX11_betweenOf_80 (Nat.zero_le _) (Nat.zero_le _) (fun H locs hR hS hE15 => ?_)
                have ok_this := hE15 _ _ ok_this
                have hE := hE.tr hE15
                refine lv_if_eq (tgt := 91) hx hb dX11_betweenOf_83 (by decide) (fun hc => ?_) (fun hc => ?_)
                · replace hf := if_t hf hc
                  refine lv_aload_n hx hb dX11_betweenOf_91 rfl (lv_at hl 0 rfl) ?_
                  refine gf_RX11_111 hC hR ok_this dX11_betweenOf_92 ?_
                  refine lv_iconst (v := 2) hx hb dX11_betweenOf_95 (by decide) ?_
                  refine lv_icmp_ne (tgt := 115) hx hb dX11_betweenOf_96 (by decide) (fun hc => ?_) (fun hc => ?_)
                  · replace hf := if_f hf hc
                    refine lv_iconst (v := -1) hx hb dX11_betweenOf_115 (by decide) ?_
                    exact r_iret hC hR hS hE hf dX11_betweenOf_116
                  · replace hf := if_t hf hc
                    refine lv_aload_n hx hb dX11_betweenOf_99 rfl (lv_at hl 0 rfl) ?_
                    refine gf_RX11_124 hC hR ok_this dX11_betweenOf_100 ?_
                    refine lv_ldc2 (v := 28530) hx hb hC.ow (hC.ts _ (bg24 _ (List.mem_of_getElem? (i := 21) rfl))) dX11_betweenOf_103 ?_
                    refine W.lcmp hx hb dX11_betweenOf_106 ?_
                    refine lv_if_ne (tgt := 115) hx hb dX11_betweenOf_107 (by decide) (fun hc => ?_) (fun hc => ?_)
                    · replace hf := if_f hf hc
                      refine lv_iconst (v := -1) hx hb dX11_betweenOf_115 (by decide) ?_
                      exact r_iret hC hR hS hE hf dX11_betweenOf_116
                    · replace hf := if_t hf hc
                      refine lv_bipush (v := 22) hx hb dX11_betweenOf_110 (by decide) ?_
                      refine lv_goto (tgt := 116) hx hb dX11_betweenOf_112 (by decide) ?_
                      exact r_iret hC hR hS hE hf dX11_betweenOf_116
                · replace hf := if_f hf hc
                  refine lv_bipush (v := 21) hx hb dX11_betweenOf_86 (by decide) ?_
                  refine lv_goto (tgt := 116) hx hb dX11_betweenOf_88 (by decide) ?_
                  exact r_iret hC hR hS hE hf dX11_betweenOf_116
              · replace hf := if_t hf hc
                refine lv_aload_n hx hb dX11_betweenOf_65 rfl (lv_at hl 0 rfl) ?_
                obtain ⟨x20, S17, hc18, hf⟩ := cl_of hf
                refine cl_RX11_195 (As := []) (rest := []) hC hR hS (c_X11_compareOf l G n this S5 x20 S17 hc18 ok_this) ok_this rfl ⟨Nat.le_of_ble_eq_true rfl, Nat.le_of_ble_eq_true rfl⟩ hl.1 rfl (Nat.le_of_ble_eq_true rfl) dX11_betweenOf_66 (Nat.zero_le _) (Nat.zero_le _) (fun H locs hR hS hE19 => ?_)
                have ok_this := hE19 _ _ ok_this
                have hE := hE.tr hE19
                exact r_iret hC hR hS hE hf dX11_betweenOf_69
            · replace hf := if_f hf hc
              refine lv_iconst (v := -1) hx hb dX11_betweenOf_56 (by decide) ?_
              exact r_iret hC hR hS hE hf dX11_betweenOf_57
        · replace hf := if_t hf hc
          refine lv_bipush (v := 6) hx hb dX11_betweenOf_42 (by decide) ?_
          exact r_iret hC hR hS hE hf dX11_betweenOf_44
      · replace hf := if_t hf hc
        refine lv_iconst (v := 5) hx hb dX11_betweenOf_31 (by decide) ?_
        exact r_iret hC hR hS hE hf dX11_betweenOf_32
    · replace hf := if_t hf hc
      refine lv_iconst (v := 4) hx hb dX11_betweenOf_20 (by decide) ?_
      exact r_iret hC hR hS hE hf dX11_betweenOf_21
  · replace hf := if_t hf hc
    refine lv_iconst (v := 3) hx hb dX11_betweenOf_9 (by decide) ?_
    exact r_iret hC hR hS hE hf dX11_betweenOf_10
abbrev rX11_behindOne : Room := { frames := 3, cells := 0, slots := 0, locals := 64 }
def f_X11_behindOne (n : Nat) (this : Nat) (a1 : Int32) (S : MS) : Option (Int32 × MS) :=
  cl (f_X11_betweenOf n this a1 S) fun x4 S1 => cl (f_X11_marker n this S1) fun x8 S5 => jn (fun (x11 : Int32) (S12 : MS) => (if x4 < 0 then jn (fun (S15 : MS) => (if (mI S15 this 12) = (44 : Int32) then jn (fun (S18 : MS) => cv (f_X11_settle n this (1 : Int32) S18) fun S19 => gR S19 (mR S19 this 19) 12 fun q22 => ck (inb x8 (mN S19 q22)) (bd (sI S19 q22 x8.toNatClampNeg (x11 + (2 : Int32))) fun S25 => zb (0 : Int32) (bd (sI S25 this 22 (0 : Int32)) fun S27 => cv (f_X11_nextToken n this S27) fun S30 => zb (1 : Int32) (some ((1 : Int32), S30))))) fun j156_17 => (if x11 = (41 : Int32) then j156_17 S15 else (if x11 = (42 : Int32) then j156_17 S15 else zb (0 : Int32) (some ((0 : Int32), S15)))) else zb (0 : Int32) (some ((0 : Int32), S15)))) fun j133_14 => (if (mI S12 this 12) = (41 : Int32) then jn (fun (S36 : MS) => cv (f_X11_settle n this (1 : Int32) S36) fun S37 => bd (sI S37 this 20 ((mI S37 this 20) - (1 : Int32))) fun S40 => bd (sI S40 this 21 ((mI S40 this 21) - (1 : Int32))) fun S42 => (if x11 < (43 : Int32) then cv (f_X11_whole n this S42) fun S44 => cv (f_X11_nextToken n this S44) fun S47 => zb (1 : Int32) (some ((1 : Int32), S47)) else jn (fun (q52 : Nat) (x53 : Int32) (S54 : MS) => cv (f_X11_emit n q52 x53 (0 : Int32) S54) fun S55 => cv (f_X11_whole n this S55) fun S58 => cv (f_X11_nextToken n this S58) fun S61 => zb (1 : Int32) (some ((1 : Int32), S61))) fun j122_51 => (if x11 = (43 : Int32) then j122_51 this (7 : Int32) S42 else j122_51 this (8 : Int32) S42))) fun j75_35 => (if x11 = (40 : Int32) then j75_35 S12 else (if x11 < (43 : Int32) then j133_14 S12 else j75_35 S12)) else j133_14 S12) else cl (f_X11_rank n x4 S12) fun x72 S69 => cv (f_X11_settle n this x72 S69) fun S73 => cv (f_X11_push n this x4 S73) fun S76 => zb (0 : Int32) (bd (sI S76 this 22 (0 : Int32)) fun S79 => cv (f_X11_nextToken n this S79) fun S82 => zb (1 : Int32) (some ((1 : Int32), S82))))) fun j25_10 => (if 0 ≤ x8 then gR S5 (mR S5 this 19) 12 fun q85 => ck (inb x8 (mN S5 q85)) (j25_10 (mI S5 q85 x8.toNatClampNeg) S5) else j25_10 (-1 : Int32) S5)
set_option maxRecDepth 100000 in
set_option maxHeartbeats 4000000 in
theorem c_X11_behindOne (l : Launch) (G : Gx) (n : Nat) (this : Nat) (a1 : Int32) (S : MS) (ro : Int32) (So : MS) (hf : f_X11_behindOne n this a1 S = some (ro, So)) (ok_this : Ok S this 11) : Cn G l yX11_behindOne cX11_behindOne 5 (some .boolean) rX11_behindOne [.ref this, .int a1] S (some (.int ro)) So := by
  refine Cn.of (by decide) (Nat.le_of_ble_eq_true rfl) ?_
  intro p e s m args below meth c hC hname hR ls hl
  have hC : Cx G RX11 cX11_behindOne 5 (some .boolean) p s m args meth c := hC
  have hl : lv_has ls 5 [(0, .ref this), (1, .int a1)] := hl
  have hx := hC.x
  have hb := hC.b
  have hS : va_S (gA G) s.heap s.heap [] := va_S.rf
  have hE : Ex S S := Ex.rf S
  unfold f_X11_behindOne at hf
  refine lv_aload_n hx hb dX11_behindOne_0 rfl (lv_at hl 0 rfl) ?_
  refine lv_iload_n hx hb dX11_behindOne_1 rfl (lv_at hl 1 rfl) ?_
  obtain ⟨x4, S1, hc2, hf⟩ := cl_of hf
  refine cl_RX11_200 (As := [.int a1]) (rest := []) hC hR hS (c_X11_betweenOf l G n this a1 S x4 S1 hc2 ok_this) ok_this rfl ⟨Nat.le_of_ble_eq_true rfl, Nat.le_of_ble_eq_true rfl⟩ hl.1 rfl (Nat.le_of_ble_eq_true rfl) dX11_behindOne_2 (Nat.zero_le _) (Nat.zero_le _) (fun H locs hR hS hE3 => ?_)
  have ok_this := hE3 _ _ ok_this
  have hE := hE.tr hE3
  refine lv_istore_n (lv' := [(2, .int x4), (0, .ref this), (1, .int a1)]) hx hb dX11_behindOne_5 rfl hl (by decide) rfl (fun ls hl => ?_)
  refine lv_aload_n hx hb dX11_behindOne_6 rfl (lv_at hl 1 rfl) ?_
  obtain ⟨x8, S5, hc6, hf⟩ := cl_of hf
  refine cl_RX11_161 (As := []) (rest := []) hC hR hS (c_X11_marker l G n this S1 x8 S5 hc6 ok_this) ok_this rfl ⟨Nat.le_of_ble_eq_true rfl, Nat.le_of_ble_eq_true rfl⟩ hl.1 rfl (Nat.le_of_ble_eq_true rfl) dX11_behindOne_7 (Nat.zero_le _) (Nat.zero_le _) (fun H locs hR hS hE7 => ?_)
  have ok_this := hE7 _ _ ok_this
  have hE := hE.tr hE7
  refine lv_istore_n (lv' := [(3, .int x8), (2, .int x4), (0, .ref this), (1, .int a1)]) hx hb dX11_behindOne_10 rfl hl (by decide) rfl (fun ls hl => ?_)
  refine lv_iload_n hx hb dX11_behindOne_11 rfl (lv_at hl 0 rfl) ?_
  obtain ⟨j25_10, ej25_10, hf⟩ := jn_of2 hf
  have hj25_9 : ∀ (x11 : Int32) (S12 : MS) (H : Heap) (locs : List Loc) (ls : Array Slot), j25_10 x11 S12 = some (ro, So) → Rp G S12 H → va_S (gA G) s.heap H locs → Ex S S12 → Ok S12 this 11 → lv_has ls 5 [(0, .ref this), (2, .int x4), (3, .int x8)] → W p l e rX11_behindOne s m args below meth c H locs 0 0 (MQ below (Qn G S (some (.int ro)) So) args s 0 0 (gA G)) (F0 m 25 ls [.int x11]) := by
    intro x11 S12 H locs ls hf hR hS hE ok_this hl
    rw [ej25_10] at hf
    refine lv_istore (lv' := [(4, .int x11), (0, .ref this), (2, .int x4), (3, .int x8)]) hx hb dX11_behindOne_25 hl (by decide) rfl (fun ls hl => ?_)
    refine lv_iload_n hx hb dX11_behindOne_27 rfl (lv_at hl 2 rfl) ?_
    refine lv_if_lt (tgt := 52) hx hb dX11_behindOne_28 (by decide) (fun hc => ?_) (fun hc => ?_)
    · replace hf := if_t hf hc
      refine lv_aload_n hx hb dX11_behindOne_52 rfl (lv_at hl 1 rfl) ?_
      refine gf_RX11_111 hC hR ok_this dX11_behindOne_53 ?_
      refine lv_bipush (v := 41) hx hb dX11_behindOne_56 (by decide) ?_
      obtain ⟨j133_14, ej133_14, hf⟩ := jn_of1 hf
      have hj133_13 : ∀ (S15 : MS) (H : Heap) (locs : List Loc) (ls : Array Slot), j133_14 S15 = some (ro, So) → Rp G S15 H → va_S (gA G) s.heap H locs → Ex S S15 → Ok S15 this 11 → lv_has ls 5 [(0, .ref this), (3, .int x8), (4, .int x11)] → W p l e rX11_behindOne s m args below meth c H locs 0 0 (MQ below (Qn G S (some (.int ro)) So) args s 0 0 (gA G)) (F0 m 133 ls []) := by
        intro S15 H locs ls hf hR hS hE ok_this hl
        rw [ej133_14] at hf
        refine lv_aload_n hx hb dX11_behindOne_133 rfl (lv_at hl 0 rfl) ?_
        refine gf_RX11_111 hC hR ok_this dX11_behindOne_134 ?_
        refine lv_bipush (v := 44) hx hb dX11_behindOne_137 (by decide) ?_
        refine lv_icmp_ne (tgt := 179) hx hb dX11_behindOne_139 (by decide) (fun hc => ?_) (fun hc => ?_)
        · replace hf := if_f hf hc
          refine lv_iconst (v := 0) hx hb dX11_behindOne_179 (by decide) ?_
          exact r_zret hC hR hS hE hf dX11_behindOne_180
        · replace hf := if_t hf hc
          refine lv_iload hx hb dX11_behindOne_142 (lv_at hl 2 rfl) ?_
          refine lv_bipush (v := 41) hx hb dX11_behindOne_144 (by decide) ?_
          obtain ⟨j156_17, ej156_17, hf⟩ := jn_of1 hf
          have hj156_16 : ∀ (S18 : MS) (H : Heap) (locs : List Loc) (ls : Array Slot), j156_17 S18 = some (ro, So) → Rp G S18 H → va_S (gA G) s.heap H locs → Ex S S18 → Ok S18 this 11 → lv_has ls 5 [(0, .ref this), (3, .int x8), (4, .int x11)] → W p l e rX11_behindOne s m args below meth c H locs 0 0 (MQ below (Qn G S (some (.int ro)) So) args s 0 0 (gA G)) (F0 m 156 ls []) := by
            intro S18 H locs ls hf hR hS hE ok_this hl
            rw [ej156_17] at hf
            refine lv_aload_n hx hb dX11_behindOne_156 rfl (lv_at hl 0 rfl) ?_
            refine lv_iconst (v := 1) hx hb dX11_behindOne_157 (by decide) ?_
            obtain ⟨S19, hc20, hf⟩ := cv_of hf
            refine cl_RX11_158 (As := [.int (1 : Int32)]) (rest := []) hC hR hS (c_X11_settle l G n this (1 : Int32) S18 S19 hc20 ok_this) ok_this rfl ⟨Nat.le_of_ble_eq_true rfl, Nat.le_of_ble_eq_true rfl⟩ hl.1 rfl (Nat.le_of_ble_eq_true rfl) dX11_behindOne_158 (Nat.zero_le _) (Nat.zero_le _) (fun H locs hR hS hE21 => ?_)
            have ok_this := hE21 _ _ ok_this
            have hE := hE.tr hE21
            refine lv_aload_n hx hb dX11_behindOne_161 rfl (lv_at hl 0 rfl) ?_
            obtain ⟨q22, hq23, ok_q22, hf⟩ := gR_of hf
            refine gf_RX11_26 hC hR ok_this hq23 dX11_behindOne_162 ?_
            refine lv_iload_n hx hb dX11_behindOne_165 rfl (lv_at hl 1 rfl) ?_
            refine lv_iload hx hb dX11_behindOne_166 (lv_at hl 2 rfl) ?_
            refine lv_iconst (v := 2) hx hb dX11_behindOne_168 (by decide) ?_
            refine lv_iadd hx hb dX11_behindOne_169 ?_
            obtain ⟨hi24, hf⟩ := ck_of hf
            refine rB_iast hC hR hS ok_q22 hi24 dX11_behindOne_170 hf (fun S25 H locs hf hR hS hE26 => ?_)
            have ok_this := hE26 _ _ ok_this
            have ok_q22 := hE26 _ _ ok_q22
            have hE := hE.tr hE26
            refine lv_aload_n hx hb dX11_behindOne_171 rfl (lv_at hl 0 rfl) ?_
            refine lv_iconst (v := 0) hx hb dX11_behindOne_172 (by decide) ?_
            obtain ⟨hz28, hf⟩ := zb_of hf
            refine pf_RX11_154 hC hR hS ok_this hz28 dX11_behindOne_173 hf (fun S27 H locs hf hR hS hE29 => ?_)
            have ok_this := hE29 _ _ ok_this
            have ok_q22 := hE29 _ _ ok_q22
            have hE := hE.tr hE29
            refine lv_goto (tgt := 181) hx hb dX11_behindOne_176 (by decide) ?_
            refine lv_aload_n hx hb dX11_behindOne_181 rfl (lv_at hl 0 rfl) ?_
            obtain ⟨S30, hc31, hf⟩ := cv_of hf
            refine cl_RX11_165 (As := []) (rest := []) hC hR hS (c_X11_nextToken l G n this S27 S30 hc31 ok_this) ok_this rfl ⟨Nat.le_of_ble_eq_true rfl, Nat.le_of_ble_eq_true rfl⟩ hl.1 rfl (Nat.le_of_ble_eq_true rfl) dX11_behindOne_182 (Nat.zero_le _) (Nat.zero_le _) (fun H locs hR hS hE32 => ?_)
            have ok_this := hE32 _ _ ok_this
            have ok_q22 := hE32 _ _ ok_q22
            have hE := hE.tr hE32
            refine lv_iconst (v := 1) hx hb dX11_behindOne_185 (by decide) ?_
            exact r_zret hC hR hS hE hf dX11_behindOne_186
          refine lv_icmp_eq (tgt := 156) hx hb dX11_behindOne_146 (by decide) (fun hc => ?_) (fun hc => ?_)
          · replace hf := if_t hf hc
            exact hj156_16 S15 _ _ _ hf hR hS hE ok_this (lv_sub hl [0, 1, 2] rfl)
          · replace hf := if_f hf hc
            refine lv_iload hx hb dX11_behindOne_149 (lv_at hl 2 rfl) ?_
            refine lv_bipush (v := 42) hx hb dX11_behindOne_151 (by decide) ?_
            refine lv_icmp_ne (tgt := 179) hx hb dX11_behindOne_153 (by decide) (fun hc => ?_) (fun hc => ?_)
            · replace hf := if_f hf hc
              refine lv_iconst (v := 0) hx hb dX11_behindOne_179 (by decide) ?_
              exact r_zret hC hR hS hE hf dX11_behindOne_180
            · replace hf := if_t hf hc
              exact hj156_16 S15 _ _ _ hf hR hS hE ok_this (lv_sub hl [0, 1, 2] rfl)
      refine lv_icmp_ne (tgt := 133) hx hb dX11_behindOne_58 (by decide) (fun hc => ?_) (fun hc => ?_)
      · replace hf := if_f hf hc
        exact hj133_13 S12 _ _ _ hf hR hS hE ok_this (lv_sub hl [1, 3, 0] rfl)
      · replace hf := if_t hf hc
        refine lv_iload hx hb dX11_behindOne_61 (lv_at hl 0 rfl) ?_
        refine lv_bipush (v := 40) hx hb dX11_behindOne_63 (by decide) ?_
        obtain ⟨j75_35, ej75_35, hf⟩ := jn_of1 hf
        have hj75_34 : ∀ (S36 : MS) (H : Heap) (locs : List Loc) (ls : Array Slot), j75_35 S36 = some (ro, So) → Rp G S36 H → va_S (gA G) s.heap H locs → Ex S S36 → Ok S36 this 11 → lv_has ls 5 [(0, .ref this), (4, .int x11)] → W p l e rX11_behindOne s m args below meth c H locs 0 0 (MQ below (Qn G S (some (.int ro)) So) args s 0 0 (gA G)) (F0 m 75 ls []) := by
          intro S36 H locs ls hf hR hS hE ok_this hl
          rw [ej75_35] at hf
          refine lv_aload_n hx hb dX11_behindOne_75 rfl (lv_at hl 0 rfl) ?_
          refine lv_iconst (v := 1) hx hb dX11_behindOne_76 (by decide) ?_
          obtain ⟨S37, hc38, hf⟩ := cv_of hf
          refine cl_RX11_158 (As := [.int (1 : Int32)]) (rest := []) hC hR hS (c_X11_settle l G n this (1 : Int32) S36 S37 hc38 ok_this) ok_this rfl ⟨Nat.le_of_ble_eq_true rfl, Nat.le_of_ble_eq_true rfl⟩ hl.1 rfl (Nat.le_of_ble_eq_true rfl) dX11_behindOne_77 (Nat.zero_le _) (Nat.zero_le _) (fun H locs hR hS hE39 => ?_)
          have ok_this := hE39 _ _ ok_this
          have hE := hE.tr hE39
          refine lv_aload_n hx hb dX11_behindOne_80 rfl (lv_at hl 0 rfl) ?_
          refine lv_dup hx hb dX11_behindOne_81 rfl ?_
          refine gf_RX11_142 hC hR ok_this dX11_behindOne_82 ?_
          refine lv_iconst (v := 1) hx hb dX11_behindOne_85 (by decide) ?_
          refine lv_isub hx hb dX11_behindOne_86 ?_
          refine pf_RX11_142 hC hR hS ok_this dX11_behindOne_87 hf (fun S40 H locs hf hR hS hE41 => ?_)
          have ok_this := hE41 _ _ ok_this
          have hE := hE.tr hE41
          refine lv_aload_n hx hb dX11_behindOne_90 rfl (lv_at hl 0 rfl) ?_
          refine lv_dup hx hb dX11_behindOne_91 rfl ?_
          refine gf_RX11_151 hC hR ok_this dX11_behindOne_92 ?_
          refine lv_iconst (v := 1) hx hb dX11_behindOne_95 (by decide) ?_
          refine lv_isub hx hb dX11_behindOne_96 ?_
          refine pf_RX11_151 hC hR hS ok_this dX11_behindOne_97 hf (fun S42 H locs hf hR hS hE43 => ?_)
          have ok_this := hE43 _ _ ok_this
          have hE := hE.tr hE43
          refine lv_iload hx hb dX11_behindOne_100 (lv_at hl 1 rfl) ?_
          refine lv_bipush (v := 43) hx hb dX11_behindOne_102 (by decide) ?_
          refine lv_icmp_lt (tgt := 126) hx hb dX11_behindOne_104 (by decide) (fun hc => ?_) (fun hc => ?_)
          · replace hf := if_t hf hc
            refine lv_aload_n hx hb dX11_behindOne_126 rfl (lv_at hl 0 rfl) ?_
            obtain ⟨S44, hc45, hf⟩ := cv_of hf
            refine cl_RX11_177 (As := []) (rest := []) hC hR hS (c_X11_whole l G n this S42 S44 hc45 ok_this) ok_this rfl ⟨Nat.le_of_ble_eq_true rfl, Nat.le_of_ble_eq_true rfl⟩ hl.1 rfl (Nat.le_of_ble_eq_true rfl) dX11_behindOne_127 (Nat.zero_le _) (Nat.zero_le _) (fun H locs hR hS hE46 => ?_)
            have ok_this := hE46 _ _ ok_this
            have hE := hE.tr hE46
            refine lv_goto (tgt := 181) hx hb dX11_behindOne_130 (by decide) ?_
            refine lv_aload_n hx hb dX11_behindOne_181 rfl (lv_at hl 0 rfl) ?_
            obtain ⟨S47, hc48, hf⟩ := cv_of hf
            refine cl_RX11_165 (As := []) (rest := []) hC hR hS (c_X11_nextToken l G n this S44 S47 hc48 ok_this) ok_this rfl ⟨Nat.le_of_ble_eq_true rfl, Nat.le_of_ble_eq_true rfl⟩ hl.1 rfl (Nat.le_of_ble_eq_true rfl) dX11_behindOne_182 (Nat.zero_le _) (Nat.zero_le _) (fun H locs hR hS hE49 => ?_)
            have ok_this := hE49 _ _ ok_this
            have hE := hE.tr hE49
            refine lv_iconst (v := 1) hx hb dX11_behindOne_185 (by decide) ?_
            exact r_zret hC hR hS hE hf dX11_behindOne_186
          · replace hf := if_f hf hc
            refine lv_aload_n hx hb dX11_behindOne_107 rfl (lv_at hl 0 rfl) ?_
            refine lv_iload hx hb dX11_behindOne_108 (lv_at hl 1 rfl) ?_
            refine lv_bipush (v := 43) hx hb dX11_behindOne_110 (by decide) ?_
            obtain ⟨j122_51, ej122_51, hf⟩ := jn_of3 hf
            have hj122_50 : ∀ (q52 : Nat) (x53 : Int32) (S54 : MS) (H : Heap) (locs : List Loc) (ls : Array Slot), j122_51 q52 x53 S54 = some (ro, So) → Rp G S54 H → va_S (gA G) s.heap H locs → Ex S S54 → Ok S54 this 11 → Ok S54 q52 11 → lv_has ls 5 [(0, .ref this)] → W p l e rX11_behindOne s m args below meth c H locs 0 0 (MQ below (Qn G S (some (.int ro)) So) args s 0 0 (gA G)) (F0 m 122 ls [.int x53, .ref q52]) := by
              intro q52 x53 S54 H locs ls hf hR hS hE ok_this ok_q52 hl
              rw [ej122_51] at hf
              refine lv_iconst (v := 0) hx hb dX11_behindOne_122 (by decide) ?_
              obtain ⟨S55, hc56, hf⟩ := cv_of hf
              refine cl_RX11_148 (As := [.int x53, .int (0 : Int32)]) (rest := []) hC hR hS (c_X11_emit l G n q52 x53 (0 : Int32) S54 S55 hc56 ok_q52) ok_q52 rfl ⟨Nat.le_of_ble_eq_true rfl, Nat.le_of_ble_eq_true rfl⟩ hl.1 rfl (Nat.le_of_ble_eq_true rfl) dX11_behindOne_123 (Nat.zero_le _) (Nat.zero_le _) (fun H locs hR hS hE57 => ?_)
              have ok_this := hE57 _ _ ok_this
              have ok_q52 := hE57 _ _ ok_q52
              have hE := hE.tr hE57
              refine lv_aload_n hx hb dX11_behindOne_126 rfl (lv_at hl 0 rfl) ?_
              obtain ⟨S58, hc59, hf⟩ := cv_of hf
              refine cl_RX11_177 (As := []) (rest := []) hC hR hS (c_X11_whole l G n this S55 S58 hc59 ok_this) ok_this rfl ⟨Nat.le_of_ble_eq_true rfl, Nat.le_of_ble_eq_true rfl⟩ hl.1 rfl (Nat.le_of_ble_eq_true rfl) dX11_behindOne_127 (Nat.zero_le _) (Nat.zero_le _) (fun H locs hR hS hE60 => ?_)
              have ok_this := hE60 _ _ ok_this
              have ok_q52 := hE60 _ _ ok_q52
              have hE := hE.tr hE60
              refine lv_goto (tgt := 181) hx hb dX11_behindOne_130 (by decide) ?_
              refine lv_aload_n hx hb dX11_behindOne_181 rfl (lv_at hl 0 rfl) ?_
              obtain ⟨S61, hc62, hf⟩ := cv_of hf
              refine cl_RX11_165 (As := []) (rest := []) hC hR hS (c_X11_nextToken l G n this S58 S61 hc62 ok_this) ok_this rfl ⟨Nat.le_of_ble_eq_true rfl, Nat.le_of_ble_eq_true rfl⟩ hl.1 rfl (Nat.le_of_ble_eq_true rfl) dX11_behindOne_182 (Nat.zero_le _) (Nat.zero_le _) (fun H locs hR hS hE63 => ?_)
              have ok_this := hE63 _ _ ok_this
              have ok_q52 := hE63 _ _ ok_q52
              have hE := hE.tr hE63
              refine lv_iconst (v := 1) hx hb dX11_behindOne_185 (by decide) ?_
              exact r_zret hC hR hS hE hf dX11_behindOne_186
            refine lv_icmp_ne (tgt := 120) hx hb dX11_behindOne_112 (by decide) (fun hc => ?_) (fun hc => ?_)
            · replace hf := if_f hf hc
              refine lv_bipush (v := 8) hx hb dX11_behindOne_120 (by decide) ?_
              exact hj122_50 this (8 : Int32) S42 _ _ _ hf hR hS hE ok_this ok_this (lv_sub hl [0] rfl)
            · replace hf := if_t hf hc
              refine lv_bipush (v := 7) hx hb dX11_behindOne_115 (by decide) ?_
              refine lv_goto (tgt := 122) hx hb dX11_behindOne_117 (by decide) ?_
              exact hj122_50 this (7 : Int32) S42 _ _ _ hf hR hS hE ok_this ok_this (lv_sub hl [0] rfl)
        refine lv_icmp_eq (tgt := 75) hx hb dX11_behindOne_65 (by decide) (fun hc => ?_) (fun hc => ?_)
        · replace hf := if_t hf hc
          exact hj75_34 S12 _ _ _ hf hR hS hE ok_this (lv_sub hl [1, 0] rfl)
        · replace hf := if_f hf hc
          refine lv_iload hx hb dX11_behindOne_68 (lv_at hl 0 rfl) ?_
          refine lv_bipush (v := 43) hx hb dX11_behindOne_70 (by decide) ?_
          refine lv_icmp_lt (tgt := 133) hx hb dX11_behindOne_72 (by decide) (fun hc => ?_) (fun hc => ?_)
          · replace hf := if_t hf hc
            exact hj133_13 S12 _ _ _ hf hR hS hE ok_this (lv_sub hl [1, 3, 0] rfl)
          · replace hf := if_f hf hc
            exact hj75_34 S12 _ _ _ hf hR hS hE ok_this (lv_sub hl [1, 0] rfl)
    · replace hf := if_f hf hc
      refine lv_aload_n hx hb dX11_behindOne_31 rfl (lv_at hl 1 rfl) ?_
      refine lv_iload_n hx hb dX11_behindOne_32 rfl (lv_at hl 2 rfl) ?_
      obtain ⟨x72, S69, hc70, hf⟩ := cl_of hf
      refine cl_RX11_145 (As := [.int x4]) (rest := [.ref this]) hC hR hS (c_X11_rank l G n x4 S12 x72 S69 hc70 ) rfl ⟨Nat.le_of_ble_eq_true rfl, Nat.le_of_ble_eq_true rfl⟩ hl.1 rfl (Nat.le_of_ble_eq_true rfl) dX11_behindOne_33 (Nat.zero_le _) (Nat.zero_le _) (fun H locs hR hS hE71 => ?_)
      have ok_this := hE71 _ _ ok_this
      have hE := hE.tr hE71
      obtain ⟨S73, hc74, hf⟩ := cv_of hf
      refine cl_RX11_158 (As := [.int x72]) (rest := []) hC hR hS (c_X11_settle l G n this x72 S69 S73 hc74 ok_this) ok_this rfl ⟨Nat.le_of_ble_eq_true rfl, Nat.le_of_ble_eq_true rfl⟩ hl.1 rfl (Nat.le_of_ble_eq_true rfl) dX11_behindOne_36 (Nat.zero_le _) (Nat.zero_le _) (fun H locs hR hS hE75 => ?_)
      have ok_this := hE75 _ _ ok_this
      have hE := hE.tr hE75
      refine lv_aload_n hx hb dX11_behindOne_39 rfl (lv_at hl 1 rfl) ?_
      refine lv_iload_n hx hb dX11_behindOne_40 rfl (lv_at hl 2 rfl) ?_
      obtain ⟨S76, hc77, hf⟩ := cv_of hf
      refine cl_RX11_168 (As := [.int x4]) (rest := []) hC hR hS (c_X11_push l G n this x4 S73 S76 hc77 ok_this) ok_this rfl ⟨Nat.le_of_ble_eq_true rfl, Nat.le_of_ble_eq_true rfl⟩ hl.1 rfl (Nat.le_of_ble_eq_true rfl) dX11_behindOne_41 (Nat.zero_le _) (Nat.zero_le _) (fun H locs hR hS hE78 => ?_)
      have ok_this := hE78 _ _ ok_this
      have hE := hE.tr hE78
      refine lv_aload_n hx hb dX11_behindOne_44 rfl (lv_at hl 1 rfl) ?_
      refine lv_iconst (v := 0) hx hb dX11_behindOne_45 (by decide) ?_
      obtain ⟨hz80, hf⟩ := zb_of hf
      refine pf_RX11_154 hC hR hS ok_this hz80 dX11_behindOne_46 hf (fun S79 H locs hf hR hS hE81 => ?_)
      have ok_this := hE81 _ _ ok_this
      have hE := hE.tr hE81
      refine lv_goto (tgt := 181) hx hb dX11_behindOne_49 (by decide) ?_
      refine lv_aload_n hx hb dX11_behindOne_181 rfl (lv_at hl 1 rfl) ?_
      obtain ⟨S82, hc83, hf⟩ := cv_of hf
      refine cl_RX11_165 (As := []) (rest := []) hC hR hS (c_X11_nextToken l G n this S79 S82 hc83 ok_this) ok_this rfl ⟨Nat.le_of_ble_eq_true rfl, Nat.le_of_ble_eq_true rfl⟩ hl.1 rfl (Nat.le_of_ble_eq_true rfl) dX11_behindOne_182 (Nat.zero_le _) (Nat.zero_le _) (fun H locs hR hS hE84 => ?_)
      have ok_this := hE84 _ _ ok_this
      have hE := hE.tr hE84
      refine lv_iconst (v := 1) hx hb dX11_behindOne_185 (by decide) ?_
      exact r_zret hC hR hS hE hf dX11_behindOne_186
  refine lv_if_ge (tgt := 19) hx hb dX11_behindOne_12 (by decide) (fun hc => ?_) (fun hc => ?_)
  · replace hf := if_t hf hc
    refine lv_aload_n hx hb dX11_behindOne_19 rfl (lv_at hl 2 rfl) ?_
    obtain ⟨q85, hq86, ok_q85, hf⟩ := gR_of hf
    refine gf_RX11_26 hC hR ok_this hq86 dX11_behindOne_20 ?_
    refine lv_iload_n hx hb dX11_behindOne_23 rfl (lv_at hl 0 rfl) ?_
    obtain ⟨hi87, hf⟩ := ck_of hf
    refine r_iald hC hR ok_q85 hi87 dX11_behindOne_24 ?_
    exact hj25_9 (mI S5 q85 x8.toNatClampNeg) S5 _ _ _ hf hR hS hE ok_this (lv_sub hl [2, 1, 0] rfl)
  · replace hf := if_f hf hc
    refine lv_iconst (v := -1) hx hb dX11_behindOne_15 (by decide) ?_
    refine lv_goto (tgt := 25) hx hb dX11_behindOne_16 (by decide) ?_
    exact hj25_9 (-1 : Int32) S5 _ _ _ hf hR hS hE ok_this (lv_sub hl [2, 1, 0] rfl)
