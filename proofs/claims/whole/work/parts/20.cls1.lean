abbrev rX0_init : Room := { frames := 1, cells := 3, slots := 903, locals := 40 }
def f_X0_init (_n : Nat) (z : Nat) (this : Nat) (S : MS) : Option (MS) :=
  ck (nak (301 : Int32) 301) (jn (z + (mL S).length) fun q1 => bd (nw S q1 12 (301 : Int32).toNatClampNeg) fun S2 => bd (sR S2 this 0 (some q1)) fun S5 => ck (nak (301 : Int32) 301) (jn (z + (mL S5).length) fun q7 => bd (nw S5 q7 12 (301 : Int32).toNatClampNeg) fun S8 => bd (sR S8 this 1 (some q7)) fun S11 => ck (nak (301 : Int32) 301) (jn (z + (mL S11).length) fun q13 => bd (nw S11 q13 12 (301 : Int32).toNatClampNeg) fun S14 => bd (sR S14 this 2 (some q13)) fun S17 => some S17)))
set_option maxRecDepth 100000 in
set_option maxHeartbeats 4000000 in
theorem c_X0_init (l : Launch) (G : Gx) (n : Nat) (this : Nat) (S : MS) (So : MS) (hf : f_X0_init n G.2.2 this S = some So) (ok_this : Ok S this 0) : Cn G l yX0_init cX0_init 1 none rX0_init [.ref this] S none So := by
  refine Cn.of (by decide) (Nat.le_of_ble_eq_true rfl) ?_
  intro p e s m args below meth c hC hname hR ls hl
  have hC : Cx G RX0 cX0_init 1 none p s m args meth c := hC
  have hl : lv_has ls 1 [(0, .ref this)] := hl
  have hx := hC.x
  have hb := hC.b
  have hS : va_S (gA G) s.heap s.heap [] := va_S.rf
  have hE : Ex S S := Ex.rf S
  unfold f_X0_init at hf
  refine lv_aload_n hx hb dX0_init_0 rfl (lv_at hl 0 rfl) ?_
  refine r_obj hC hl.1 (bg4 _ (List.mem_of_getElem? (i := 18) rfl)) (bg1 _ (List.mem_of_getElem? (i := 14) rfl)) (bg1 _ (List.mem_of_getElem? (i := 15) rfl)) (Nat.le_of_ble_eq_true rfl) (Nat.le_of_ble_eq_true rfl) dX0_init_1 ?_
  refine lv_aload_n hx hb dX0_init_4 rfl (lv_at hl 0 rfl) ?_
  refine lv_sipush (v := 301) hx hb dX0_init_5 (by decide) ?_
  obtain ⟨hi4, hf⟩ := ck_of hf
  obtain ⟨q1, eq1, hf⟩ := jn_of hf
  refine r_newa (ci := 12) (NB := 301) (t0 := 0) (ty := .int) rfl (bg3 _ (List.mem_of_getElem? (i := 15) rfl)) rfl (fun _ _ h => h) (atI G) (by decide) hC hR hS hi4 (Nat.le_of_ble_eq_true rfl) (Nat.le_of_ble_eq_true rfl) dX0_init_8 eq1 hf (fun S2 H hf hR hS hE3 ok_q1 => ?_)
  have ok_this := hE3 _ _ ok_this
  have hE := hE.tr hE3
  refine pf_RX0_9 hC hR hS ok_this hname dX0_init_10 hf (fun S5 H locs hf hR hS hE6 => ?_)
  have ok_this := hE6 _ _ ok_this
  have ok_q1 := hE6 _ _ ok_q1
  have hE := hE.tr hE6
  refine lv_aload_n hx hb dX0_init_13 rfl (lv_at hl 0 rfl) ?_
  refine lv_sipush (v := 301) hx hb dX0_init_14 (by decide) ?_
  obtain ⟨hi10, hf⟩ := ck_of hf
  obtain ⟨q7, eq7, hf⟩ := jn_of hf
  refine r_newa (ci := 12) (NB := 301) (t0 := 0) (ty := .int) rfl (bg3 _ (List.mem_of_getElem? (i := 15) rfl)) rfl (fun _ _ h => h) (atI G) (by decide) hC hR hS hi10 (Nat.le_of_ble_eq_true rfl) (Nat.le_of_ble_eq_true rfl) dX0_init_17 eq7 hf (fun S8 H hf hR hS hE9 ok_q7 => ?_)
  have ok_this := hE9 _ _ ok_this
  have ok_q1 := hE9 _ _ ok_q1
  have hE := hE.tr hE9
  refine pf_RX0_15 hC hR hS ok_this hname dX0_init_19 hf (fun S11 H locs hf hR hS hE12 => ?_)
  have ok_this := hE12 _ _ ok_this
  have ok_q1 := hE12 _ _ ok_q1
  have ok_q7 := hE12 _ _ ok_q7
  have hE := hE.tr hE12
  refine lv_aload_n hx hb dX0_init_22 rfl (lv_at hl 0 rfl) ?_
  refine lv_sipush (v := 301) hx hb dX0_init_23 (by decide) ?_
  obtain ⟨hi16, hf⟩ := ck_of hf
  obtain ⟨q13, eq13, hf⟩ := jn_of hf
  refine r_newa (ci := 12) (NB := 301) (t0 := 0) (ty := .int) rfl (bg3 _ (List.mem_of_getElem? (i := 15) rfl)) rfl (fun _ _ h => h) (atI G) (by decide) hC hR hS hi16 (Nat.le_of_ble_eq_true rfl) (Nat.le_of_ble_eq_true rfl) dX0_init_26 eq13 hf (fun S14 H hf hR hS hE15 ok_q13 => ?_)
  have ok_this := hE15 _ _ ok_this
  have ok_q1 := hE15 _ _ ok_q1
  have ok_q7 := hE15 _ _ ok_q7
  have hE := hE.tr hE15
  refine pf_RX0_18 hC hR hS ok_this hname dX0_init_28 hf (fun S17 H locs hf hR hS hE18 => ?_)
  have ok_this := hE18 _ _ ok_this
  have ok_q1 := hE18 _ _ ok_q1
  have ok_q7 := hE18 _ _ ok_q7
  have ok_q13 := hE18 _ _ ok_q13
  have hE := hE.tr hE18
  refine W.widen (k := 3) (n := 903) (Nat.le_of_ble_eq_true rfl) (Nat.le_of_ble_eq_true rfl) ?_
  exact r_vret hC hR hS hE hf dX0_init_31
abbrev rX0_add : Room := { frames := 0, cells := 0, slots := 0, locals := 0 }
def f_X0_add (_n : Nat) (this : Nat) (a1 : Int32) (a2 : Int32) (a3 : Int32) (S : MS) : Option (MS) :=
  gR S (mR S this 0) 12 fun q1 => (if (Int32.ofNat (mN S q1)) ≤ (mI S this 3) then some S else gR S (mR S this 0) 12 fun q3 => ck (inb (mI S this 3) (mN S q3)) (bd (sI S q3 (mI S this 3).toNatClampNeg a1) fun S6 => gR S6 (mR S6 this 1) 12 fun q8 => ck (inb (mI S6 this 3) (mN S6 q8)) (bd (sI S6 q8 (mI S6 this 3).toNatClampNeg a2) fun S11 => gR S11 (mR S11 this 2) 12 fun q13 => ck (inb (mI S11 this 3) (mN S11 q13)) (bd (sI S11 q13 (mI S11 this 3).toNatClampNeg a3) fun S16 => bd (sI S16 this 3 ((mI S16 this 3) + (1 : Int32))) fun S18 => some S18))))
set_option maxRecDepth 100000 in
set_option maxHeartbeats 4000000 in
theorem c_X0_add (l : Launch) (G : Gx) (n : Nat) (this : Nat) (a1 : Int32) (a2 : Int32) (a3 : Int32) (S : MS) (So : MS) (hf : f_X0_add n this a1 a2 a3 S = some So) (ok_this : Ok S this 0) : Cn G l yX0_add cX0_add 4 none rX0_add [.ref this, .int a1, .int a2, .int a3] S none So := by
  refine Cn.of (by decide) (Nat.le_of_ble_eq_true rfl) ?_
  intro p e s m args below meth c hC hname hR ls hl
  have hC : Cx G RX0 cX0_add 4 none p s m args meth c := hC
  have hl : lv_has ls 4 [(0, .ref this), (1, .int a1), (2, .int a2), (3, .int a3)] := hl
  have hx := hC.x
  have hb := hC.b
  have hS : va_S (gA G) s.heap s.heap [] := va_S.rf
  have hE : Ex S S := Ex.rf S
  unfold f_X0_add at hf
  refine lv_aload_n hx hb dX0_add_0 rfl (lv_at hl 0 rfl) ?_
  refine gf_RX0_21 hC hR ok_this dX0_add_1 ?_
  refine lv_aload_n hx hb dX0_add_4 rfl (lv_at hl 0 rfl) ?_
  obtain ⟨q1, hq2, ok_q1, hf⟩ := gR_of hf
  refine gf_RX0_9 hC hR ok_this hq2 dX0_add_5 ?_
  refine r_alenI hC hR ok_q1 dX0_add_8 ?_
  refine lv_icmp_ge (tgt := 52) hx hb dX0_add_9 (by decide) (fun hc => ?_) (fun hc => ?_)
  · replace hf := if_t hf hc
    exact r_vret hC hR hS hE hf dX0_add_52
  · replace hf := if_f hf hc
    refine lv_aload_n hx hb dX0_add_12 rfl (lv_at hl 0 rfl) ?_
    obtain ⟨q3, hq4, ok_q3, hf⟩ := gR_of hf
    refine gf_RX0_9 hC hR ok_this hq4 dX0_add_13 ?_
    refine lv_aload_n hx hb dX0_add_16 rfl (lv_at hl 0 rfl) ?_
    refine gf_RX0_21 hC hR ok_this dX0_add_17 ?_
    refine lv_iload_n hx hb dX0_add_20 rfl (lv_at hl 1 rfl) ?_
    obtain ⟨hi5, hf⟩ := ck_of hf
    refine rB_iast hC hR hS ok_q3 hi5 dX0_add_21 hf (fun S6 H locs hf hR hS hE7 => ?_)
    have ok_this := hE7 _ _ ok_this
    have ok_q1 := hE7 _ _ ok_q1
    have ok_q3 := hE7 _ _ ok_q3
    have hE := hE.tr hE7
    refine lv_aload_n hx hb dX0_add_22 rfl (lv_at hl 0 rfl) ?_
    obtain ⟨q8, hq9, ok_q8, hf⟩ := gR_of hf
    refine gf_RX0_15 hC hR ok_this hq9 dX0_add_23 ?_
    refine lv_aload_n hx hb dX0_add_26 rfl (lv_at hl 0 rfl) ?_
    refine gf_RX0_21 hC hR ok_this dX0_add_27 ?_
    refine lv_iload_n hx hb dX0_add_30 rfl (lv_at hl 2 rfl) ?_
    obtain ⟨hi10, hf⟩ := ck_of hf
    refine rB_iast hC hR hS ok_q8 hi10 dX0_add_31 hf (fun S11 H locs hf hR hS hE12 => ?_)
    have ok_this := hE12 _ _ ok_this
    have ok_q1 := hE12 _ _ ok_q1
    have ok_q3 := hE12 _ _ ok_q3
    have ok_q8 := hE12 _ _ ok_q8
    have hE := hE.tr hE12
    refine lv_aload_n hx hb dX0_add_32 rfl (lv_at hl 0 rfl) ?_
    obtain ⟨q13, hq14, ok_q13, hf⟩ := gR_of hf
    refine gf_RX0_18 hC hR ok_this hq14 dX0_add_33 ?_
    refine lv_aload_n hx hb dX0_add_36 rfl (lv_at hl 0 rfl) ?_
    refine gf_RX0_21 hC hR ok_this dX0_add_37 ?_
    refine lv_iload_n hx hb dX0_add_40 rfl (lv_at hl 3 rfl) ?_
    obtain ⟨hi15, hf⟩ := ck_of hf
    refine rB_iast hC hR hS ok_q13 hi15 dX0_add_41 hf (fun S16 H locs hf hR hS hE17 => ?_)
    have ok_this := hE17 _ _ ok_this
    have ok_q1 := hE17 _ _ ok_q1
    have ok_q3 := hE17 _ _ ok_q3
    have ok_q8 := hE17 _ _ ok_q8
    have ok_q13 := hE17 _ _ ok_q13
    have hE := hE.tr hE17
    refine lv_aload_n hx hb dX0_add_42 rfl (lv_at hl 0 rfl) ?_
    refine lv_dup hx hb dX0_add_43 rfl ?_
    refine gf_RX0_21 hC hR ok_this dX0_add_44 ?_
    refine lv_iconst (v := 1) hx hb dX0_add_47 (by decide) ?_
    refine lv_iadd hx hb dX0_add_48 ?_
    refine pf_RX0_21 hC hR hS ok_this dX0_add_49 hf (fun S18 H locs hf hR hS hE19 => ?_)
    have ok_this := hE19 _ _ ok_this
    have ok_q1 := hE19 _ _ ok_q1
    have ok_q3 := hE19 _ _ ok_q3
    have ok_q8 := hE19 _ _ ok_q8
    have ok_q13 := hE19 _ _ ok_q13
    have hE := hE.tr hE19
    exact r_vret hC hR hS hE hf dX0_add_52
abbrev rX0_isDigit : Room := { frames := 0, cells := 0, slots := 0, locals := 0 }
def f_X0_isDigit (_n : Nat) (a1 : Int32) (S : MS) : Option (Int32 × MS) :=
  (if a1 < (48 : Int32) then zb (0 : Int32) (some ((0 : Int32), S)) else (if (57 : Int32) < a1 then zb (0 : Int32) (some ((0 : Int32), S)) else zb (1 : Int32) (some ((1 : Int32), S))))
set_option maxRecDepth 100000 in
set_option maxHeartbeats 4000000 in
theorem c_X0_isDigit (l : Launch) (G : Gx) (n : Nat) (a1 : Int32) (S : MS) (ro : Int32) (So : MS) (hf : f_X0_isDigit n a1 S = some (ro, So)) : Cn G l yX0_isDigit cX0_isDigit 1 (some .boolean) rX0_isDigit [.int a1] S (some (.int ro)) So := by
  refine Cn.of (by decide) (Nat.le_of_ble_eq_true rfl) ?_
  intro p e s m args below meth c hC hname hR ls hl
  have hC : Cx G RX0 cX0_isDigit 1 (some .boolean) p s m args meth c := hC
  have hl : lv_has ls 1 [(0, .int a1)] := hl
  have hx := hC.x
  have hb := hC.b
  have hS : va_S (gA G) s.heap s.heap [] := va_S.rf
  have hE : Ex S S := Ex.rf S
  unfold f_X0_isDigit at hf
  refine lv_iload_n hx hb dX0_isDigit_0 rfl (lv_at hl 0 rfl) ?_
  refine lv_bipush (v := 48) hx hb dX0_isDigit_1 (by decide) ?_
  refine lv_icmp_lt (tgt := 16) hx hb dX0_isDigit_3 (by decide) (fun hc => ?_) (fun hc => ?_)
  · replace hf := if_t hf hc
    refine lv_iconst (v := 0) hx hb dX0_isDigit_16 (by decide) ?_
    exact r_zret hC hR hS hE hf dX0_isDigit_17
  · replace hf := if_f hf hc
    refine lv_iload_n hx hb dX0_isDigit_6 rfl (lv_at hl 0 rfl) ?_
    refine lv_bipush (v := 57) hx hb dX0_isDigit_7 (by decide) ?_
    refine lv_icmp_gt (tgt := 16) hx hb dX0_isDigit_9 (by decide) (fun hc => ?_) (fun hc => ?_)
    · replace hf := if_t hf hc
      refine lv_iconst (v := 0) hx hb dX0_isDigit_16 (by decide) ?_
      exact r_zret hC hR hS hE hf dX0_isDigit_17
    · replace hf := if_f hf hc
      refine lv_iconst (v := 1) hx hb dX0_isDigit_12 (by decide) ?_
      refine lv_goto (tgt := 17) hx hb dX0_isDigit_13 (by decide) ?_
      exact r_zret hC hR hS hE hf dX0_isDigit_17
abbrev rX0_cutNumber : Room := { frames := 1, cells := 0, slots := 0, locals := 30 }
def f_X0_cutNumber_L5 (n : Nat) (this : Nat) (a1 : Nat) (a2 : Int32) : Nat → Int32 → Int32 → MS → Option (Int32 × MS)
  | 0, _, _, _ => none
  | k + 1, x3, x4, S5 => jn (f_X0_cutNumber_L5 n this a1 a2 k) fun rec5_2 => (if (mI S5 a1 1) ≤ x4 then cv (f_X0_add n this (38 : Int32) a2 x3 S5) fun S6 => some (x4, S6) else gR S5 (mR S5 a1 0) 12 fun q9 => ck (inb x4 (mN S5 q9)) (cl (f_X0_isDigit n (mI S5 q9 x4.toNatClampNeg) S5) fun x15 S12 => (if x15 = 0 then cv (f_X0_add n this (38 : Int32) a2 x3 S12) fun S16 => some (x4, S16) else gR S12 (mR S12 a1 0) 12 fun q19 => ck (inb x4 (mN S12 q19)) (bd (imin (((x3 * (10 : Int32)) + (mI S12 q19 x4.toNatClampNeg)) - (48 : Int32)) (10000 : Int32)) fun x22 => bd (x4 + (1 : Int32)) fun x23 => rec5_2 x22 x23 S12))))
def f_X0_cutNumber (n : Nat) (this : Nat) (a1 : Nat) (a2 : Int32) (S : MS) : Option (Int32 × MS) :=
  f_X0_cutNumber_L5 n this a1 a2 n (0 : Int32) a2 S
set_option maxRecDepth 100000 in
set_option maxHeartbeats 4000000 in
theorem c_X0_cutNumber (l : Launch) (G : Gx) (n : Nat) (this : Nat) (a1 : Nat) (a2 : Int32) (S : MS) (ro : Int32) (So : MS) (hf : f_X0_cutNumber n this a1 a2 S = some (ro, So)) (ok_this : Ok S this 0) (ok_a1 : Ok S a1 6) : Cn G l yX0_cutNumber cX0_cutNumber 5 (some .int) rX0_cutNumber [.ref this, .ref a1, .int a2] S (some (.int ro)) So := by
  refine Cn.of (by decide) (Nat.le_of_ble_eq_true rfl) ?_
  intro p e s m args below meth c hC hname hR ls hl
  have hC : Cx G RX0 cX0_cutNumber 5 (some .int) p s m args meth c := hC
  have hl : lv_has ls 5 [(0, .ref this), (1, .ref a1), (2, .int a2)] := hl
  have hx := hC.x
  have hb := hC.b
  have hS : va_S (gA G) s.heap s.heap [] := va_S.rf
  have hE : Ex S S := Ex.rf S
  unfold f_X0_cutNumber at hf
  refine lv_iconst (v := 0) hx hb dX0_cutNumber_0 (by decide) ?_
  refine lv_istore_n (lv' := [(3, .int (0 : Int32)), (0, .ref this), (1, .ref a1), (2, .int a2)]) hx hb dX0_cutNumber_1 rfl hl (by decide) rfl (fun ls hl => ?_)
  refine lv_iload_n hx hb dX0_cutNumber_2 rfl (lv_at hl 3 rfl) ?_
  refine lv_istore (lv' := [(4, .int a2), (3, .int (0 : Int32)), (0, .ref this), (1, .ref a1), (2, .int a2)]) hx hb dX0_cutNumber_3 hl (by decide) rfl (fun ls hl => ?_)
  have hh24 : ∀ k : Nat, ∀ (x3 : Int32) (x4 : Int32) (S5 : MS) (H : Heap) (locs : List Loc) (ls : Array Slot), f_X0_cutNumber_L5 n this a1 a2 k x3 x4 S5 = some (ro, So) → Rp G S5 H → va_S (gA G) s.heap H locs → Ex S S5 → Ok S5 this 0 → Ok S5 a1 6 → lv_has ls 5 [(0, .ref this), (1, .ref a1), (2, .int a2), (3, .int x3), (4, .int x4)] → W p l e rX0_cutNumber s m args below meth c H locs 0 0 (MQ below (Qn G S (some (.int ro)) So) args s 0 0 (gA G)) (F0 m 5 ls []) := by
    intro k
    induction k with
    | zero =>
      intro x3 x4 S5 H locs ls hf hR hS hE ok_this ok_a1 hl
      exact absurd hf (by rw [f_X0_cutNumber_L5]; exact fun h => by cases h)
    | succ k ih =>
      intro x3 x4 S5 H locs ls hf hR hS hE ok_this ok_a1 hl
      rw [f_X0_cutNumber_L5] at hf
      obtain ⟨rec5_2, erec5_2, hf⟩ := jn_of3 hf
      have hL5_1 : ∀ (x3 : Int32) (x4 : Int32) (S5 : MS) (H : Heap) (locs : List Loc) (ls : Array Slot), rec5_2 x3 x4 S5 = some (ro, So) → Rp G S5 H → va_S (gA G) s.heap H locs → Ex S S5 → Ok S5 this 0 → Ok S5 a1 6 → lv_has ls 5 [(0, .ref this), (1, .ref a1), (2, .int a2), (3, .int x3), (4, .int x4)] → W p l e rX0_cutNumber s m args below meth c H locs 0 0 (MQ below (Qn G S (some (.int ro)) So) args s 0 0 (gA G)) (F0 m 5 ls []) := by
        intro x3 x4 S5 H locs ls hf hR hS hE ok_this ok_a1 hl
        rw [erec5_2] at hf
        exact ih x3 x4 S5 _ _ _ hf hR hS hE ok_this ok_a1 hl
      refine lv_iload hx hb dX0_cutNumber_5 (lv_at hl 4 rfl) ?_
      refine lv_aload_n hx hb dX0_cutNumber_7 rfl (lv_at hl 1 rfl) ?_
      refine gf_RX0_25 hC hR ok_a1 dX0_cutNumber_8 ?_
      refine lv_icmp_ge (tgt := 55) hx hb dX0_cutNumber_11 (by decide) (fun hc => ?_) (fun hc => ?_)
      · replace hf := if_t hf hc
        refine lv_aload_n hx hb dX0_cutNumber_55 rfl (lv_at hl 0 rfl) ?_
        refine lv_bipush (v := 38) hx hb dX0_cutNumber_56 (by decide) ?_
        refine lv_iload_n hx hb dX0_cutNumber_58 rfl (lv_at hl 2 rfl) ?_
        refine lv_iload_n hx hb dX0_cutNumber_59 rfl (lv_at hl 3 rfl) ?_
        obtain ⟨S6, hc7, hf⟩ := cv_of hf
        refine cl_RX0_50 (As := [.int (38 : Int32), .int a2, .int x3]) (rest := []) hC hR hS (c_X0_add l G n this (38 : Int32) a2 x3 S5 S6 hc7 ok_this) ok_this rfl ⟨Nat.le_of_ble_eq_true rfl, Nat.le_of_ble_eq_true rfl⟩ hl.1 rfl (Nat.le_of_ble_eq_true rfl) dX0_cutNumber_60 (Nat.zero_le _) (Nat.zero_le _) (fun H locs hR hS hE8 => ?_)
        have ok_this := hE8 _ _ ok_this
        have ok_a1 := hE8 _ _ ok_a1
        have hE := hE.tr hE8
        refine lv_iload hx hb dX0_cutNumber_63 (lv_at hl 4 rfl) ?_
        exact r_iret hC hR hS hE hf dX0_cutNumber_65
      · replace hf := if_f hf hc
        refine lv_aload_n hx hb dX0_cutNumber_14 rfl (lv_at hl 1 rfl) ?_
        obtain ⟨q9, hq10, ok_q9, hf⟩ := gR_of hf
        refine gf_RX0_30 hC hR ok_a1 hq10 dX0_cutNumber_15 ?_
        refine lv_iload hx hb dX0_cutNumber_18 (lv_at hl 4 rfl) ?_
        obtain ⟨hi11, hf⟩ := ck_of hf
        refine r_iald hC hR ok_q9 hi11 dX0_cutNumber_20 ?_
        obtain ⟨x15, S12, hc13, hf⟩ := cl_of hf
        refine cl_RX0_41 (As := [.int (mI S5 q9 x4.toNatClampNeg)]) (rest := []) hC hR hS (c_X0_isDigit l G n (mI S5 q9 x4.toNatClampNeg) S5 x15 S12 hc13 ) rfl ⟨Nat.le_of_ble_eq_true rfl, Nat.le_of_ble_eq_true rfl⟩ hl.1 rfl (Nat.le_of_ble_eq_true rfl) dX0_cutNumber_21 (Nat.zero_le _) (Nat.zero_le _) (fun H locs hR hS hE14 => ?_)
        have ok_this := hE14 _ _ ok_this
        have ok_a1 := hE14 _ _ ok_a1
        have ok_q9 := hE14 _ _ ok_q9
        have hE := hE.tr hE14
        refine lv_if_eq (tgt := 55) hx hb dX0_cutNumber_24 (by decide) (fun hc => ?_) (fun hc => ?_)
        · replace hf := if_t hf hc
          refine lv_aload_n hx hb dX0_cutNumber_55 rfl (lv_at hl 0 rfl) ?_
          refine lv_bipush (v := 38) hx hb dX0_cutNumber_56 (by decide) ?_
          refine lv_iload_n hx hb dX0_cutNumber_58 rfl (lv_at hl 2 rfl) ?_
          refine lv_iload_n hx hb dX0_cutNumber_59 rfl (lv_at hl 3 rfl) ?_
          obtain ⟨S16, hc17, hf⟩ := cv_of hf
          refine cl_RX0_50 (As := [.int (38 : Int32), .int a2, .int x3]) (rest := []) hC hR hS (c_X0_add l G n this (38 : Int32) a2 x3 S12 S16 hc17 ok_this) ok_this rfl ⟨Nat.le_of_ble_eq_true rfl, Nat.le_of_ble_eq_true rfl⟩ hl.1 rfl (Nat.le_of_ble_eq_true rfl) dX0_cutNumber_60 (Nat.zero_le _) (Nat.zero_le _) (fun H locs hR hS hE18 => ?_)
          have ok_this := hE18 _ _ ok_this
          have ok_a1 := hE18 _ _ ok_a1
          have ok_q9 := hE18 _ _ ok_q9
          have hE := hE.tr hE18
          refine lv_iload hx hb dX0_cutNumber_63 (lv_at hl 4 rfl) ?_
          exact r_iret hC hR hS hE hf dX0_cutNumber_65
        · replace hf := if_f hf hc
          refine lv_iload_n hx hb dX0_cutNumber_27 rfl (lv_at hl 3 rfl) ?_
          refine lv_bipush (v := 10) hx hb dX0_cutNumber_28 (by decide) ?_
          refine lv_imul hx hb dX0_cutNumber_30 ?_
          refine lv_aload_n hx hb dX0_cutNumber_31 rfl (lv_at hl 1 rfl) ?_
          obtain ⟨q19, hq20, ok_q19, hf⟩ := gR_of hf
          refine gf_RX0_30 hC hR ok_a1 hq20 dX0_cutNumber_32 ?_
          refine lv_iload hx hb dX0_cutNumber_35 (lv_at hl 4 rfl) ?_
          obtain ⟨hi21, hf⟩ := ck_of hf
          refine r_iald hC hR ok_q19 hi21 dX0_cutNumber_37 ?_
          refine lv_iadd hx hb dX0_cutNumber_38 ?_
          refine lv_bipush (v := 48) hx hb dX0_cutNumber_39 (by decide) ?_
          refine lv_isub hx hb dX0_cutNumber_41 ?_
          refine lv_sipush (v := 10000) hx hb dX0_cutNumber_42 (by decide) ?_
          refine r_imin (v := (imin (((x3 * (10 : Int32)) + (mI S12 q19 x4.toNatClampNeg)) - (48 : Int32)) (10000 : Int32))) hC hl.1 (bg18 _ (List.mem_of_getElem? (i := 4) rfl)) rfl (Nat.le_of_ble_eq_true rfl) (Nat.le_of_ble_eq_true rfl) (Nat.zero_le _) (Nat.zero_le _) dX0_cutNumber_45 ?_
          refine bdi hf (fun x22 hf => ?_)
          refine lv_istore_n (lv' := [(3, .int x22), (0, .ref this), (1, .ref a1), (2, .int a2), (4, .int x4)]) hx hb dX0_cutNumber_48 rfl hl (by decide) rfl (fun ls hl => ?_)
          refine r_iinc (n := 1) (z := 1) (lv' := fun x23 => [(4, .int x23), (3, .int x22), (0, .ref this), (1, .ref a1), (2, .int a2)]) hx hb dX0_cutNumber_49 hl (k := 4) rfl (by decide) (by decide) (fun _ => rfl) hf (fun x23 ls hf hl => ?_)
          refine lv_goto (tgt := 5) hx hb dX0_cutNumber_52 (by decide) ?_
          exact hL5_1 x22 x23 S12 _ _ _ hf hR hS hE ok_this ok_a1 (lv_sub hl [2, 3, 4, 1, 0] rfl)
  exact hh24 n (0 : Int32) a2 S _ _ _ hf hR hS hE ok_this ok_a1 (lv_sub hl [2, 3, 4, 1, 0] rfl)
abbrev rX0_cutSign : Room := { frames := 4, cells := 0, slots := 0, locals := 141 }
def f_X0_cutSign_L6 (n : Nat) (this : Nat) (a1 : Nat) (a2 : Int32) (j44_2 : Int32 → MS → Option (Int32 × MS)) : Nat → Int32 → Int32 → MS → Option (Int32 × MS)
  | 0, _, _, _ => none
  | k + 1, x32, x33, S34 => jn (f_X0_cutSign_L6 n this a1 a2 j44_2 k) fun rec6_31 => (if (12 : Int32) ≤ x33 then j44_2 x32 S34 else ck (inb x33 12) (gR S34 (mR S34 a1 0) 12 fun q36 => ck (inb a2 (mN S34 q36)) (jn (fun (x41 : Int32) (S42 : MS) => bd (x33 + (1 : Int32)) fun x43 => rec6_31 x41 x43 S42) fun j38_40 => (if (chS 0 x33.toNatClampNeg) = (mI S34 q36 a2.toNatClampNeg) then bd ((24 : Int32) + x33) fun x44 => j38_40 x44 S34 else j38_40 x32 S34))))
def f_X0_cutSign (n : Nat) (this : Nat) (a1 : Nat) (a2 : Int32) (S : MS) : Option (Int32 × MS) :=
  jn (fun (x3 : Int32) (S4 : MS) => bd (a2 + (1 : Int32)) fun x5 => jn (fun (S8 : MS) => (if (mI S8 a1 1) ≤ x5 then cv (f_X0_add n this x3 a2 (0 : Int32) S8) fun S9 => some (x5, S9) else gR S8 (mR S8 a1 0) 12 fun q12 => ck (inb x5 (mN S8 q12)) ((if (mI S8 q12 x5.toNatClampNeg) = (61 : Int32) then (if x3 = (24 : Int32) then bd (x5 + (1 : Int32)) fun x22 => cv (f_X0_add n this (36 : Int32) a2 (0 : Int32) S8) fun S23 => some (x22, S23) else bd (x5 + (1 : Int32)) fun x18 => cv (f_X0_add n this (37 : Int32) a2 (0 : Int32) S8) fun S19 => some (x18, S19)) else cv (f_X0_add n this x3 a2 (0 : Int32) S8) fun S15 => some (x5, S15))))) fun j61_7 => (if x3 = (24 : Int32) then j61_7 S4 else (if x3 = (25 : Int32) then j61_7 S4 else cv (f_X0_add n this x3 a2 (0 : Int32) S4) fun S26 => some (x5, S26)))) fun j44_2 => f_X0_cutSign_L6 n this a1 a2 j44_2 n (40 : Int32) (0 : Int32) S
set_option maxRecDepth 100000 in
set_option maxHeartbeats 4000000 in
theorem c_X0_cutSign (l : Launch) (G : Gx) (n : Nat) (this : Nat) (a1 : Nat) (a2 : Int32) (S : MS) (ro : Int32) (So : MS) (hf : f_X0_cutSign n this a1 a2 S = some (ro, So)) (ok_this : Ok S this 0) (ok_a1 : Ok S a1 6) : Cn G l yX0_cutSign cX0_cutSign 5 (some .int) rX0_cutSign [.ref this, .ref a1, .int a2] S (some (.int ro)) So := by
  refine Cn.of (by decide) (Nat.le_of_ble_eq_true rfl) ?_
  intro p e s m args below meth c hC hname hR ls hl
  have hC : Cx G RX0 cX0_cutSign 5 (some .int) p s m args meth c := hC
  have hl : lv_has ls 5 [(0, .ref this), (1, .ref a1), (2, .int a2)] := hl
  have hx := hC.x
  have hb := hC.b
  have hS : va_S (gA G) s.heap s.heap [] := va_S.rf
  have hE : Ex S S := Ex.rf S
  unfold f_X0_cutSign at hf
  refine lv_bipush (v := 40) hx hb dX0_cutSign_0 (by decide) ?_
  refine lv_istore_n (lv' := [(3, .int (40 : Int32)), (0, .ref this), (1, .ref a1), (2, .int a2)]) hx hb dX0_cutSign_2 rfl hl (by decide) rfl (fun ls hl => ?_)
  refine lv_iconst (v := 0) hx hb dX0_cutSign_3 (by decide) ?_
  refine lv_istore (lv' := [(4, .int (0 : Int32)), (3, .int (40 : Int32)), (0, .ref this), (1, .ref a1), (2, .int a2)]) hx hb dX0_cutSign_4 hl (by decide) rfl (fun ls hl => ?_)
  obtain ⟨j44_2, ej44_2, hf⟩ := jn_of2 hf
  have hj44_1 : ∀ (x3 : Int32) (S4 : MS) (H : Heap) (locs : List Loc) (ls : Array Slot), j44_2 x3 S4 = some (ro, So) → Rp G S4 H → va_S (gA G) s.heap H locs → Ex S S4 → Ok S4 this 0 → Ok S4 a1 6 → lv_has ls 5 [(0, .ref this), (1, .ref a1), (2, .int a2), (3, .int x3)] → W p l e rX0_cutSign s m args below meth c H locs 0 0 (MQ below (Qn G S (some (.int ro)) So) args s 0 0 (gA G)) (F0 m 44 ls []) := by
    intro x3 S4 H locs ls hf hR hS hE ok_this ok_a1 hl
    rw [ej44_2] at hf
    refine lv_iload_n hx hb dX0_cutSign_44 rfl (lv_at hl 2 rfl) ?_
    refine lv_iconst (v := 1) hx hb dX0_cutSign_45 (by decide) ?_
    refine lv_iadd hx hb dX0_cutSign_46 ?_
    refine bdi hf (fun x5 hf => ?_)
    refine lv_istore (lv' := [(4, .int x5), (0, .ref this), (1, .ref a1), (2, .int a2), (3, .int x3)]) hx hb dX0_cutSign_47 hl (by decide) rfl (fun ls hl => ?_)
    refine lv_iload_n hx hb dX0_cutSign_49 rfl (lv_at hl 4 rfl) ?_
    refine lv_bipush (v := 24) hx hb dX0_cutSign_50 (by decide) ?_
    obtain ⟨j61_7, ej61_7, hf⟩ := jn_of1 hf
    have hj61_6 : ∀ (S8 : MS) (H : Heap) (locs : List Loc) (ls : Array Slot), j61_7 S8 = some (ro, So) → Rp G S8 H → va_S (gA G) s.heap H locs → Ex S S8 → Ok S8 this 0 → Ok S8 a1 6 → lv_has ls 5 [(0, .ref this), (1, .ref a1), (2, .int a2), (3, .int x3), (4, .int x5)] → W p l e rX0_cutSign s m args below meth c H locs 0 0 (MQ below (Qn G S (some (.int ro)) So) args s 0 0 (gA G)) (F0 m 61 ls []) := by
      intro S8 H locs ls hf hR hS hE ok_this ok_a1 hl
      rw [ej61_7] at hf
      refine lv_iload hx hb dX0_cutSign_61 (lv_at hl 4 rfl) ?_
      refine lv_aload_n hx hb dX0_cutSign_63 rfl (lv_at hl 1 rfl) ?_
      refine gf_RX0_25 hC hR ok_a1 dX0_cutSign_64 ?_
      refine lv_icmp_ge (tgt := 99) hx hb dX0_cutSign_67 (by decide) (fun hc => ?_) (fun hc => ?_)
      · replace hf := if_t hf hc
        refine lv_aload_n hx hb dX0_cutSign_99 rfl (lv_at hl 0 rfl) ?_
        refine lv_iload_n hx hb dX0_cutSign_100 rfl (lv_at hl 3 rfl) ?_
        refine lv_iload_n hx hb dX0_cutSign_101 rfl (lv_at hl 2 rfl) ?_
        refine lv_iconst (v := 0) hx hb dX0_cutSign_102 (by decide) ?_
        obtain ⟨S9, hc10, hf⟩ := cv_of hf
        refine cl_RX0_50 (As := [.int x3, .int a2, .int (0 : Int32)]) (rest := []) hC hR hS (c_X0_add l G n this x3 a2 (0 : Int32) S8 S9 hc10 ok_this) ok_this rfl ⟨Nat.le_of_ble_eq_true rfl, Nat.le_of_ble_eq_true rfl⟩ hl.1 rfl (Nat.le_of_ble_eq_true rfl) dX0_cutSign_103 (Nat.zero_le _) (Nat.zero_le _) (fun H locs hR hS hE11 => ?_)
        have ok_this := hE11 _ _ ok_this
        have ok_a1 := hE11 _ _ ok_a1
        have hE := hE.tr hE11
        refine lv_iload hx hb dX0_cutSign_106 (lv_at hl 4 rfl) ?_
        exact r_iret hC hR hS hE hf dX0_cutSign_108
      · replace hf := if_f hf hc
        refine lv_aload_n hx hb dX0_cutSign_70 rfl (lv_at hl 1 rfl) ?_
        obtain ⟨q12, hq13, ok_q12, hf⟩ := gR_of hf
        refine gf_RX0_30 hC hR ok_a1 hq13 dX0_cutSign_71 ?_
        refine lv_iload hx hb dX0_cutSign_74 (lv_at hl 4 rfl) ?_
        obtain ⟨hi14, hf⟩ := ck_of hf
        refine r_iald hC hR ok_q12 hi14 dX0_cutSign_76 ?_
        refine lv_bipush (v := 61) hx hb dX0_cutSign_77 (by decide) ?_
        refine lv_icmp_ne (tgt := 99) hx hb dX0_cutSign_79 (by decide) (fun hc => ?_) (fun hc => ?_)
        · replace hf := if_f hf hc
          refine lv_aload_n hx hb dX0_cutSign_99 rfl (lv_at hl 0 rfl) ?_
          refine lv_iload_n hx hb dX0_cutSign_100 rfl (lv_at hl 3 rfl) ?_
          refine lv_iload_n hx hb dX0_cutSign_101 rfl (lv_at hl 2 rfl) ?_
          refine lv_iconst (v := 0) hx hb dX0_cutSign_102 (by decide) ?_
          obtain ⟨S15, hc16, hf⟩ := cv_of hf
          refine cl_RX0_50 (As := [.int x3, .int a2, .int (0 : Int32)]) (rest := []) hC hR hS (c_X0_add l G n this x3 a2 (0 : Int32) S8 S15 hc16 ok_this) ok_this rfl ⟨Nat.le_of_ble_eq_true rfl, Nat.le_of_ble_eq_true rfl⟩ hl.1 rfl (Nat.le_of_ble_eq_true rfl) dX0_cutSign_103 (Nat.zero_le _) (Nat.zero_le _) (fun H locs hR hS hE17 => ?_)
          have ok_this := hE17 _ _ ok_this
          have ok_a1 := hE17 _ _ ok_a1
          have ok_q12 := hE17 _ _ ok_q12
          have hE := hE.tr hE17
          refine lv_iload hx hb dX0_cutSign_106 (lv_at hl 4 rfl) ?_
          exact r_iret hC hR hS hE hf dX0_cutSign_108
        · replace hf := if_t hf hc
          refine lv_iload_n hx hb dX0_cutSign_82 rfl (lv_at hl 3 rfl) ?_
          refine lv_bipush (v := 24) hx hb dX0_cutSign_83 (by decide) ?_
          refine lv_icmp_ne (tgt := 93) hx hb dX0_cutSign_85 (by decide) (fun hc => ?_) (fun hc => ?_)
          · replace hf := if_f hf hc
            refine lv_bipush (v := 37) hx hb dX0_cutSign_93 (by decide) ?_
            refine lv_istore_n (lv' := [(3, .int (37 : Int32)), (0, .ref this), (1, .ref a1), (2, .int a2), (4, .int x5)]) hx hb dX0_cutSign_95 rfl hl (by decide) rfl (fun ls hl => ?_)
            refine r_iinc (n := 1) (z := 1) (lv' := fun x18 => [(4, .int x18), (3, .int (37 : Int32)), (0, .ref this), (1, .ref a1), (2, .int a2)]) hx hb dX0_cutSign_96 hl (k := 4) rfl (by decide) (by decide) (fun _ => rfl) hf (fun x18 ls hf hl => ?_)
            refine lv_aload_n hx hb dX0_cutSign_99 rfl (lv_at hl 2 rfl) ?_
            refine lv_iload_n hx hb dX0_cutSign_100 rfl (lv_at hl 1 rfl) ?_
            refine lv_iload_n hx hb dX0_cutSign_101 rfl (lv_at hl 4 rfl) ?_
            refine lv_iconst (v := 0) hx hb dX0_cutSign_102 (by decide) ?_
            obtain ⟨S19, hc20, hf⟩ := cv_of hf
            refine cl_RX0_50 (As := [.int (37 : Int32), .int a2, .int (0 : Int32)]) (rest := []) hC hR hS (c_X0_add l G n this (37 : Int32) a2 (0 : Int32) S8 S19 hc20 ok_this) ok_this rfl ⟨Nat.le_of_ble_eq_true rfl, Nat.le_of_ble_eq_true rfl⟩ hl.1 rfl (Nat.le_of_ble_eq_true rfl) dX0_cutSign_103 (Nat.zero_le _) (Nat.zero_le _) (fun H locs hR hS hE21 => ?_)
            have ok_this := hE21 _ _ ok_this
            have ok_a1 := hE21 _ _ ok_a1
            have ok_q12 := hE21 _ _ ok_q12
            have hE := hE.tr hE21
            refine lv_iload hx hb dX0_cutSign_106 (lv_at hl 0 rfl) ?_
            exact r_iret hC hR hS hE hf dX0_cutSign_108
          · replace hf := if_t hf hc
            refine lv_bipush (v := 36) hx hb dX0_cutSign_88 (by decide) ?_
            refine lv_goto (tgt := 95) hx hb dX0_cutSign_90 (by decide) ?_
            refine lv_istore_n (lv' := [(3, .int (36 : Int32)), (0, .ref this), (1, .ref a1), (2, .int a2), (4, .int x5)]) hx hb dX0_cutSign_95 rfl hl (by decide) rfl (fun ls hl => ?_)
            refine r_iinc (n := 1) (z := 1) (lv' := fun x22 => [(4, .int x22), (3, .int (36 : Int32)), (0, .ref this), (1, .ref a1), (2, .int a2)]) hx hb dX0_cutSign_96 hl (k := 4) rfl (by decide) (by decide) (fun _ => rfl) hf (fun x22 ls hf hl => ?_)
            refine lv_aload_n hx hb dX0_cutSign_99 rfl (lv_at hl 2 rfl) ?_
            refine lv_iload_n hx hb dX0_cutSign_100 rfl (lv_at hl 1 rfl) ?_
            refine lv_iload_n hx hb dX0_cutSign_101 rfl (lv_at hl 4 rfl) ?_
            refine lv_iconst (v := 0) hx hb dX0_cutSign_102 (by decide) ?_
            obtain ⟨S23, hc24, hf⟩ := cv_of hf
            refine cl_RX0_50 (As := [.int (36 : Int32), .int a2, .int (0 : Int32)]) (rest := []) hC hR hS (c_X0_add l G n this (36 : Int32) a2 (0 : Int32) S8 S23 hc24 ok_this) ok_this rfl ⟨Nat.le_of_ble_eq_true rfl, Nat.le_of_ble_eq_true rfl⟩ hl.1 rfl (Nat.le_of_ble_eq_true rfl) dX0_cutSign_103 (Nat.zero_le _) (Nat.zero_le _) (fun H locs hR hS hE25 => ?_)
            have ok_this := hE25 _ _ ok_this
            have ok_a1 := hE25 _ _ ok_a1
            have ok_q12 := hE25 _ _ ok_q12
            have hE := hE.tr hE25
            refine lv_iload hx hb dX0_cutSign_106 (lv_at hl 0 rfl) ?_
            exact r_iret hC hR hS hE hf dX0_cutSign_108
    refine lv_icmp_eq (tgt := 61) hx hb dX0_cutSign_52 (by decide) (fun hc => ?_) (fun hc => ?_)
    · replace hf := if_t hf hc
      exact hj61_6 S4 _ _ _ hf hR hS hE ok_this ok_a1 (lv_sub hl [1, 2, 3, 4, 0] rfl)
    · replace hf := if_f hf hc
      refine lv_iload_n hx hb dX0_cutSign_55 rfl (lv_at hl 4 rfl) ?_
      refine lv_bipush (v := 25) hx hb dX0_cutSign_56 (by decide) ?_
      refine lv_icmp_ne (tgt := 99) hx hb dX0_cutSign_58 (by decide) (fun hc => ?_) (fun hc => ?_)
      · replace hf := if_f hf hc
        refine lv_aload_n hx hb dX0_cutSign_99 rfl (lv_at hl 1 rfl) ?_
        refine lv_iload_n hx hb dX0_cutSign_100 rfl (lv_at hl 4 rfl) ?_
        refine lv_iload_n hx hb dX0_cutSign_101 rfl (lv_at hl 3 rfl) ?_
        refine lv_iconst (v := 0) hx hb dX0_cutSign_102 (by decide) ?_
        obtain ⟨S26, hc27, hf⟩ := cv_of hf
        refine cl_RX0_50 (As := [.int x3, .int a2, .int (0 : Int32)]) (rest := []) hC hR hS (c_X0_add l G n this x3 a2 (0 : Int32) S4 S26 hc27 ok_this) ok_this rfl ⟨Nat.le_of_ble_eq_true rfl, Nat.le_of_ble_eq_true rfl⟩ hl.1 rfl (Nat.le_of_ble_eq_true rfl) dX0_cutSign_103 (Nat.zero_le _) (Nat.zero_le _) (fun H locs hR hS hE28 => ?_)
        have ok_this := hE28 _ _ ok_this
        have ok_a1 := hE28 _ _ ok_a1
        have hE := hE.tr hE28
        refine lv_iload hx hb dX0_cutSign_106 (lv_at hl 0 rfl) ?_
        exact r_iret hC hR hS hE hf dX0_cutSign_108
      · replace hf := if_t hf hc
        exact hj61_6 S4 _ _ _ hf hR hS hE ok_this ok_a1 (lv_sub hl [1, 2, 3, 4, 0] rfl)
  have hh47 : ∀ k : Nat, ∀ (x32 : Int32) (x33 : Int32) (S34 : MS) (H : Heap) (locs : List Loc) (ls : Array Slot), f_X0_cutSign_L6 n this a1 a2 j44_2 k x32 x33 S34 = some (ro, So) → Rp G S34 H → va_S (gA G) s.heap H locs → Ex S S34 → Ok S34 this 0 → Ok S34 a1 6 → lv_has ls 5 [(0, .ref this), (1, .ref a1), (2, .int a2), (3, .int x32), (4, .int x33)] → W p l e rX0_cutSign s m args below meth c H locs 0 0 (MQ below (Qn G S (some (.int ro)) So) args s 0 0 (gA G)) (F0 m 6 ls []) := by
    intro k
    induction k with
    | zero =>
      intro x32 x33 S34 H locs ls hf hR hS hE ok_this ok_a1 hl
      exact absurd hf (by rw [f_X0_cutSign_L6]; exact fun h => by cases h)
    | succ k ih =>
      intro x32 x33 S34 H locs ls hf hR hS hE ok_this ok_a1 hl
      rw [f_X0_cutSign_L6] at hf
      obtain ⟨rec6_31, erec6_31, hf⟩ := jn_of3 hf
      have hL6_30 : ∀ (x32 : Int32) (x33 : Int32) (S34 : MS) (H : Heap) (locs : List Loc) (ls : Array Slot), rec6_31 x32 x33 S34 = some (ro, So) → Rp G S34 H → va_S (gA G) s.heap H locs → Ex S S34 → Ok S34 this 0 → Ok S34 a1 6 → lv_has ls 5 [(0, .ref this), (1, .ref a1), (2, .int a2), (3, .int x32), (4, .int x33)] → W p l e rX0_cutSign s m args below meth c H locs 0 0 (MQ below (Qn G S (some (.int ro)) So) args s 0 0 (gA G)) (F0 m 6 ls []) := by
        intro x32 x33 S34 H locs ls hf hR hS hE ok_this ok_a1 hl
        rw [erec6_31] at hf
        exact ih x32 x33 S34 _ _ _ hf hR hS hE ok_this ok_a1 hl
      refine lv_iload hx hb dX0_cutSign_6 (lv_at hl 4 rfl) ?_
      refine r_ldc0 hC dX0_cutSign_8 ?_
      refine r_slen (i := 0) (v := 12) (by decide) (by decide) hC hR hS hl.1 ⟨Nat.le_of_ble_eq_true rfl, Nat.le_of_ble_eq_true rfl⟩ (Nat.le_of_ble_eq_true rfl) dX0_cutSign_10 (fun H locs hR hS => ?_)
      refine lv_icmp_ge (tgt := 44) hx hb dX0_cutSign_13 (by decide) (fun hc => ?_) (fun hc => ?_)
      · replace hf := if_t hf hc
        exact hj44_1 x32 S34 _ _ _ hf hR hS hE ok_this ok_a1 (lv_sub hl [0, 1, 2, 3] rfl)
      · replace hf := if_f hf hc
        refine r_ldc0 hC dX0_cutSign_16 ?_
        refine lv_iload hx hb dX0_cutSign_18 (lv_at hl 4 rfl) ?_
        obtain ⟨hi35, hf⟩ := ck_of hf
        refine r_schar (i := 0) (v := (chS 0 x33.toNatClampNeg)) (by decide) rfl hi35 hC hR hS hl.1 ⟨Nat.le_of_ble_eq_true rfl, Nat.le_of_ble_eq_true rfl⟩ (Nat.le_of_ble_eq_true rfl) dX0_cutSign_20 (fun H locs hR hS => ?_)
        refine lv_aload_n hx hb dX0_cutSign_23 rfl (lv_at hl 1 rfl) ?_
        obtain ⟨q36, hq37, ok_q36, hf⟩ := gR_of hf
        refine gf_RX0_30 hC hR ok_a1 hq37 dX0_cutSign_24 ?_
        refine lv_iload_n hx hb dX0_cutSign_27 rfl (lv_at hl 2 rfl) ?_
        obtain ⟨hi38, hf⟩ := ck_of hf
        refine r_iald hC hR ok_q36 hi38 dX0_cutSign_28 ?_
        obtain ⟨j38_40, ej38_40, hf⟩ := jn_of2 hf
        have hj38_39 : ∀ (x41 : Int32) (S42 : MS) (H : Heap) (locs : List Loc) (ls : Array Slot), j38_40 x41 S42 = some (ro, So) → Rp G S42 H → va_S (gA G) s.heap H locs → Ex S S42 → Ok S42 this 0 → Ok S42 a1 6 → lv_has ls 5 [(0, .ref this), (1, .ref a1), (2, .int a2), (3, .int x41), (4, .int x33)] → W p l e rX0_cutSign s m args below meth c H locs 0 0 (MQ below (Qn G S (some (.int ro)) So) args s 0 0 (gA G)) (F0 m 38 ls []) := by
          intro x41 S42 H locs ls hf hR hS hE ok_this ok_a1 hl
          rw [ej38_40] at hf
          refine r_iinc (n := 1) (z := 1) (lv' := fun x43 => [(4, .int x43), (0, .ref this), (1, .ref a1), (2, .int a2), (3, .int x41)]) hx hb dX0_cutSign_38 hl (k := 4) rfl (by decide) (by decide) (fun _ => rfl) hf (fun x43 ls hf hl => ?_)
          refine lv_goto (tgt := 6) hx hb dX0_cutSign_41 (by decide) ?_
          exact hL6_30 x41 x43 S42 _ _ _ hf hR hS hE ok_this ok_a1 (lv_sub hl [1, 2, 3, 4, 0] rfl)
        refine lv_icmp_ne (tgt := 38) hx hb dX0_cutSign_29 (by decide) (fun hc => ?_) (fun hc => ?_)
        · replace hf := if_f hf hc
          exact hj38_39 x32 S34 _ _ _ hf hR hS hE ok_this ok_a1 (lv_sub hl [0, 1, 2, 3, 4] rfl)
        · replace hf := if_t hf hc
          refine lv_bipush (v := 24) hx hb dX0_cutSign_32 (by decide) ?_
          refine lv_iload hx hb dX0_cutSign_34 (lv_at hl 4 rfl) ?_
          refine lv_iadd hx hb dX0_cutSign_36 ?_
          refine bdi hf (fun x44 hf => ?_)
          refine lv_istore_n (lv' := [(3, .int x44), (0, .ref this), (1, .ref a1), (2, .int a2), (4, .int x33)]) hx hb dX0_cutSign_37 rfl hl (by decide) rfl (fun ls hl => ?_)
          exact hj38_39 x44 S34 _ _ _ hf hR hS hE ok_this ok_a1 (lv_sub hl [1, 2, 3, 0, 4] rfl)
  exact hh47 n (40 : Int32) (0 : Int32) S _ _ _ hf hR hS hE ok_this ok_a1 (lv_sub hl [2, 3, 4, 1, 0] rfl)
abbrev rX0_isLetter : Room := { frames := 0, cells := 0, slots := 0, locals := 0 }
def f_X0_isLetter (_n : Nat) (a1 : Int32) (S : MS) : Option (Int32 × MS) :=
  jn (fun (S3 : MS) => (if a1 < (65 : Int32) then zb (0 : Int32) (some ((0 : Int32), S3)) else (if (90 : Int32) < a1 then zb (0 : Int32) (some ((0 : Int32), S3)) else zb (1 : Int32) (some ((1 : Int32), S3))))) fun j12_2 => (if a1 < (97 : Int32) then j12_2 S else (if a1 ≤ (122 : Int32) then zb (1 : Int32) (some ((1 : Int32), S)) else j12_2 S))
set_option maxRecDepth 100000 in
set_option maxHeartbeats 4000000 in
theorem c_X0_isLetter (l : Launch) (G : Gx) (n : Nat) (a1 : Int32) (S : MS) (ro : Int32) (So : MS) (hf : f_X0_isLetter n a1 S = some (ro, So)) : Cn G l yX0_isLetter cX0_isLetter 1 (some .boolean) rX0_isLetter [.int a1] S (some (.int ro)) So := by
  refine Cn.of (by decide) (Nat.le_of_ble_eq_true rfl) ?_
  intro p e s m args below meth c hC hname hR ls hl
  have hC : Cx G RX0 cX0_isLetter 1 (some .boolean) p s m args meth c := hC
  have hl : lv_has ls 1 [(0, .int a1)] := hl
  have hx := hC.x
  have hb := hC.b
  have hS : va_S (gA G) s.heap s.heap [] := va_S.rf
  have hE : Ex S S := Ex.rf S
  unfold f_X0_isLetter at hf
  refine lv_iload_n hx hb dX0_isLetter_0 rfl (lv_at hl 0 rfl) ?_
  refine lv_bipush (v := 97) hx hb dX0_isLetter_1 (by decide) ?_
  obtain ⟨j12_2, ej12_2, hf⟩ := jn_of1 hf
  have hj12_1 : ∀ (S3 : MS) (H : Heap) (locs : List Loc) (ls : Array Slot), j12_2 S3 = some (ro, So) → Rp G S3 H → va_S (gA G) s.heap H locs → Ex S S3 → lv_has ls 1 [(0, .int a1)] → W p l e rX0_isLetter s m args below meth c H locs 0 0 (MQ below (Qn G S (some (.int ro)) So) args s 0 0 (gA G)) (F0 m 12 ls []) := by
    intro S3 H locs ls hf hR hS hE  hl
    rw [ej12_2] at hf
    refine lv_iload_n hx hb dX0_isLetter_12 rfl (lv_at hl 0 rfl) ?_
    refine lv_bipush (v := 65) hx hb dX0_isLetter_13 (by decide) ?_
    refine lv_icmp_lt (tgt := 28) hx hb dX0_isLetter_15 (by decide) (fun hc => ?_) (fun hc => ?_)
    · replace hf := if_t hf hc
      refine lv_iconst (v := 0) hx hb dX0_isLetter_28 (by decide) ?_
      exact r_zret hC hR hS hE hf dX0_isLetter_29
    · replace hf := if_f hf hc
      refine lv_iload_n hx hb dX0_isLetter_18 rfl (lv_at hl 0 rfl) ?_
      refine lv_bipush (v := 90) hx hb dX0_isLetter_19 (by decide) ?_
      refine lv_icmp_gt (tgt := 28) hx hb dX0_isLetter_21 (by decide) (fun hc => ?_) (fun hc => ?_)
      · replace hf := if_t hf hc
        refine lv_iconst (v := 0) hx hb dX0_isLetter_28 (by decide) ?_
        exact r_zret hC hR hS hE hf dX0_isLetter_29
      · replace hf := if_f hf hc
        refine lv_iconst (v := 1) hx hb dX0_isLetter_24 (by decide) ?_
        refine lv_goto (tgt := 29) hx hb dX0_isLetter_25 (by decide) ?_
        exact r_zret hC hR hS hE hf dX0_isLetter_29
  refine lv_icmp_lt (tgt := 12) hx hb dX0_isLetter_3 (by decide) (fun hc => ?_) (fun hc => ?_)
  · replace hf := if_t hf hc
    exact hj12_1 S _ _ _ hf hR hS hE (lv_sub hl [0] rfl)
  · replace hf := if_f hf hc
    refine lv_iload_n hx hb dX0_isLetter_6 rfl (lv_at hl 0 rfl) ?_
    refine lv_bipush (v := 122) hx hb dX0_isLetter_7 (by decide) ?_
    refine lv_icmp_le (tgt := 24) hx hb dX0_isLetter_9 (by decide) (fun hc => ?_) (fun hc => ?_)
    · replace hf := if_t hf hc
      refine lv_iconst (v := 1) hx hb dX0_isLetter_24 (by decide) ?_
      refine lv_goto (tgt := 29) hx hb dX0_isLetter_25 (by decide) ?_
      exact r_zret hC hR hS hE hf dX0_isLetter_29
    · replace hf := if_f hf hc
      exact hj12_1 S _ _ _ hf hR hS hE (lv_sub hl [0] rfl)
abbrev rX0_wordOf : Room := { frames := 4, cells := 0, slots := 0, locals := 141 }
def f_X0_wordOf_L8 (n : Nat) (a1 : Nat) (a2 : Int32) (a3 : Int32) : Nat → Int32 → Int32 → Int32 → MS → Option (Int32 × MS)
  | 0, _, _, _, _ => none
  | k + 1, x3, x4, x5, S6 => jn (f_X0_wordOf_L8 n a1 a2 a3 k) fun rec8_2 => (if (116 : Int32) ≤ x5 then some ((40 : Int32), S6) else ck (inb x5 116) (bd (chS 1 x5.toNatClampNeg) fun x8 => jn (fun (x11 : Int32) (x12 : Int32) (S13 : MS) => bd (x5 + (1 : Int32)) fun x14 => rec8_2 x11 x12 x14 S13) fun j85_10 => (if x8 = (32 : Int32) then (if x4 = a3 then some (x3, S6) else bd (x3 + (1 : Int32)) fun x28 => j85_10 x28 a2 S6) else (if x4 = (-1 : Int32) then j85_10 x3 x4 S6 else jn (fun (x17 : Int32) (S18 : MS) => j85_10 x3 x17 S18) fun j83_16 => jn (fun (S21 : MS) => j83_16 (-1 : Int32) S21) fun j82_20 => (if a3 ≤ x4 then j82_20 S6 else gR S6 (mR S6 a1 0) 12 fun q22 => ck (inb x4 (mN S6 q22)) ((if (mI S6 q22 x4.toNatClampNeg) = x8 then j83_16 (x4 + (1 : Int32)) S6 else j82_20 S6)))))))
def f_X0_wordOf (n : Nat) (a1 : Nat) (a2 : Int32) (a3 : Int32) (S : MS) : Option (Int32 × MS) :=
  f_X0_wordOf_L8 n a1 a2 a3 n (0 : Int32) a2 (0 : Int32) S
set_option maxRecDepth 100000 in
set_option maxHeartbeats 4000000 in
theorem c_X0_wordOf (l : Launch) (G : Gx) (n : Nat) (a1 : Nat) (a2 : Int32) (a3 : Int32) (S : MS) (ro : Int32) (So : MS) (hf : f_X0_wordOf n a1 a2 a3 S = some (ro, So)) (ok_a1 : Ok S a1 6) : Cn G l yX0_wordOf cX0_wordOf 7 (some .int) rX0_wordOf [.ref a1, .int a2, .int a3] S (some (.int ro)) So := by
  refine Cn.of (by decide) (Nat.le_of_ble_eq_true rfl) ?_
  intro p e s m args below meth c hC hname hR ls hl
  have hC : Cx G RX0 cX0_wordOf 7 (some .int) p s m args meth c := hC
  have hl : lv_has ls 7 [(0, .ref a1), (1, .int a2), (2, .int a3)] := hl
  have hx := hC.x
  have hb := hC.b
  have hS : va_S (gA G) s.heap s.heap [] := va_S.rf
  have hE : Ex S S := Ex.rf S
  unfold f_X0_wordOf at hf
  refine lv_iconst (v := 0) hx hb dX0_wordOf_0 (by decide) ?_
  refine lv_istore_n (lv' := [(3, .int (0 : Int32)), (0, .ref a1), (1, .int a2), (2, .int a3)]) hx hb dX0_wordOf_1 rfl hl (by decide) rfl (fun ls hl => ?_)
  refine lv_iload_n hx hb dX0_wordOf_2 rfl (lv_at hl 2 rfl) ?_
  refine lv_istore (lv' := [(4, .int a2), (3, .int (0 : Int32)), (0, .ref a1), (1, .int a2), (2, .int a3)]) hx hb dX0_wordOf_3 hl (by decide) rfl (fun ls hl => ?_)
  refine lv_iconst (v := 0) hx hb dX0_wordOf_5 (by decide) ?_
  refine lv_istore (lv' := [(5, .int (0 : Int32)), (4, .int a2), (3, .int (0 : Int32)), (0, .ref a1), (1, .int a2), (2, .int a3)]) hx hb dX0_wordOf_6 hl (by decide) rfl (fun ls hl => ?_)
  have hh32 : ∀ k : Nat, ∀ (x3 : Int32) (x4 : Int32) (x5 : Int32) (S6 : MS) (H : Heap) (locs : List Loc) (ls : Array Slot), f_X0_wordOf_L8 n a1 a2 a3 k x3 x4 x5 S6 = some (ro, So) → Rp G S6 H → va_S (gA G) s.heap H locs → Ex S S6 → Ok S6 a1 6 → lv_has ls 7 [(0, .ref a1), (1, .int a2), (2, .int a3), (3, .int x3), (4, .int x4), (5, .int x5)] → W p l e rX0_wordOf s m args below meth c H locs 0 0 (MQ below (Qn G S (some (.int ro)) So) args s 0 0 (gA G)) (F0 m 8 ls []) := by
    intro k
    induction k with
    | zero =>
      intro x3 x4 x5 S6 H locs ls hf hR hS hE ok_a1 hl
      exact absurd hf (by rw [f_X0_wordOf_L8]; exact fun h => by cases h)
    | succ k ih =>
      intro x3 x4 x5 S6 H locs ls hf hR hS hE ok_a1 hl
      rw [f_X0_wordOf_L8] at hf
      obtain ⟨rec8_2, erec8_2, hf⟩ := jn_of4 hf
      have hL8_1 : ∀ (x3 : Int32) (x4 : Int32) (x5 : Int32) (S6 : MS) (H : Heap) (locs : List Loc) (ls : Array Slot), rec8_2 x3 x4 x5 S6 = some (ro, So) → Rp G S6 H → va_S (gA G) s.heap H locs → Ex S S6 → Ok S6 a1 6 → lv_has ls 7 [(0, .ref a1), (1, .int a2), (2, .int a3), (3, .int x3), (4, .int x4), (5, .int x5)] → W p l e rX0_wordOf s m args below meth c H locs 0 0 (MQ below (Qn G S (some (.int ro)) So) args s 0 0 (gA G)) (F0 m 8 ls []) := by
        intro x3 x4 x5 S6 H locs ls hf hR hS hE ok_a1 hl
        rw [erec8_2] at hf
        exact ih x3 x4 x5 S6 _ _ _ hf hR hS hE ok_a1 hl
      refine lv_iload hx hb dX0_wordOf_8 (lv_at hl 5 rfl) ?_
      refine r_ldc1 hC dX0_wordOf_10 ?_
      refine r_slen (i := 1) (v := 116) (by decide) (by decide) hC hR hS hl.1 ⟨Nat.le_of_ble_eq_true rfl, Nat.le_of_ble_eq_true rfl⟩ (Nat.le_of_ble_eq_true rfl) dX0_wordOf_12 (fun H locs hR hS => ?_)
      refine lv_icmp_ge (tgt := 91) hx hb dX0_wordOf_15 (by decide) (fun hc => ?_) (fun hc => ?_)
      · replace hf := if_t hf hc
        refine lv_bipush (v := 40) hx hb dX0_wordOf_91 (by decide) ?_
        exact r_iret hC hR hS hE hf dX0_wordOf_93
      · replace hf := if_f hf hc
        refine r_ldc1 hC dX0_wordOf_18 ?_
        refine lv_iload hx hb dX0_wordOf_20 (lv_at hl 5 rfl) ?_
        obtain ⟨hi7, hf⟩ := ck_of hf
        refine r_schar (i := 1) (v := (chS 1 x5.toNatClampNeg)) (by decide) rfl hi7 hC hR hS hl.1 ⟨Nat.le_of_ble_eq_true rfl, Nat.le_of_ble_eq_true rfl⟩ (Nat.le_of_ble_eq_true rfl) dX0_wordOf_22 (fun H locs hR hS => ?_)
        refine bdi hf (fun x8 hf => ?_)
        refine lv_istore (lv' := [(6, .int x8), (0, .ref a1), (1, .int a2), (2, .int a3), (3, .int x3), (4, .int x4), (5, .int x5)]) hx hb dX0_wordOf_25 hl (by decide) rfl (fun ls hl => ?_)
        refine lv_iload hx hb dX0_wordOf_27 (lv_at hl 0 rfl) ?_
        refine lv_bipush (v := 32) hx hb dX0_wordOf_29 (by decide) ?_
        obtain ⟨j85_10, ej85_10, hf⟩ := jn_of3 hf
        have hj85_9 : ∀ (x11 : Int32) (x12 : Int32) (S13 : MS) (H : Heap) (locs : List Loc) (ls : Array Slot), j85_10 x11 x12 S13 = some (ro, So) → Rp G S13 H → va_S (gA G) s.heap H locs → Ex S S13 → Ok S13 a1 6 → lv_has ls 7 [(0, .ref a1), (1, .int a2), (2, .int a3), (3, .int x11), (4, .int x12), (5, .int x5)] → W p l e rX0_wordOf s m args below meth c H locs 0 0 (MQ below (Qn G S (some (.int ro)) So) args s 0 0 (gA G)) (F0 m 85 ls []) := by
          intro x11 x12 S13 H locs ls hf hR hS hE ok_a1 hl
          rw [ej85_10] at hf
          refine r_iinc (n := 1) (z := 1) (lv' := fun x14 => [(5, .int x14), (0, .ref a1), (1, .int a2), (2, .int a3), (3, .int x11), (4, .int x12)]) hx hb dX0_wordOf_85 hl (k := 5) rfl (by decide) (by decide) (fun _ => rfl) hf (fun x14 ls hf hl => ?_)
          refine lv_goto (tgt := 8) hx hb dX0_wordOf_88 (by decide) ?_
          exact hL8_1 x11 x12 x14 S13 _ _ _ hf hR hS hE ok_a1 (lv_sub hl [1, 2, 3, 4, 5, 0] rfl)
        refine lv_icmp_ne (tgt := 51) hx hb dX0_wordOf_31 (by decide) (fun hc => ?_) (fun hc => ?_)
        · replace hf := if_f hf hc
          refine lv_iload hx hb dX0_wordOf_51 (lv_at hl 5 rfl) ?_
          refine lv_iconst (v := -1) hx hb dX0_wordOf_53 (by decide) ?_
          refine lv_icmp_eq (tgt := 85) hx hb dX0_wordOf_54 (by decide) (fun hc => ?_) (fun hc => ?_)
          · replace hf := if_t hf hc
            exact hj85_9 x3 x4 S6 _ _ _ hf hR hS hE ok_a1 (lv_sub hl [1, 2, 3, 4, 5, 6] rfl)
          · replace hf := if_f hf hc
            refine lv_iload hx hb dX0_wordOf_57 (lv_at hl 5 rfl) ?_
            refine lv_iload_n hx hb dX0_wordOf_59 rfl (lv_at hl 3 rfl) ?_
            obtain ⟨j83_16, ej83_16, hf⟩ := jn_of2 hf
            have hj83_15 : ∀ (x17 : Int32) (S18 : MS) (H : Heap) (locs : List Loc) (ls : Array Slot), j83_16 x17 S18 = some (ro, So) → Rp G S18 H → va_S (gA G) s.heap H locs → Ex S S18 → Ok S18 a1 6 → lv_has ls 7 [(0, .ref a1), (1, .int a2), (2, .int a3), (3, .int x3), (5, .int x5)] → W p l e rX0_wordOf s m args below meth c H locs 0 0 (MQ below (Qn G S (some (.int ro)) So) args s 0 0 (gA G)) (F0 m 83 ls [.int x17]) := by
              intro x17 S18 H locs ls hf hR hS hE ok_a1 hl
              rw [ej83_16] at hf
              refine lv_istore (lv' := [(4, .int x17), (0, .ref a1), (1, .int a2), (2, .int a3), (3, .int x3), (5, .int x5)]) hx hb dX0_wordOf_83 hl (by decide) rfl (fun ls hl => ?_)
              exact hj85_9 x3 x17 S18 _ _ _ hf hR hS hE ok_a1 (lv_sub hl [1, 2, 3, 4, 0, 5] rfl)
            obtain ⟨j82_20, ej82_20, hf⟩ := jn_of1 hf
            have hj82_19 : ∀ (S21 : MS) (H : Heap) (locs : List Loc) (ls : Array Slot), j82_20 S21 = some (ro, So) → Rp G S21 H → va_S (gA G) s.heap H locs → Ex S S21 → Ok S21 a1 6 → lv_has ls 7 [(0, .ref a1), (1, .int a2), (2, .int a3), (3, .int x3), (5, .int x5)] → W p l e rX0_wordOf s m args below meth c H locs 0 0 (MQ below (Qn G S (some (.int ro)) So) args s 0 0 (gA G)) (F0 m 82 ls []) := by
              intro S21 H locs ls hf hR hS hE ok_a1 hl
              rw [ej82_20] at hf
              refine lv_iconst (v := -1) hx hb dX0_wordOf_82 (by decide) ?_
              exact hj83_15 (-1 : Int32) S21 _ _ _ hf hR hS hE ok_a1 (lv_sub hl [0, 1, 2, 3, 4] rfl)
            refine lv_icmp_ge (tgt := 82) hx hb dX0_wordOf_60 (by decide) (fun hc => ?_) (fun hc => ?_)
            · replace hf := if_t hf hc
              exact hj82_19 S6 _ _ _ hf hR hS hE ok_a1 (lv_sub hl [1, 2, 3, 4, 6] rfl)
            · replace hf := if_f hf hc
              refine lv_aload_n hx hb dX0_wordOf_63 rfl (lv_at hl 1 rfl) ?_
              obtain ⟨q22, hq23, ok_q22, hf⟩ := gR_of hf
              refine gf_RX0_30 hC hR ok_a1 hq23 dX0_wordOf_64 ?_
              refine lv_iload hx hb dX0_wordOf_67 (lv_at hl 5 rfl) ?_
              obtain ⟨hi24, hf⟩ := ck_of hf
              refine r_iald hC hR ok_q22 hi24 dX0_wordOf_69 ?_
              refine lv_iload hx hb dX0_wordOf_70 (lv_at hl 0 rfl) ?_
              refine lv_icmp_ne (tgt := 82) hx hb dX0_wordOf_72 (by decide) (fun hc => ?_) (fun hc => ?_)
              · replace hf := if_f hf hc
                exact hj82_19 S6 _ _ _ hf hR hS hE ok_a1 (lv_sub hl [1, 2, 3, 4, 6] rfl)
              · replace hf := if_t hf hc
                refine lv_iload hx hb dX0_wordOf_75 (lv_at hl 5 rfl) ?_
                refine lv_iconst (v := 1) hx hb dX0_wordOf_77 (by decide) ?_
                refine lv_iadd hx hb dX0_wordOf_78 ?_
                refine lv_goto (tgt := 83) hx hb dX0_wordOf_79 (by decide) ?_
                exact hj83_15 (x4 + (1 : Int32)) S6 _ _ _ hf hR hS hE ok_a1 (lv_sub hl [1, 2, 3, 4, 6] rfl)
        · replace hf := if_t hf hc
          refine lv_iload hx hb dX0_wordOf_34 (lv_at hl 5 rfl) ?_
          refine lv_iload_n hx hb dX0_wordOf_36 rfl (lv_at hl 3 rfl) ?_
          refine lv_icmp_ne (tgt := 42) hx hb dX0_wordOf_37 (by decide) (fun hc => ?_) (fun hc => ?_)
          · replace hf := if_f hf hc
            refine r_iinc (n := 1) (z := 1) (lv' := fun x28 => [(3, .int x28), (6, .int x8), (0, .ref a1), (1, .int a2), (2, .int a3), (4, .int x4), (5, .int x5)]) hx hb dX0_wordOf_42 hl (k := 4) rfl (by decide) (by decide) (fun _ => rfl) hf (fun x28 ls hf hl => ?_)
            refine lv_iload_n hx hb dX0_wordOf_45 rfl (lv_at hl 3 rfl) ?_
            refine lv_istore (lv' := [(4, .int a2), (3, .int x28), (6, .int x8), (0, .ref a1), (1, .int a2), (2, .int a3), (5, .int x5)]) hx hb dX0_wordOf_46 hl (by decide) rfl (fun ls hl => ?_)
            refine lv_goto (tgt := 85) hx hb dX0_wordOf_48 (by decide) ?_
            exact hj85_9 x28 a2 S6 _ _ _ hf hR hS hE ok_a1 (lv_sub hl [3, 4, 5, 1, 0, 6] rfl)
          · replace hf := if_t hf hc
            refine lv_iload_n hx hb dX0_wordOf_40 rfl (lv_at hl 4 rfl) ?_
            exact r_iret hC hR hS hE hf dX0_wordOf_41
  exact hh32 n (0 : Int32) a2 (0 : Int32) S _ _ _ hf hR hS hE ok_a1 (lv_sub hl [3, 4, 5, 2, 1, 0] rfl)
abbrev rX0_cutWord : Room := { frames := 5, cells := 0, slots := 0, locals := 167 }
def f_X0_cutWord_L2 (n : Nat) (this : Nat) (a1 : Nat) (a2 : Int32) (j28_2 : Int32 → MS → Option (Int32 × MS)) : Nat → Int32 → MS → Option (Int32 × MS)
  | 0, _, _ => none
  | k + 1, x14, S15 => jn (f_X0_cutWord_L2 n this a1 a2 j28_2 k) fun rec2_13 => (if (mI S15 a1 1) ≤ x14 then j28_2 x14 S15 else gR S15 (mR S15 a1 0) 12 fun q16 => ck (inb x14 (mN S15 q16)) (cl (f_X0_isLetter n (mI S15 q16 x14.toNatClampNeg) S15) fun x22 S19 => (if x22 = 0 then j28_2 x14 S19 else bd (x14 + (1 : Int32)) fun x23 => rec2_13 x23 S19)))
def f_X0_cutWord (n : Nat) (this : Nat) (a1 : Nat) (a2 : Int32) (S : MS) : Option (Int32 × MS) :=
  jn (fun (x3 : Int32) (S4 : MS) => cl (f_X0_wordOf n a1 a2 x3 S4) fun x8 S5 => cv (f_X0_add n this x8 a2 (0 : Int32) S5) fun S9 => some (x3, S9)) fun j28_2 => f_X0_cutWord_L2 n this a1 a2 j28_2 n a2 S
set_option maxRecDepth 100000 in
set_option maxHeartbeats 4000000 in
theorem c_X0_cutWord (l : Launch) (G : Gx) (n : Nat) (this : Nat) (a1 : Nat) (a2 : Int32) (S : MS) (ro : Int32) (So : MS) (hf : f_X0_cutWord n this a1 a2 S = some (ro, So)) (ok_this : Ok S this 0) (ok_a1 : Ok S a1 6) : Cn G l yX0_cutWord cX0_cutWord 4 (some .int) rX0_cutWord [.ref this, .ref a1, .int a2] S (some (.int ro)) So := by
  refine Cn.of (by decide) (Nat.le_of_ble_eq_true rfl) ?_
  intro p e s m args below meth c hC hname hR ls hl
  have hC : Cx G RX0 cX0_cutWord 4 (some .int) p s m args meth c := hC
  have hl : lv_has ls 4 [(0, .ref this), (1, .ref a1), (2, .int a2)] := hl
  have hx := hC.x
  have hb := hC.b
  have hS : va_S (gA G) s.heap s.heap [] := va_S.rf
  have hE : Ex S S := Ex.rf S
  unfold f_X0_cutWord at hf
  refine lv_iload_n hx hb dX0_cutWord_0 rfl (lv_at hl 2 rfl) ?_
  refine lv_istore_n (lv' := [(3, .int a2), (0, .ref this), (1, .ref a1), (2, .int a2)]) hx hb dX0_cutWord_1 rfl hl (by decide) rfl (fun ls hl => ?_)
  obtain ⟨j28_2, ej28_2, hf⟩ := jn_of2 hf
  have hj28_1 : ∀ (x3 : Int32) (S4 : MS) (H : Heap) (locs : List Loc) (ls : Array Slot), j28_2 x3 S4 = some (ro, So) → Rp G S4 H → va_S (gA G) s.heap H locs → Ex S S4 → Ok S4 this 0 → Ok S4 a1 6 → lv_has ls 4 [(0, .ref this), (1, .ref a1), (2, .int a2), (3, .int x3)] → W p l e rX0_cutWord s m args below meth c H locs 0 0 (MQ below (Qn G S (some (.int ro)) So) args s 0 0 (gA G)) (F0 m 28 ls []) := by
    intro x3 S4 H locs ls hf hR hS hE ok_this ok_a1 hl
    rw [ej28_2] at hf
    refine lv_aload_n hx hb dX0_cutWord_28 rfl (lv_at hl 0 rfl) ?_
    refine lv_aload_n hx hb dX0_cutWord_29 rfl (lv_at hl 1 rfl) ?_
    refine lv_iload_n hx hb dX0_cutWord_30 rfl (lv_at hl 2 rfl) ?_
    refine lv_iload_n hx hb dX0_cutWord_31 rfl (lv_at hl 3 rfl) ?_
    obtain ⟨x8, S5, hc6, hf⟩ := cl_of hf
    refine cl_RX0_54 (As := [.ref a1, .int a2, .int x3]) (rest := [.ref this]) hC hR hS (c_X0_wordOf l G n a1 a2 x3 S4 x8 S5 hc6 ok_a1) rfl ⟨Nat.le_of_ble_eq_true rfl, Nat.le_of_ble_eq_true rfl⟩ hl.1 rfl (Nat.le_of_ble_eq_true rfl) dX0_cutWord_32 (Nat.zero_le _) (Nat.zero_le _) (fun H locs hR hS hE7 => ?_)
    have ok_this := hE7 _ _ ok_this
    have ok_a1 := hE7 _ _ ok_a1
    have hE := hE.tr hE7
    refine lv_iload_n hx hb dX0_cutWord_35 rfl (lv_at hl 2 rfl) ?_
    refine lv_iconst (v := 0) hx hb dX0_cutWord_36 (by decide) ?_
    obtain ⟨S9, hc10, hf⟩ := cv_of hf
    refine cl_RX0_50 (As := [.int x8, .int a2, .int (0 : Int32)]) (rest := []) hC hR hS (c_X0_add l G n this x8 a2 (0 : Int32) S5 S9 hc10 ok_this) ok_this rfl ⟨Nat.le_of_ble_eq_true rfl, Nat.le_of_ble_eq_true rfl⟩ hl.1 rfl (Nat.le_of_ble_eq_true rfl) dX0_cutWord_37 (Nat.zero_le _) (Nat.zero_le _) (fun H locs hR hS hE11 => ?_)
    have ok_this := hE11 _ _ ok_this
    have ok_a1 := hE11 _ _ ok_a1
    have hE := hE.tr hE11
    refine lv_iload_n hx hb dX0_cutWord_40 rfl (lv_at hl 3 rfl) ?_
    exact r_iret hC hR hS hE hf dX0_cutWord_41
  have hh24 : ∀ k : Nat, ∀ (x14 : Int32) (S15 : MS) (H : Heap) (locs : List Loc) (ls : Array Slot), f_X0_cutWord_L2 n this a1 a2 j28_2 k x14 S15 = some (ro, So) → Rp G S15 H → va_S (gA G) s.heap H locs → Ex S S15 → Ok S15 this 0 → Ok S15 a1 6 → lv_has ls 4 [(0, .ref this), (1, .ref a1), (2, .int a2), (3, .int x14)] → W p l e rX0_cutWord s m args below meth c H locs 0 0 (MQ below (Qn G S (some (.int ro)) So) args s 0 0 (gA G)) (F0 m 2 ls []) := by
    intro k
    induction k with
    | zero =>
      intro x14 S15 H locs ls hf hR hS hE ok_this ok_a1 hl
      exact absurd hf (by rw [f_X0_cutWord_L2]; exact fun h => by cases h)
    | succ k ih =>
      intro x14 S15 H locs ls hf hR hS hE ok_this ok_a1 hl
      rw [f_X0_cutWord_L2] at hf
      obtain ⟨rec2_13, erec2_13, hf⟩ := jn_of2 hf
      have hL2_12 : ∀ (x14 : Int32) (S15 : MS) (H : Heap) (locs : List Loc) (ls : Array Slot), rec2_13 x14 S15 = some (ro, So) → Rp G S15 H → va_S (gA G) s.heap H locs → Ex S S15 → Ok S15 this 0 → Ok S15 a1 6 → lv_has ls 4 [(0, .ref this), (1, .ref a1), (2, .int a2), (3, .int x14)] → W p l e rX0_cutWord s m args below meth c H locs 0 0 (MQ below (Qn G S (some (.int ro)) So) args s 0 0 (gA G)) (F0 m 2 ls []) := by
        intro x14 S15 H locs ls hf hR hS hE ok_this ok_a1 hl
        rw [erec2_13] at hf
        exact ih x14 S15 _ _ _ hf hR hS hE ok_this ok_a1 hl
      refine lv_iload_n hx hb dX0_cutWord_2 rfl (lv_at hl 3 rfl) ?_
      refine lv_aload_n hx hb dX0_cutWord_3 rfl (lv_at hl 1 rfl) ?_
      refine gf_RX0_25 hC hR ok_a1 dX0_cutWord_4 ?_
      refine lv_icmp_ge (tgt := 28) hx hb dX0_cutWord_7 (by decide) (fun hc => ?_) (fun hc => ?_)
      · replace hf := if_t hf hc
        exact hj28_1 x14 S15 _ _ _ hf hR hS hE ok_this ok_a1 (lv_sub hl [0, 1, 2, 3] rfl)
      · replace hf := if_f hf hc
        refine lv_aload_n hx hb dX0_cutWord_10 rfl (lv_at hl 1 rfl) ?_
        obtain ⟨q16, hq17, ok_q16, hf⟩ := gR_of hf
        refine gf_RX0_30 hC hR ok_a1 hq17 dX0_cutWord_11 ?_
        refine lv_iload_n hx hb dX0_cutWord_14 rfl (lv_at hl 3 rfl) ?_
        obtain ⟨hi18, hf⟩ := ck_of hf
        refine r_iald hC hR ok_q16 hi18 dX0_cutWord_15 ?_
        obtain ⟨x22, S19, hc20, hf⟩ := cl_of hf
        refine cl_RX0_33 (As := [.int (mI S15 q16 x14.toNatClampNeg)]) (rest := []) hC hR hS (c_X0_isLetter l G n (mI S15 q16 x14.toNatClampNeg) S15 x22 S19 hc20 ) rfl ⟨Nat.le_of_ble_eq_true rfl, Nat.le_of_ble_eq_true rfl⟩ hl.1 rfl (Nat.le_of_ble_eq_true rfl) dX0_cutWord_16 (Nat.zero_le _) (Nat.zero_le _) (fun H locs hR hS hE21 => ?_)
        have ok_this := hE21 _ _ ok_this
        have ok_a1 := hE21 _ _ ok_a1
        have ok_q16 := hE21 _ _ ok_q16
        have hE := hE.tr hE21
        refine lv_if_eq (tgt := 28) hx hb dX0_cutWord_19 (by decide) (fun hc => ?_) (fun hc => ?_)
        · replace hf := if_t hf hc
          exact hj28_1 x14 S19 _ _ _ hf hR hS hE ok_this ok_a1 (lv_sub hl [0, 1, 2, 3] rfl)
        · replace hf := if_f hf hc
          refine r_iinc (n := 1) (z := 1) (lv' := fun x23 => [(3, .int x23), (0, .ref this), (1, .ref a1), (2, .int a2)]) hx hb dX0_cutWord_22 hl (k := 3) rfl (by decide) (by decide) (fun _ => rfl) hf (fun x23 ls hf hl => ?_)
          refine lv_goto (tgt := 2) hx hb dX0_cutWord_25 (by decide) ?_
          exact hL2_12 x23 S19 _ _ _ hf hR hS hE ok_this ok_a1 (lv_sub hl [1, 2, 3, 0] rfl)
  exact hh24 n a2 S _ _ _ hf hR hS hE ok_this ok_a1 (lv_sub hl [1, 2, 3, 0] rfl)
abbrev rX0_cut : Room := { frames := 6, cells := 0, slots := 0, locals := 190 }
def f_X0_cut_L9 (n : Nat) (this : Nat) (a1 : Nat) : Nat → Int32 → Int32 → MS → Option (MS)
  | 0, _, _, _ => none
  | k + 1, x5, x6, S7 => jn (f_X0_cut_L9 n this a1 k) fun rec9_4 => (if (300 : Int32) ≤ x6 then cv (f_X0_add n this (39 : Int32) (mI S7 a1 1) (0 : Int32) S7) fun S8 => some S8 else (if (mI S7 a1 1) ≤ x5 then cv (f_X0_add n this (39 : Int32) (mI S7 a1 1) (0 : Int32) S7) fun S11 => some S11 else gR S7 (mR S7 a1 0) 12 fun q14 => ck (inb x5 (mN S7 q14)) (bd (mI S7 q14 x5.toNatClampNeg) fun x17 => jn (fun (x20 : Int32) (S21 : MS) => bd (x6 + (1 : Int32)) fun x22 => rec9_4 x20 x22 S21) fun j95_19 => jn (fun (S25 : MS) => bd (x5 + (1 : Int32)) fun x26 => j95_19 x26 S25) fun j46_24 => (if x17 = (32 : Int32) then j46_24 S7 else (if x17 = (10 : Int32) then j46_24 S7 else cl (f_X0_isLetter n x17 S7) fun x30 S27 => (if x30 = 0 then cl (f_X0_isDigit n x17 S27) fun x34 S31 => (if x34 = 0 then cl (f_X0_cutSign n this a1 x5 S31) fun x38 S35 => j95_19 x38 S35 else cl (f_X0_cutNumber n this a1 x5 S31) fun x42 S39 => j95_19 x42 S39) else cl (f_X0_cutWord n this a1 x5 S27) fun x46 S43 => j95_19 x46 S43))))))
def f_X0_cut (n : Nat) (this : Nat) (a1 : Nat) (S : MS) : Option (MS) :=
  bd (sI S this 3 (0 : Int32)) fun S1 => f_X0_cut_L9 n this a1 n (0 : Int32) (0 : Int32) S1
set_option maxRecDepth 100000 in
set_option maxHeartbeats 4000000 in
theorem c_X0_cut (l : Launch) (G : Gx) (n : Nat) (this : Nat) (a1 : Nat) (S : MS) (So : MS) (hf : f_X0_cut n this a1 S = some So) (ok_this : Ok S this 0) (ok_a1 : Ok S a1 6) : Cn G l yX0_cut cX0_cut 5 none rX0_cut [.ref this, .ref a1] S none So := by
  refine Cn.of (by decide) (Nat.le_of_ble_eq_true rfl) ?_
  intro p e s m args below meth c hC hname hR ls hl
  have hC : Cx G RX0 cX0_cut 5 none p s m args meth c := hC
  have hl : lv_has ls 5 [(0, .ref this), (1, .ref a1)] := hl
  have hx := hC.x
  have hb := hC.b
  have hS : va_S (gA G) s.heap s.heap [] := va_S.rf
  have hE : Ex S S := Ex.rf S
  unfold f_X0_cut at hf
  refine lv_aload_n hx hb dX0_cut_0 rfl (lv_at hl 0 rfl) ?_
  refine lv_iconst (v := 0) hx hb dX0_cut_1 (by decide) ?_
  refine pf_RX0_21 hC hR hS ok_this dX0_cut_2 hf (fun S1 H locs hf hR hS hE2 => ?_)
  have ok_this := hE2 _ _ ok_this
  have ok_a1 := hE2 _ _ ok_a1
  have hE := hE.tr hE2
  refine lv_iconst (v := 0) hx hb dX0_cut_5 (by decide) ?_
  refine lv_istore_n (lv' := [(2, .int (0 : Int32)), (0, .ref this), (1, .ref a1)]) hx hb dX0_cut_6 rfl hl (by decide) rfl (fun ls hl => ?_)
  refine lv_iconst (v := 0) hx hb dX0_cut_7 (by decide) ?_
  refine lv_istore_n (lv' := [(3, .int (0 : Int32)), (2, .int (0 : Int32)), (0, .ref this), (1, .ref a1)]) hx hb dX0_cut_8 rfl hl (by decide) rfl (fun ls hl => ?_)
  have hh50 : ∀ k : Nat, ∀ (x5 : Int32) (x6 : Int32) (S7 : MS) (H : Heap) (locs : List Loc) (ls : Array Slot), f_X0_cut_L9 n this a1 k x5 x6 S7 = some So → Rp G S7 H → va_S (gA G) s.heap H locs → Ex S S7 → Ok S7 this 0 → Ok S7 a1 6 → lv_has ls 5 [(0, .ref this), (1, .ref a1), (2, .int x5), (3, .int x6)] → W p l e rX0_cut s m args below meth c H locs 0 0 (MQ below (Qn G S none So) args s 0 0 (gA G)) (F0 m 9 ls []) := by
    intro k
    induction k with
    | zero =>
      intro x5 x6 S7 H locs ls hf hR hS hE ok_this ok_a1 hl
      exact absurd hf (by rw [f_X0_cut_L9]; exact fun h => by cases h)
    | succ k ih =>
      intro x5 x6 S7 H locs ls hf hR hS hE ok_this ok_a1 hl
      rw [f_X0_cut_L9] at hf
      obtain ⟨rec9_4, erec9_4, hf⟩ := jn_of3 hf
      have hL9_3 : ∀ (x5 : Int32) (x6 : Int32) (S7 : MS) (H : Heap) (locs : List Loc) (ls : Array Slot), rec9_4 x5 x6 S7 = some So → Rp G S7 H → va_S (gA G) s.heap H locs → Ex S S7 → Ok S7 this 0 → Ok S7 a1 6 → lv_has ls 5 [(0, .ref this), (1, .ref a1), (2, .int x5), (3, .int x6)] → W p l e rX0_cut s m args below meth c H locs 0 0 (MQ below (Qn G S none So) args s 0 0 (gA G)) (F0 m 9 ls []) := by
        intro x5 x6 S7 H locs ls hf hR hS hE ok_this ok_a1 hl
        rw [erec9_4] at hf
        exact ih x5 x6 S7 _ _ _ hf hR hS hE ok_this ok_a1 hl
      refine lv_iload_n hx hb dX0_cut_9 rfl (lv_at hl 3 rfl) ?_
      refine lv_sipush (v := 300) hx hb dX0_cut_10 (by decide) ?_
      refine lv_icmp_ge (tgt := 101) hx hb dX0_cut_13 (by decide) (fun hc => ?_) (fun hc => ?_)
      · replace hf := if_t hf hc
        refine lv_aload_n hx hb dX0_cut_101 rfl (lv_at hl 0 rfl) ?_
        refine lv_bipush (v := 39) hx hb dX0_cut_102 (by decide) ?_
        refine lv_aload_n hx hb dX0_cut_104 rfl (lv_at hl 1 rfl) ?_
        refine gf_RX0_25 hC hR ok_a1 dX0_cut_105 ?_
        refine lv_iconst (v := 0) hx hb dX0_cut_108 (by decide) ?_
        obtain ⟨S8, hc9, hf⟩ := cv_of hf
        refine cl_RX0_50 (As := [.int (39 : Int32), .int (mI S7 a1 1), .int (0 : Int32)]) (rest := []) hC hR hS (c_X0_add l G n this (39 : Int32) (mI S7 a1 1) (0 : Int32) S7 S8 hc9 ok_this) ok_this rfl ⟨Nat.le_of_ble_eq_true rfl, Nat.le_of_ble_eq_true rfl⟩ hl.1 rfl (Nat.le_of_ble_eq_true rfl) dX0_cut_109 (Nat.zero_le _) (Nat.zero_le _) (fun H locs hR hS hE10 => ?_)
        have ok_this := hE10 _ _ ok_this
        have ok_a1 := hE10 _ _ ok_a1
        have hE := hE.tr hE10
        exact r_vret hC hR hS hE hf dX0_cut_112
      · replace hf := if_f hf hc
        refine lv_iload_n hx hb dX0_cut_16 rfl (lv_at hl 2 rfl) ?_
        refine lv_aload_n hx hb dX0_cut_17 rfl (lv_at hl 1 rfl) ?_
        refine gf_RX0_25 hC hR ok_a1 dX0_cut_18 ?_
        refine lv_icmp_ge (tgt := 101) hx hb dX0_cut_21 (by decide) (fun hc => ?_) (fun hc => ?_)
        · replace hf := if_t hf hc
          refine lv_aload_n hx hb dX0_cut_101 rfl (lv_at hl 0 rfl) ?_
          refine lv_bipush (v := 39) hx hb dX0_cut_102 (by decide) ?_
          refine lv_aload_n hx hb dX0_cut_104 rfl (lv_at hl 1 rfl) ?_
          refine gf_RX0_25 hC hR ok_a1 dX0_cut_105 ?_
          refine lv_iconst (v := 0) hx hb dX0_cut_108 (by decide) ?_
          obtain ⟨S11, hc12, hf⟩ := cv_of hf
          refine cl_RX0_50 (As := [.int (39 : Int32), .int (mI S7 a1 1), .int (0 : Int32)]) (rest := []) hC hR hS (c_X0_add l G n this (39 : Int32) (mI S7 a1 1) (0 : Int32) S7 S11 hc12 ok_this) ok_this rfl ⟨Nat.le_of_ble_eq_true rfl, Nat.le_of_ble_eq_true rfl⟩ hl.1 rfl (Nat.le_of_ble_eq_true rfl) dX0_cut_109 (Nat.zero_le _) (Nat.zero_le _) (fun H locs hR hS hE13 => ?_)
          have ok_this := hE13 _ _ ok_this
          have ok_a1 := hE13 _ _ ok_a1
          have hE := hE.tr hE13
          exact r_vret hC hR hS hE hf dX0_cut_112
        · replace hf := if_f hf hc
          refine lv_aload_n hx hb dX0_cut_24 rfl (lv_at hl 1 rfl) ?_
          obtain ⟨q14, hq15, ok_q14, hf⟩ := gR_of hf
          refine gf_RX0_30 hC hR ok_a1 hq15 dX0_cut_25 ?_
          refine lv_iload_n hx hb dX0_cut_28 rfl (lv_at hl 2 rfl) ?_
          obtain ⟨hi16, hf⟩ := ck_of hf
          refine r_iald hC hR ok_q14 hi16 dX0_cut_29 ?_
          refine bdi hf (fun x17 hf => ?_)
          refine lv_istore (lv' := [(4, .int x17), (0, .ref this), (1, .ref a1), (2, .int x5), (3, .int x6)]) hx hb dX0_cut_30 hl (by decide) rfl (fun ls hl => ?_)
          refine lv_iload hx hb dX0_cut_32 (lv_at hl 0 rfl) ?_
          refine lv_bipush (v := 32) hx hb dX0_cut_34 (by decide) ?_
          obtain ⟨j95_19, ej95_19, hf⟩ := jn_of2 hf
          have hj95_18 : ∀ (x20 : Int32) (S21 : MS) (H : Heap) (locs : List Loc) (ls : Array Slot), j95_19 x20 S21 = some So → Rp G S21 H → va_S (gA G) s.heap H locs → Ex S S21 → Ok S21 this 0 → Ok S21 a1 6 → lv_has ls 5 [(0, .ref this), (1, .ref a1), (2, .int x20), (3, .int x6)] → W p l e rX0_cut s m args below meth c H locs 0 0 (MQ below (Qn G S none So) args s 0 0 (gA G)) (F0 m 95 ls []) := by
            intro x20 S21 H locs ls hf hR hS hE ok_this ok_a1 hl
            rw [ej95_19] at hf
            refine r_iinc (n := 1) (z := 1) (lv' := fun x22 => [(3, .int x22), (0, .ref this), (1, .ref a1), (2, .int x20)]) hx hb dX0_cut_95 hl (k := 3) rfl (by decide) (by decide) (fun _ => rfl) hf (fun x22 ls hf hl => ?_)
            refine lv_goto (tgt := 9) hx hb dX0_cut_98 (by decide) ?_
            exact hL9_3 x20 x22 S21 _ _ _ hf hR hS hE ok_this ok_a1 (lv_sub hl [1, 2, 3, 0] rfl)
          obtain ⟨j46_24, ej46_24, hf⟩ := jn_of1 hf
          have hj46_23 : ∀ (S25 : MS) (H : Heap) (locs : List Loc) (ls : Array Slot), j46_24 S25 = some So → Rp G S25 H → va_S (gA G) s.heap H locs → Ex S S25 → Ok S25 this 0 → Ok S25 a1 6 → lv_has ls 5 [(0, .ref this), (1, .ref a1), (2, .int x5), (3, .int x6)] → W p l e rX0_cut s m args below meth c H locs 0 0 (MQ below (Qn G S none So) args s 0 0 (gA G)) (F0 m 46 ls []) := by
            intro S25 H locs ls hf hR hS hE ok_this ok_a1 hl
            rw [ej46_24] at hf
            refine r_iinc (n := 1) (z := 1) (lv' := fun x26 => [(2, .int x26), (0, .ref this), (1, .ref a1), (3, .int x6)]) hx hb dX0_cut_46 hl (k := 2) rfl (by decide) (by decide) (fun _ => rfl) hf (fun x26 ls hf hl => ?_)
            refine lv_goto (tgt := 95) hx hb dX0_cut_49 (by decide) ?_
            exact hj95_18 x26 S25 _ _ _ hf hR hS hE ok_this ok_a1 (lv_sub hl [1, 2, 0, 3] rfl)
          refine lv_icmp_eq (tgt := 46) hx hb dX0_cut_36 (by decide) (fun hc => ?_) (fun hc => ?_)
          · replace hf := if_t hf hc
            exact hj46_23 S7 _ _ _ hf hR hS hE ok_this ok_a1 (lv_sub hl [1, 2, 3, 4] rfl)
          · replace hf := if_f hf hc
            refine lv_iload hx hb dX0_cut_39 (lv_at hl 0 rfl) ?_
            refine lv_bipush (v := 10) hx hb dX0_cut_41 (by decide) ?_
            refine lv_icmp_ne (tgt := 52) hx hb dX0_cut_43 (by decide) (fun hc => ?_) (fun hc => ?_)
            · replace hf := if_f hf hc
              refine lv_iload hx hb dX0_cut_52 (lv_at hl 0 rfl) ?_
              obtain ⟨x30, S27, hc28, hf⟩ := cl_of hf
              refine cl_RX0_33 (As := [.int x17]) (rest := []) hC hR hS (c_X0_isLetter l G n x17 S7 x30 S27 hc28 ) rfl ⟨Nat.le_of_ble_eq_true rfl, Nat.le_of_ble_eq_true rfl⟩ hl.1 rfl (Nat.le_of_ble_eq_true rfl) dX0_cut_54 (Nat.zero_le _) (Nat.zero_le _) (fun H locs hR hS hE29 => ?_)
              have ok_this := hE29 _ _ ok_this
              have ok_a1 := hE29 _ _ ok_a1
              have ok_q14 := hE29 _ _ ok_q14
              have hE := hE.tr hE29
              refine lv_if_eq (tgt := 70) hx hb dX0_cut_57 (by decide) (fun hc => ?_) (fun hc => ?_)
              · replace hf := if_t hf hc
                refine lv_iload hx hb dX0_cut_70 (lv_at hl 0 rfl) ?_
                obtain ⟨x34, S31, hc32, hf⟩ := cl_of hf
                refine cl_RX0_41 (As := [.int x17]) (rest := []) hC hR hS (c_X0_isDigit l G n x17 S27 x34 S31 hc32 ) rfl ⟨Nat.le_of_ble_eq_true rfl, Nat.le_of_ble_eq_true rfl⟩ hl.1 rfl (Nat.le_of_ble_eq_true rfl) dX0_cut_72 (Nat.zero_le _) (Nat.zero_le _) (fun H locs hR hS hE33 => ?_)
                have ok_this := hE33 _ _ ok_this
                have ok_a1 := hE33 _ _ ok_a1
                have ok_q14 := hE33 _ _ ok_q14
                have hE := hE.tr hE33
                refine lv_if_eq (tgt := 88) hx hb dX0_cut_75 (by decide) (fun hc => ?_) (fun hc => ?_)
                · replace hf := if_t hf hc
                  refine lv_aload_n hx hb dX0_cut_88 rfl (lv_at hl 1 rfl) ?_
                  refine lv_aload_n hx hb dX0_cut_89 rfl (lv_at hl 2 rfl) ?_
                  refine lv_iload_n hx hb dX0_cut_90 rfl (lv_at hl 3 rfl) ?_
                  obtain ⟨x38, S35, hc36, hf⟩ := cl_of hf
                  refine cl_RX0_47 (As := [.ref a1, .int x5]) (rest := []) hC hR hS (c_X0_cutSign l G n this a1 x5 S31 x38 S35 hc36 ok_this ok_a1) ok_this rfl ⟨Nat.le_of_ble_eq_true rfl, Nat.le_of_ble_eq_true rfl⟩ hl.1 rfl (Nat.le_of_ble_eq_true rfl) dX0_cut_91 (Nat.zero_le _) (Nat.zero_le _) (fun H locs hR hS hE37 => ?_)
                  have ok_this := hE37 _ _ ok_this
                  have ok_a1 := hE37 _ _ ok_a1
                  have ok_q14 := hE37 _ _ ok_q14
                  have hE := hE.tr hE37
                  refine lv_istore_n (lv' := [(2, .int x38), (4, .int x17), (0, .ref this), (1, .ref a1), (3, .int x6)]) hx hb dX0_cut_94 rfl hl (by decide) rfl (fun ls hl => ?_)
                  exact hj95_18 x38 S35 _ _ _ hf hR hS hE ok_this ok_a1 (lv_sub hl [2, 3, 0, 4] rfl)
                · replace hf := if_f hf hc
                  refine lv_aload_n hx hb dX0_cut_78 rfl (lv_at hl 1 rfl) ?_
                  refine lv_aload_n hx hb dX0_cut_79 rfl (lv_at hl 2 rfl) ?_
                  refine lv_iload_n hx hb dX0_cut_80 rfl (lv_at hl 3 rfl) ?_
                  obtain ⟨x42, S39, hc40, hf⟩ := cl_of hf
                  refine cl_RX0_44 (As := [.ref a1, .int x5]) (rest := []) hC hR hS (c_X0_cutNumber l G n this a1 x5 S31 x42 S39 hc40 ok_this ok_a1) ok_this rfl ⟨Nat.le_of_ble_eq_true rfl, Nat.le_of_ble_eq_true rfl⟩ hl.1 rfl (Nat.le_of_ble_eq_true rfl) dX0_cut_81 (Nat.zero_le _) (Nat.zero_le _) (fun H locs hR hS hE41 => ?_)
                  have ok_this := hE41 _ _ ok_this
                  have ok_a1 := hE41 _ _ ok_a1
                  have ok_q14 := hE41 _ _ ok_q14
                  have hE := hE.tr hE41
                  refine lv_istore_n (lv' := [(2, .int x42), (4, .int x17), (0, .ref this), (1, .ref a1), (3, .int x6)]) hx hb dX0_cut_84 rfl hl (by decide) rfl (fun ls hl => ?_)
                  refine lv_goto (tgt := 95) hx hb dX0_cut_85 (by decide) ?_
                  exact hj95_18 x42 S39 _ _ _ hf hR hS hE ok_this ok_a1 (lv_sub hl [2, 3, 0, 4] rfl)
              · replace hf := if_f hf hc
                refine lv_aload_n hx hb dX0_cut_60 rfl (lv_at hl 1 rfl) ?_
                refine lv_aload_n hx hb dX0_cut_61 rfl (lv_at hl 2 rfl) ?_
                refine lv_iload_n hx hb dX0_cut_62 rfl (lv_at hl 3 rfl) ?_
                obtain ⟨x46, S43, hc44, hf⟩ := cl_of hf
                refine cl_RX0_37 (As := [.ref a1, .int x5]) (rest := []) hC hR hS (c_X0_cutWord l G n this a1 x5 S27 x46 S43 hc44 ok_this ok_a1) ok_this rfl ⟨Nat.le_of_ble_eq_true rfl, Nat.le_of_ble_eq_true rfl⟩ hl.1 rfl (Nat.le_of_ble_eq_true rfl) dX0_cut_63 (Nat.zero_le _) (Nat.zero_le _) (fun H locs hR hS hE45 => ?_)
                have ok_this := hE45 _ _ ok_this
                have ok_a1 := hE45 _ _ ok_a1
                have ok_q14 := hE45 _ _ ok_q14
                have hE := hE.tr hE45
                refine lv_istore_n (lv' := [(2, .int x46), (4, .int x17), (0, .ref this), (1, .ref a1), (3, .int x6)]) hx hb dX0_cut_66 rfl hl (by decide) rfl (fun ls hl => ?_)
                refine lv_goto (tgt := 95) hx hb dX0_cut_67 (by decide) ?_
                exact hj95_18 x46 S43 _ _ _ hf hR hS hE ok_this ok_a1 (lv_sub hl [2, 3, 0, 4] rfl)
            · replace hf := if_t hf hc
              exact hj46_23 S7 _ _ _ hf hR hS hE ok_this ok_a1 (lv_sub hl [1, 2, 3, 4] rfl)
  exact hh50 n (0 : Int32) (0 : Int32) S1 _ _ _ hf hR hS hE ok_this ok_a1 (lv_sub hl [2, 3, 1, 0] rfl)
abbrev rX1_sidesOf : Room := { frames := 0, cells := 0, slots := 0, locals := 0 }
def f_X1_sidesOf (_n : Nat) (this : Nat) (a1 : Int64) (S : MS) : Option (Int64 × MS) :=
  bd ((lsh (a1 &&& ((mJ S this 7) ^^^ (-1 : Int64))) (1 : Int32)) ||| (lush (a1 &&& ((mJ S this 6) ^^^ (-1 : Int64))) (1 : Int32))) fun x1 => some ((((x1 ||| (lsh a1 (mI S this 0))) ||| (lush a1 (mI S this 0))) &&& (mJ S this 3)), S)
set_option maxRecDepth 100000 in
set_option maxHeartbeats 4000000 in
theorem c_X1_sidesOf (l : Launch) (G : Gx) (n : Nat) (this : Nat) (a1 : Int64) (S : MS) (ro : Int64) (So : MS) (hf : f_X1_sidesOf n this a1 S = some (ro, So)) (ok_this : Ok S this 1) : Cn G l yX1_sidesOf cX1_sidesOf 5 (some .long) rX1_sidesOf [.ref this, .long a1] S (some (.long ro)) So := by
  refine Cn.of (by decide) (Nat.le_of_ble_eq_true rfl) ?_
  intro p e s m args below meth c hC hname hR ls hl
  have hC : Cx G RX1 cX1_sidesOf 5 (some .long) p s m args meth c := hC
  have hl : lv_has ls 5 [(0, .ref this), (1, .long a1)] := hl
  have hx := hC.x
  have hb := hC.b
  have hS : va_S (gA G) s.heap s.heap [] := va_S.rf
  have hE : Ex S S := Ex.rf S
  unfold f_X1_sidesOf at hf
  refine lv_lload_n hx hb dX1_sidesOf_0 rfl (lv_at hl 1 rfl) ?_
  refine lv_aload_n hx hb dX1_sidesOf_1 rfl (lv_at hl 0 rfl) ?_
  refine gf_RX1_28 hC hR ok_this dX1_sidesOf_2 ?_
  refine lv_ldc2 (v := -1) hx hb hC.ow (hC.ts _ (bg6 _ (List.mem_of_getElem? (i := 6) rfl))) dX1_sidesOf_5 ?_
  refine lv_lxor hx hb dX1_sidesOf_8 ?_
  refine lv_land hx hb dX1_sidesOf_9 ?_
  refine lv_iconst (v := 1) hx hb dX1_sidesOf_10 (by decide) ?_
  refine lv_lshl (v := (lsh (a1 &&& ((mJ S this 7) ^^^ (-1 : Int64))) (1 : Int32))) hx hb dX1_sidesOf_11 rfl ?_
  refine lv_lload_n hx hb dX1_sidesOf_12 rfl (lv_at hl 1 rfl) ?_
  refine lv_aload_n hx hb dX1_sidesOf_13 rfl (lv_at hl 0 rfl) ?_
  refine gf_RX1_25 hC hR ok_this dX1_sidesOf_14 ?_
  refine lv_ldc2 (v := -1) hx hb hC.ow (hC.ts _ (bg6 _ (List.mem_of_getElem? (i := 6) rfl))) dX1_sidesOf_17 ?_
  refine lv_lxor hx hb dX1_sidesOf_20 ?_
  refine lv_land hx hb dX1_sidesOf_21 ?_
  refine lv_iconst (v := 1) hx hb dX1_sidesOf_22 (by decide) ?_
  refine lv_lushr (v := (lush (a1 &&& ((mJ S this 6) ^^^ (-1 : Int64))) (1 : Int32))) hx hb dX1_sidesOf_23 rfl ?_
  refine lv_lor hx hb dX1_sidesOf_24 ?_
  refine bdl hf (fun x1 hf => ?_)
  refine lv_lstore_n (lv' := [(3, .long x1), (0, .ref this), (1, .long a1)]) hx hb dX1_sidesOf_25 rfl hl (by decide) rfl (fun ls hl => ?_)
  refine lv_lload_n hx hb dX1_sidesOf_26 rfl (lv_at hl 0 rfl) ?_
  refine lv_lload_n hx hb dX1_sidesOf_27 rfl (lv_at hl 2 rfl) ?_
  refine lv_aload_n hx hb dX1_sidesOf_28 rfl (lv_at hl 1 rfl) ?_
  refine gf_RX1_9 hC hR ok_this dX1_sidesOf_29 ?_
  refine lv_lshl (v := (lsh a1 (mI S this 0))) hx hb dX1_sidesOf_32 rfl ?_
  refine lv_lor hx hb dX1_sidesOf_33 ?_
  refine lv_lload_n hx hb dX1_sidesOf_34 rfl (lv_at hl 2 rfl) ?_
  refine lv_aload_n hx hb dX1_sidesOf_35 rfl (lv_at hl 1 rfl) ?_
  refine gf_RX1_9 hC hR ok_this dX1_sidesOf_36 ?_
  refine lv_lushr (v := (lush a1 (mI S this 0))) hx hb dX1_sidesOf_39 rfl ?_
  refine lv_lor hx hb dX1_sidesOf_40 ?_
  refine lv_aload_n hx hb dX1_sidesOf_41 rfl (lv_at hl 1 rfl) ?_
  refine gf_RX1_21 hC hR ok_this dX1_sidesOf_42 ?_
  refine lv_land hx hb dX1_sidesOf_45 ?_
  exact r_lret hC hR hS hE hf dX1_sidesOf_46
abbrev rX1_init : Room := { frames := 1, cells := 1, slots := 64, locals := 40 }
def f_X1_init_L119 (n : Nat) (this : Nat) : Nat → Int32 → MS → Option (MS)
  | 0, _, _ => none
  | k + 1, x28, S29 => jn (f_X1_init_L119 n this k) fun rec119_27 => (if (mI S29 this 2) ≤ x28 then some S29 else gR S29 (mR S29 this 5) 13 fun q30 => cl (f_X1_sidesOf n this (lsh (1 : Int64) x28) S29) fun x35 S32 => ck (inb x28 (mN S32 q30)) (bd (sJ S32 q30 x28.toNatClampNeg x35) fun S37 => bd (x28 + (1 : Int32)) fun x39 => rec119_27 x39 S37))
def f_X1_init_L38 (n : Nat) (this : Nat) (a1 : Int32) (a2 : Int32) (j59_10 : Int64 → MS → Option (MS)) : Nat → Int64 → Int32 → MS → Option (MS)
  | 0, _, _, _ => none
  | k + 1, x43, x44, S45 => jn (f_X1_init_L38 n this a1 a2 j59_10 k) fun rec38_42 => (if a2 ≤ x44 then j59_10 x43 S45 else bd (x43 ||| (lsh (1 : Int64) (x44 * a1))) fun x46 => bd (x44 + (1 : Int32)) fun x47 => rec38_42 x46 x47 S45)
def f_X1_init (n : Nat) (z : Nat) (this : Nat) (a1 : Int32) (a2 : Int32) (S : MS) : Option (MS) :=
  bd (sI S this 0 a1) fun S1 => bd (sI S1 this 1 a2) fun S3 => bd (sI S3 this 2 (a1 * a2)) fun S5 => bd (sJ S5 this 3 ((lsh (1 : Int64) (mI S5 this 2)) - (1 : Int64))) fun S7 => jn (fun (x11 : Int64) (S12 : MS) => bd (sJ S12 this 6 x11) fun S13 => bd (sJ S13 this 7 (lsh x11 (a1 - (1 : Int32)))) fun S15 => bd ((lsh (1 : Int64) a1) - (1 : Int64)) fun x17 => bd (sJ S15 this 4 ((((mJ S15 this 6) ||| (mJ S15 this 7)) ||| x17) ||| (lsh x17 ((mI S15 this 2) - a1)))) fun S18 => ck (nak (mI S18 this 2) 64) (jn (z + (mL S18).length) fun q20 => bd (nw S18 q20 13 (mI S18 this 2).toNatClampNeg) fun S21 => bd (sR S21 this 5 (some q20)) fun S24 => f_X1_init_L119 n this n (0 : Int32) S24)) fun j59_10 => f_X1_init_L38 n this a1 a2 j59_10 n (0 : Int64) (0 : Int32) S7
set_option maxRecDepth 100000 in
set_option maxHeartbeats 4000000 in
theorem c_X1_init (l : Launch) (G : Gx) (n : Nat) (this : Nat) (a1 : Int32) (a2 : Int32) (S : MS) (So : MS) (hf : f_X1_init n G.2.2 this a1 a2 S = some So) (ok_this : Ok S this 1) : Cn G l yX1_init cX1_init 8 none rX1_init [.ref this, .int a1, .int a2] S none So := by
  refine Cn.of (by decide) (Nat.le_of_ble_eq_true rfl) ?_
  intro p e s m args below meth c hC hname hR ls hl
  have hC : Cx G RX1 cX1_init 8 none p s m args meth c := hC
  have hl : lv_has ls 8 [(0, .ref this), (1, .int a1), (2, .int a2)] := hl
  have hx := hC.x
  have hb := hC.b
  have hS : va_S (gA G) s.heap s.heap [] := va_S.rf
  have hE : Ex S S := Ex.rf S
  unfold f_X1_init at hf
  refine lv_aload_n hx hb dX1_init_0 rfl (lv_at hl 0 rfl) ?_
  refine r_obj hC hl.1 (bg5 _ (List.mem_of_getElem? (i := 16) rfl)) (bg1 _ (List.mem_of_getElem? (i := 14) rfl)) (bg1 _ (List.mem_of_getElem? (i := 15) rfl)) (Nat.le_of_ble_eq_true rfl) (Nat.le_of_ble_eq_true rfl) dX1_init_1 ?_
  refine lv_aload_n hx hb dX1_init_4 rfl (lv_at hl 0 rfl) ?_
  refine lv_iload_n hx hb dX1_init_5 rfl (lv_at hl 1 rfl) ?_
  refine pf_RX1_9 hC hR hS ok_this hname dX1_init_6 hf (fun S1 H locs hf hR hS hE2 => ?_)
  have ok_this := hE2 _ _ ok_this
  have hE := hE.tr hE2
  refine lv_aload_n hx hb dX1_init_9 rfl (lv_at hl 0 rfl) ?_
  refine lv_iload_n hx hb dX1_init_10 rfl (lv_at hl 2 rfl) ?_
  refine pf_RX1_15 hC hR hS ok_this hname dX1_init_11 hf (fun S3 H locs hf hR hS hE4 => ?_)
  have ok_this := hE4 _ _ ok_this
  have hE := hE.tr hE4
  refine lv_aload_n hx hb dX1_init_14 rfl (lv_at hl 0 rfl) ?_
  refine lv_iload_n hx hb dX1_init_15 rfl (lv_at hl 1 rfl) ?_
  refine lv_iload_n hx hb dX1_init_16 rfl (lv_at hl 2 rfl) ?_
  refine lv_imul hx hb dX1_init_17 ?_
  refine pf_RX1_18 hC hR hS ok_this hname dX1_init_18 hf (fun S5 H locs hf hR hS hE6 => ?_)
  have ok_this := hE6 _ _ ok_this
  have hE := hE.tr hE6
  refine lv_aload_n hx hb dX1_init_21 rfl (lv_at hl 0 rfl) ?_
  refine lv_lconst (v := 1) hx hb dX1_init_22 (by decide) ?_
  refine lv_aload_n hx hb dX1_init_23 rfl (lv_at hl 0 rfl) ?_
  refine gf_RX1_18 hC hR ok_this dX1_init_24 ?_
  refine lv_lshl (v := (lsh (1 : Int64) (mI S5 this 2))) hx hb dX1_init_27 rfl ?_
  refine lv_lconst (v := 1) hx hb dX1_init_28 (by decide) ?_
  refine lv_lsub hx hb dX1_init_29 ?_
  refine pf_RX1_21 hC hR hS ok_this hname dX1_init_30 hf (fun S7 H locs hf hR hS hE8 => ?_)
  have ok_this := hE8 _ _ ok_this
  have hE := hE.tr hE8
  refine lv_lconst (v := 0) hx hb dX1_init_33 (by decide) ?_
  refine lv_lstore_n (lv' := [(3, .long (0 : Int64)), (0, .ref this), (1, .int a1), (2, .int a2)]) hx hb dX1_init_34 rfl hl (by decide) rfl (fun ls hl => ?_)
  refine lv_iconst (v := 0) hx hb dX1_init_35 (by decide) ?_
  refine lv_istore (lv' := [(5, .int (0 : Int32)), (3, .long (0 : Int64)), (0, .ref this), (1, .int a1), (2, .int a2)]) hx hb dX1_init_36 hl (by decide) rfl (fun ls hl => ?_)
  obtain ⟨j59_10, ej59_10, hf⟩ := jn_of2 hf
  have hj59_9 : ∀ (x11 : Int64) (S12 : MS) (H : Heap) (locs : List Loc) (ls : Array Slot), j59_10 x11 S12 = some So → Rp G S12 H → va_S (gA G) s.heap H locs → Ex S S12 → Ok S12 this 1 → lv_has ls 8 [(0, .ref this), (1, .int a1), (3, .long x11)] → W p l e rX1_init s m args below meth c H locs 0 0 (MQ below (Qn G S none So) args s 1 64 (gA G)) (F0 m 59 ls []) := by
    intro x11 S12 H locs ls hf hR hS hE ok_this hl
    rw [ej59_10] at hf
    refine lv_aload_n hx hb dX1_init_59 rfl (lv_at hl 0 rfl) ?_
    refine lv_lload_n hx hb dX1_init_60 rfl (lv_at hl 2 rfl) ?_
    refine pf_RX1_25 hC hR hS ok_this hname dX1_init_61 hf (fun S13 H locs hf hR hS hE14 => ?_)
    have ok_this := hE14 _ _ ok_this
    have hE := hE.tr hE14
    refine lv_aload_n hx hb dX1_init_64 rfl (lv_at hl 0 rfl) ?_
    refine lv_lload_n hx hb dX1_init_65 rfl (lv_at hl 2 rfl) ?_
    refine lv_iload_n hx hb dX1_init_66 rfl (lv_at hl 1 rfl) ?_
    refine lv_iconst (v := 1) hx hb dX1_init_67 (by decide) ?_
    refine lv_isub hx hb dX1_init_68 ?_
    refine lv_lshl (v := (lsh x11 (a1 - (1 : Int32)))) hx hb dX1_init_69 rfl ?_
    refine pf_RX1_28 hC hR hS ok_this hname dX1_init_70 hf (fun S15 H locs hf hR hS hE16 => ?_)
    have ok_this := hE16 _ _ ok_this
    have hE := hE.tr hE16
    refine lv_lconst (v := 1) hx hb dX1_init_73 (by decide) ?_
    refine lv_iload_n hx hb dX1_init_74 rfl (lv_at hl 1 rfl) ?_
    refine lv_lshl (v := (lsh (1 : Int64) a1)) hx hb dX1_init_75 rfl ?_
    refine lv_lconst (v := 1) hx hb dX1_init_76 (by decide) ?_
    refine lv_lsub hx hb dX1_init_77 ?_
    refine bdl hf (fun x17 hf => ?_)
    refine lv_lstore (lv' := [(5, .long x17), (0, .ref this), (1, .int a1), (3, .long x11)]) hx hb dX1_init_78 hl (by decide) rfl (fun ls hl => ?_)
    refine lv_aload_n hx hb dX1_init_80 rfl (lv_at hl 1 rfl) ?_
    refine lv_aload_n hx hb dX1_init_81 rfl (lv_at hl 1 rfl) ?_
    refine gf_RX1_25 hC hR ok_this dX1_init_82 ?_
    refine lv_aload_n hx hb dX1_init_85 rfl (lv_at hl 1 rfl) ?_
    refine gf_RX1_28 hC hR ok_this dX1_init_86 ?_
    refine lv_lor hx hb dX1_init_89 ?_
    refine lv_lload hx hb dX1_init_90 (lv_at hl 0 rfl) ?_
    refine lv_lor hx hb dX1_init_92 ?_
    refine lv_lload hx hb dX1_init_93 (lv_at hl 0 rfl) ?_
    refine lv_aload_n hx hb dX1_init_95 rfl (lv_at hl 1 rfl) ?_
    refine gf_RX1_18 hC hR ok_this dX1_init_96 ?_
    refine lv_iload_n hx hb dX1_init_99 rfl (lv_at hl 2 rfl) ?_
    refine lv_isub hx hb dX1_init_100 ?_
    refine lv_lshl (v := (lsh x17 ((mI S15 this 2) - a1))) hx hb dX1_init_101 rfl ?_
    refine lv_lor hx hb dX1_init_102 ?_
    refine pf_RX1_31 hC hR hS ok_this hname dX1_init_103 hf (fun S18 H locs hf hR hS hE19 => ?_)
    have ok_this := hE19 _ _ ok_this
    have hE := hE.tr hE19
    refine lv_aload_n hx hb dX1_init_106 rfl (lv_at hl 1 rfl) ?_
    refine lv_aload_n hx hb dX1_init_107 rfl (lv_at hl 1 rfl) ?_
    refine gf_RX1_18 hC hR ok_this dX1_init_108 ?_
    obtain ⟨hi23, hf⟩ := ck_of hf
    obtain ⟨q20, eq20, hf⟩ := jn_of hf
    refine r_newa (ci := 13) (NB := 64) (t0 := 1) (ty := .long) rfl (bg6 _ (List.mem_of_getElem? (i := 0) rfl)) rfl (fun _ _ h => h) (atJ G) (by decide) hC hR hS hi23 (Nat.le_of_ble_eq_true rfl) (Nat.le_of_ble_eq_true rfl) dX1_init_111 eq20 hf (fun S21 H hf hR hS hE22 ok_q20 => ?_)
    have ok_this := hE22 _ _ ok_this
    have hE := hE.tr hE22
    refine pf_RX1_34 hC hR hS ok_this hname dX1_init_113 hf (fun S24 H locs hf hR hS hE25 => ?_)
    have ok_this := hE25 _ _ ok_this
    have ok_q20 := hE25 _ _ ok_q20
    have hE := hE.tr hE25
    refine lv_iconst (v := 0) hx hb dX1_init_116 (by decide) ?_
    refine lv_istore (lv' := [(7, .int (0 : Int32)), (5, .long x17), (0, .ref this), (1, .int a1), (3, .long x11)]) hx hb dX1_init_117 hl (by decide) rfl (fun ls hl => ?_)
    have hh40 : ∀ k : Nat, ∀ (x28 : Int32) (S29 : MS) (H : Heap) (locs : List Loc) (ls : Array Slot), f_X1_init_L119 n this k x28 S29 = some So → Rp G S29 H → va_S (gA G) s.heap H locs → Ex S S29 → Ok S29 this 1 → lv_has ls 8 [(0, .ref this), (7, .int x28)] → W p l e rX1_init s m args below meth c H locs 1 64 (MQ below (Qn G S none So) args s 1 64 (gA G)) (F0 m 119 ls []) := by
      intro k
      induction k with
      | zero =>
        intro x28 S29 H locs ls hf hR hS hE ok_this hl
        exact absurd hf (by rw [f_X1_init_L119]; exact fun h => by cases h)
      | succ k ih =>
        intro x28 S29 H locs ls hf hR hS hE ok_this hl
        rw [f_X1_init_L119] at hf
        obtain ⟨rec119_27, erec119_27, hf⟩ := jn_of2 hf
        have hL119_26 : ∀ (x28 : Int32) (S29 : MS) (H : Heap) (locs : List Loc) (ls : Array Slot), rec119_27 x28 S29 = some So → Rp G S29 H → va_S (gA G) s.heap H locs → Ex S S29 → Ok S29 this 1 → lv_has ls 8 [(0, .ref this), (7, .int x28)] → W p l e rX1_init s m args below meth c H locs 1 64 (MQ below (Qn G S none So) args s 1 64 (gA G)) (F0 m 119 ls []) := by
          intro x28 S29 H locs ls hf hR hS hE ok_this hl
          rw [erec119_27] at hf
          exact ih x28 S29 _ _ _ hf hR hS hE ok_this hl
        refine lv_iload hx hb dX1_init_119 (lv_at hl 1 rfl) ?_
        refine lv_aload_n hx hb dX1_init_121 rfl (lv_at hl 0 rfl) ?_
        refine gf_RX1_18 hC hR ok_this dX1_init_122 ?_
        refine lv_icmp_ge (tgt := 149) hx hb dX1_init_125 (by decide) (fun hc => ?_) (fun hc => ?_)
        · replace hf := if_t hf hc
          refine W.widen (k := 1) (n := 64) (Nat.le_of_ble_eq_true rfl) (Nat.le_of_ble_eq_true rfl) ?_
          exact r_vret hC hR hS hE hf dX1_init_149
        · replace hf := if_f hf hc
          refine lv_aload_n hx hb dX1_init_128 rfl (lv_at hl 0 rfl) ?_
          obtain ⟨q30, hq31, ok_q30, hf⟩ := gR_of hf
          refine gf_RX1_34 hC hR ok_this hq31 dX1_init_129 ?_
          refine lv_iload hx hb dX1_init_132 (lv_at hl 1 rfl) ?_
          refine lv_aload_n hx hb dX1_init_134 rfl (lv_at hl 0 rfl) ?_
          refine lv_lconst (v := 1) hx hb dX1_init_135 (by decide) ?_
          refine lv_iload hx hb dX1_init_136 (lv_at hl 1 rfl) ?_
          refine lv_lshl (v := (lsh (1 : Int64) x28)) hx hb dX1_init_138 rfl ?_
          obtain ⟨x35, S32, hc33, hf⟩ := cl_of hf
          refine cl_RX1_38 (As := [.long (lsh (1 : Int64) x28)]) (rest := [.int x28, .ref q30]) hC hR hS (c_X1_sidesOf l G n this (lsh (1 : Int64) x28) S29 x35 S32 hc33 ok_this) ok_this rfl ⟨Nat.le_of_ble_eq_true rfl, Nat.le_of_ble_eq_true rfl⟩ hl.1 rfl (Nat.le_of_ble_eq_true rfl) dX1_init_139 (Nat.le_of_ble_eq_true rfl) (Nat.le_of_ble_eq_true rfl) (fun H locs hR hS hE34 => ?_)
          have ok_this := hE34 _ _ ok_this
          have ok_q30 := hE34 _ _ ok_q30
          have hE := hE.tr hE34
          obtain ⟨hi36, hf⟩ := ck_of hf
          refine rB_last hC hR hS ok_q30 hi36 dX1_init_142 hf (fun S37 H locs hf hR hS hE38 => ?_)
          have ok_this := hE38 _ _ ok_this
          have ok_q30 := hE38 _ _ ok_q30
          have hE := hE.tr hE38
          refine r_iinc (n := 1) (z := 1) (lv' := fun x39 => [(7, .int x39), (0, .ref this)]) hx hb dX1_init_143 hl (k := 1) rfl (by decide) (by decide) (fun _ => rfl) hf (fun x39 ls hf hl => ?_)
          refine lv_goto (tgt := 119) hx hb dX1_init_146 (by decide) ?_
          exact hL119_26 x39 S37 _ _ _ hf hR hS hE ok_this (lv_sub hl [1, 0] rfl)
    exact hh40 n (0 : Int32) S24 _ _ _ hf hR hS hE ok_this (lv_sub hl [2, 0] rfl)
  have hh48 : ∀ k : Nat, ∀ (x43 : Int64) (x44 : Int32) (S45 : MS) (H : Heap) (locs : List Loc) (ls : Array Slot), f_X1_init_L38 n this a1 a2 j59_10 k x43 x44 S45 = some So → Rp G S45 H → va_S (gA G) s.heap H locs → Ex S S45 → Ok S45 this 1 → lv_has ls 8 [(0, .ref this), (1, .int a1), (2, .int a2), (3, .long x43), (5, .int x44)] → W p l e rX1_init s m args below meth c H locs 0 0 (MQ below (Qn G S none So) args s 1 64 (gA G)) (F0 m 38 ls []) := by
    intro k
    induction k with
    | zero =>
      intro x43 x44 S45 H locs ls hf hR hS hE ok_this hl
      exact absurd hf (by rw [f_X1_init_L38]; exact fun h => by cases h)
    | succ k ih =>
      intro x43 x44 S45 H locs ls hf hR hS hE ok_this hl
      rw [f_X1_init_L38] at hf
      obtain ⟨rec38_42, erec38_42, hf⟩ := jn_of3 hf
      have hL38_41 : ∀ (x43 : Int64) (x44 : Int32) (S45 : MS) (H : Heap) (locs : List Loc) (ls : Array Slot), rec38_42 x43 x44 S45 = some So → Rp G S45 H → va_S (gA G) s.heap H locs → Ex S S45 → Ok S45 this 1 → lv_has ls 8 [(0, .ref this), (1, .int a1), (2, .int a2), (3, .long x43), (5, .int x44)] → W p l e rX1_init s m args below meth c H locs 0 0 (MQ below (Qn G S none So) args s 1 64 (gA G)) (F0 m 38 ls []) := by
        intro x43 x44 S45 H locs ls hf hR hS hE ok_this hl
        rw [erec38_42] at hf
        exact ih x43 x44 S45 _ _ _ hf hR hS hE ok_this hl
      refine lv_iload hx hb dX1_init_38 (lv_at hl 4 rfl) ?_
      refine lv_iload_n hx hb dX1_init_40 rfl (lv_at hl 2 rfl) ?_
      refine lv_icmp_ge (tgt := 59) hx hb dX1_init_41 (by decide) (fun hc => ?_) (fun hc => ?_)
      · replace hf := if_t hf hc
        exact hj59_9 x43 S45 _ _ _ hf hR hS hE ok_this (lv_sub hl [0, 1, 3] rfl)
      · replace hf := if_f hf hc
        refine lv_lload_n hx hb dX1_init_44 rfl (lv_at hl 3 rfl) ?_
        refine lv_lconst (v := 1) hx hb dX1_init_45 (by decide) ?_
        refine lv_iload hx hb dX1_init_46 (lv_at hl 4 rfl) ?_
        refine lv_iload_n hx hb dX1_init_48 rfl (lv_at hl 1 rfl) ?_
        refine lv_imul hx hb dX1_init_49 ?_
        refine lv_lshl (v := (lsh (1 : Int64) (x44 * a1))) hx hb dX1_init_50 rfl ?_
        refine lv_lor hx hb dX1_init_51 ?_
        refine bdl hf (fun x46 hf => ?_)
        refine lv_lstore_n (lv' := [(3, .long x46), (0, .ref this), (1, .int a1), (2, .int a2), (5, .int x44)]) hx hb dX1_init_52 rfl hl (by decide) rfl (fun ls hl => ?_)
        refine r_iinc (n := 1) (z := 1) (lv' := fun x47 => [(5, .int x47), (3, .long x46), (0, .ref this), (1, .int a1), (2, .int a2)]) hx hb dX1_init_53 hl (k := 4) rfl (by decide) (by decide) (fun _ => rfl) hf (fun x47 ls hf hl => ?_)
        refine lv_goto (tgt := 38) hx hb dX1_init_56 (by decide) ?_
        exact hL38_41 x46 x47 S45 _ _ _ hf hR hS hE ok_this (lv_sub hl [2, 3, 4, 1, 0] rfl)
  exact hh48 n (0 : Int64) (0 : Int32) S7 _ _ _ hf hR hS hE ok_this (lv_sub hl [2, 3, 4, 1, 0] rfl)
abbrev rX1_holds : Room := { frames := 0, cells := 0, slots := 0, locals := 0 }
def f_X1_holds (_n : Nat) (this : Nat) (a1 : Int32) (S : MS) : Option (Int32 × MS) :=
  (if a1 < 0 then zb (0 : Int32) (some ((0 : Int32), S)) else (if (mI S this 2) ≤ a1 then zb (0 : Int32) (some ((0 : Int32), S)) else zb (1 : Int32) (some ((1 : Int32), S))))
set_option maxRecDepth 100000 in
set_option maxHeartbeats 4000000 in
theorem c_X1_holds (l : Launch) (G : Gx) (n : Nat) (this : Nat) (a1 : Int32) (S : MS) (ro : Int32) (So : MS) (hf : f_X1_holds n this a1 S = some (ro, So)) (ok_this : Ok S this 1) : Cn G l yX1_holds cX1_holds 2 (some .boolean) rX1_holds [.ref this, .int a1] S (some (.int ro)) So := by
  refine Cn.of (by decide) (Nat.le_of_ble_eq_true rfl) ?_
  intro p e s m args below meth c hC hname hR ls hl
  have hC : Cx G RX1 cX1_holds 2 (some .boolean) p s m args meth c := hC
  have hl : lv_has ls 2 [(0, .ref this), (1, .int a1)] := hl
  have hx := hC.x
  have hb := hC.b
  have hS : va_S (gA G) s.heap s.heap [] := va_S.rf
  have hE : Ex S S := Ex.rf S
  unfold f_X1_holds at hf
  refine lv_iload_n hx hb dX1_holds_0 rfl (lv_at hl 1 rfl) ?_
  refine lv_if_lt (tgt := 16) hx hb dX1_holds_1 (by decide) (fun hc => ?_) (fun hc => ?_)
  · replace hf := if_t hf hc
    refine lv_iconst (v := 0) hx hb dX1_holds_16 (by decide) ?_
    exact r_zret hC hR hS hE hf dX1_holds_17
  · replace hf := if_f hf hc
    refine lv_iload_n hx hb dX1_holds_4 rfl (lv_at hl 1 rfl) ?_
    refine lv_aload_n hx hb dX1_holds_5 rfl (lv_at hl 0 rfl) ?_
    refine gf_RX1_18 hC hR ok_this dX1_holds_6 ?_
    refine lv_icmp_ge (tgt := 16) hx hb dX1_holds_9 (by decide) (fun hc => ?_) (fun hc => ?_)
    · replace hf := if_t hf hc
      refine lv_iconst (v := 0) hx hb dX1_holds_16 (by decide) ?_
      exact r_zret hC hR hS hE hf dX1_holds_17
    · replace hf := if_f hf hc
      refine lv_iconst (v := 1) hx hb dX1_holds_12 (by decide) ?_
      refine lv_goto (tgt := 17) hx hb dX1_holds_13 (by decide) ?_
      exact r_zret hC hR hS hE hf dX1_holds_17
abbrev rX1_cellAt : Room := { frames := 0, cells := 0, slots := 0, locals := 0 }
def f_X1_cellAt (_n : Nat) (this : Nat) (a1 : Int32) (a2 : Int32) (S : MS) : Option (Int32 × MS) :=
  (if a1 < 0 then some ((-1 : Int32), S) else (if (mI S this 0) ≤ a1 then some ((-1 : Int32), S) else (if a2 < 0 then some ((-1 : Int32), S) else (if (mI S this 1) ≤ a2 then some ((-1 : Int32), S) else some ((a1 + ((mI S this 0) * a2)), S)))))
set_option maxRecDepth 100000 in
set_option maxHeartbeats 4000000 in
theorem c_X1_cellAt (l : Launch) (G : Gx) (n : Nat) (this : Nat) (a1 : Int32) (a2 : Int32) (S : MS) (ro : Int32) (So : MS) (hf : f_X1_cellAt n this a1 a2 S = some (ro, So)) (ok_this : Ok S this 1) : Cn G l yX1_cellAt cX1_cellAt 3 (some .int) rX1_cellAt [.ref this, .int a1, .int a2] S (some (.int ro)) So := by
  refine Cn.of (by decide) (Nat.le_of_ble_eq_true rfl) ?_
  intro p e s m args below meth c hC hname hR ls hl
  have hC : Cx G RX1 cX1_cellAt 3 (some .int) p s m args meth c := hC
  have hl : lv_has ls 3 [(0, .ref this), (1, .int a1), (2, .int a2)] := hl
  have hx := hC.x
  have hb := hC.b
  have hS : va_S (gA G) s.heap s.heap [] := va_S.rf
  have hE : Ex S S := Ex.rf S
  unfold f_X1_cellAt at hf
  refine lv_iload_n hx hb dX1_cellAt_0 rfl (lv_at hl 1 rfl) ?_
  refine lv_if_lt (tgt := 35) hx hb dX1_cellAt_1 (by decide) (fun hc => ?_) (fun hc => ?_)
  · replace hf := if_t hf hc
    refine lv_iconst (v := -1) hx hb dX1_cellAt_35 (by decide) ?_
    exact r_iret hC hR hS hE hf dX1_cellAt_36
  · replace hf := if_f hf hc
    refine lv_iload_n hx hb dX1_cellAt_4 rfl (lv_at hl 1 rfl) ?_
    refine lv_aload_n hx hb dX1_cellAt_5 rfl (lv_at hl 0 rfl) ?_
    refine gf_RX1_9 hC hR ok_this dX1_cellAt_6 ?_
    refine lv_icmp_ge (tgt := 35) hx hb dX1_cellAt_9 (by decide) (fun hc => ?_) (fun hc => ?_)
    · replace hf := if_t hf hc
      refine lv_iconst (v := -1) hx hb dX1_cellAt_35 (by decide) ?_
      exact r_iret hC hR hS hE hf dX1_cellAt_36
    · replace hf := if_f hf hc
      refine lv_iload_n hx hb dX1_cellAt_12 rfl (lv_at hl 2 rfl) ?_
      refine lv_if_lt (tgt := 35) hx hb dX1_cellAt_13 (by decide) (fun hc => ?_) (fun hc => ?_)
      · replace hf := if_t hf hc
        refine lv_iconst (v := -1) hx hb dX1_cellAt_35 (by decide) ?_
        exact r_iret hC hR hS hE hf dX1_cellAt_36
      · replace hf := if_f hf hc
        refine lv_iload_n hx hb dX1_cellAt_16 rfl (lv_at hl 2 rfl) ?_
        refine lv_aload_n hx hb dX1_cellAt_17 rfl (lv_at hl 0 rfl) ?_
        refine gf_RX1_15 hC hR ok_this dX1_cellAt_18 ?_
        refine lv_icmp_ge (tgt := 35) hx hb dX1_cellAt_21 (by decide) (fun hc => ?_) (fun hc => ?_)
        · replace hf := if_t hf hc
          refine lv_iconst (v := -1) hx hb dX1_cellAt_35 (by decide) ?_
          exact r_iret hC hR hS hE hf dX1_cellAt_36
        · replace hf := if_f hf hc
          refine lv_iload_n hx hb dX1_cellAt_24 rfl (lv_at hl 1 rfl) ?_
          refine lv_aload_n hx hb dX1_cellAt_25 rfl (lv_at hl 0 rfl) ?_
          refine gf_RX1_9 hC hR ok_this dX1_cellAt_26 ?_
          refine lv_iload_n hx hb dX1_cellAt_29 rfl (lv_at hl 2 rfl) ?_
          refine lv_imul hx hb dX1_cellAt_30 ?_
          refine lv_iadd hx hb dX1_cellAt_31 ?_
          refine lv_goto (tgt := 36) hx hb dX1_cellAt_32 (by decide) ?_
          exact r_iret hC hR hS hE hf dX1_cellAt_36
abbrev rX1_cellBeside : Room := { frames := 1, cells := 0, slots := 0, locals := 22 }
def f_X1_cellBeside (n : Nat) (this : Nat) (a1 : Int32) (a2 : Int32) (a3 : Int32) (S : MS) : Option (Int32 × MS) :=
  dv (mI S this 0) (dv (mI S this 0) (cl (f_X1_cellAt n this ((a1 - a1 / (mI S this 0) * (mI S this 0)) + a2) ((a1 / (mI S this 0)) + a3) S) fun x6 S3 => some (x6, S3)))
set_option maxRecDepth 100000 in
set_option maxHeartbeats 4000000 in
theorem c_X1_cellBeside (l : Launch) (G : Gx) (n : Nat) (this : Nat) (a1 : Int32) (a2 : Int32) (a3 : Int32) (S : MS) (ro : Int32) (So : MS) (hf : f_X1_cellBeside n this a1 a2 a3 S = some (ro, So)) (ok_this : Ok S this 1) : Cn G l yX1_cellBeside cX1_cellBeside 4 (some .int) rX1_cellBeside [.ref this, .int a1, .int a2, .int a3] S (some (.int ro)) So := by
  refine Cn.of (by decide) (Nat.le_of_ble_eq_true rfl) ?_
  intro p e s m args below meth c hC hname hR ls hl
  have hC : Cx G RX1 cX1_cellBeside 4 (some .int) p s m args meth c := hC
  have hl : lv_has ls 4 [(0, .ref this), (1, .int a1), (2, .int a2), (3, .int a3)] := hl
  have hx := hC.x
  have hb := hC.b
  have hS : va_S (gA G) s.heap s.heap [] := va_S.rf
  have hE : Ex S S := Ex.rf S
  unfold f_X1_cellBeside at hf
  refine lv_aload_n hx hb dX1_cellBeside_0 rfl (lv_at hl 0 rfl) ?_
  refine lv_iload_n hx hb dX1_cellBeside_1 rfl (lv_at hl 1 rfl) ?_
  refine lv_aload_n hx hb dX1_cellBeside_2 rfl (lv_at hl 0 rfl) ?_
  refine gf_RX1_9 hC hR ok_this dX1_cellBeside_3 ?_
  obtain ⟨hn1, hf⟩ := dv_of hf
  refine lv_irem hx hb dX1_cellBeside_6 hn1 ?_
  refine lv_iload_n hx hb dX1_cellBeside_7 rfl (lv_at hl 2 rfl) ?_
  refine lv_iadd hx hb dX1_cellBeside_8 ?_
  refine lv_iload_n hx hb dX1_cellBeside_9 rfl (lv_at hl 1 rfl) ?_
  refine lv_aload_n hx hb dX1_cellBeside_10 rfl (lv_at hl 0 rfl) ?_
  refine gf_RX1_9 hC hR ok_this dX1_cellBeside_11 ?_
  obtain ⟨hn2, hf⟩ := dv_of hf
  refine lv_idiv hx hb dX1_cellBeside_14 hn2 ?_
  refine lv_iload_n hx hb dX1_cellBeside_15 rfl (lv_at hl 3 rfl) ?_
  refine lv_iadd hx hb dX1_cellBeside_16 ?_
  obtain ⟨x6, S3, hc4, hf⟩ := cl_of hf
  refine cl_RX1_42 (As := [.int ((a1 - a1 / (mI S this 0) * (mI S this 0)) + a2), .int ((a1 / (mI S this 0)) + a3)]) (rest := []) hC hR hS (c_X1_cellAt l G n this ((a1 - a1 / (mI S this 0) * (mI S this 0)) + a2) ((a1 / (mI S this 0)) + a3) S x6 S3 hc4 ok_this) ok_this rfl ⟨Nat.le_of_ble_eq_true rfl, Nat.le_of_ble_eq_true rfl⟩ hl.1 rfl (Nat.le_of_ble_eq_true rfl) dX1_cellBeside_17 (Nat.zero_le _) (Nat.zero_le _) (fun H locs hR hS hE5 => ?_)
  have ok_this := hE5 _ _ ok_this
  have hE := hE.tr hE5
  exact r_iret hC hR hS hE hf dX1_cellBeside_20
abbrev rX1_spread : Room := { frames := 1, cells := 0, slots := 0, locals := 24 }
def f_X1_spread_L8 (n : Nat) (this : Nat) (a2 : Int64) : Nat → Int64 → Int32 → MS → Option (Int64 × MS)
  | 0, _, _, _ => none
  | k + 1, x4, x5, S6 => jn (f_X1_spread_L8 n this a2 k) fun rec8_3 => (if (mI S6 this 2) ≤ x5 then some (x4, S6) else cl (f_X1_sidesOf n this x4 S6) fun x10 S7 => bd (x4 ||| (x10 &&& a2)) fun x11 => (if (lg_cmp x11 x4) = 0 then some (x4, S7) else bd (x5 + (1 : Int32)) fun x12 => rec8_3 x11 x12 S7))
def f_X1_spread (n : Nat) (this : Nat) (a1 : Int64) (a2 : Int64) (S : MS) : Option (Int64 × MS) :=
  bd (a1 &&& a2) fun x1 => f_X1_spread_L8 n this a2 n x1 (0 : Int32) S
set_option maxRecDepth 100000 in
set_option maxHeartbeats 4000000 in
theorem c_X1_spread (l : Launch) (G : Gx) (n : Nat) (this : Nat) (a1 : Int64) (a2 : Int64) (S : MS) (ro : Int64) (So : MS) (hf : f_X1_spread n this a1 a2 S = some (ro, So)) (ok_this : Ok S this 1) : Cn G l yX1_spread cX1_spread 10 (some .long) rX1_spread [.ref this, .long a1, .long a2] S (some (.long ro)) So := by
  refine Cn.of (by decide) (Nat.le_of_ble_eq_true rfl) ?_
  intro p e s m args below meth c hC hname hR ls hl
  have hC : Cx G RX1 cX1_spread 10 (some .long) p s m args meth c := hC
  have hl : lv_has ls 10 [(0, .ref this), (1, .long a1), (3, .long a2)] := hl
  have hx := hC.x
  have hb := hC.b
  have hS : va_S (gA G) s.heap s.heap [] := va_S.rf
  have hE : Ex S S := Ex.rf S
  unfold f_X1_spread at hf
  refine lv_lload_n hx hb dX1_spread_0 rfl (lv_at hl 1 rfl) ?_
  refine lv_lload_n hx hb dX1_spread_1 rfl (lv_at hl 2 rfl) ?_
  refine lv_land hx hb dX1_spread_2 ?_
  refine bdl hf (fun x1 hf => ?_)
  refine lv_lstore (lv' := [(5, .long x1), (0, .ref this), (1, .long a1), (3, .long a2)]) hx hb dX1_spread_3 hl (by decide) rfl (fun ls hl => ?_)
  refine lv_iconst (v := 0) hx hb dX1_spread_5 (by decide) ?_
  refine lv_istore (lv' := [(7, .int (0 : Int32)), (5, .long x1), (0, .ref this), (1, .long a1), (3, .long a2)]) hx hb dX1_spread_6 hl (by decide) rfl (fun ls hl => ?_)
  have hh13 : ∀ k : Nat, ∀ (x4 : Int64) (x5 : Int32) (S6 : MS) (H : Heap) (locs : List Loc) (ls : Array Slot), f_X1_spread_L8 n this a2 k x4 x5 S6 = some (ro, So) → Rp G S6 H → va_S (gA G) s.heap H locs → Ex S S6 → Ok S6 this 1 → lv_has ls 10 [(0, .ref this), (3, .long a2), (5, .long x4), (7, .int x5)] → W p l e rX1_spread s m args below meth c H locs 0 0 (MQ below (Qn G S (some (.long ro)) So) args s 0 0 (gA G)) (F0 m 8 ls []) := by
    intro k
    induction k with
    | zero =>
      intro x4 x5 S6 H locs ls hf hR hS hE ok_this hl
      exact absurd hf (by rw [f_X1_spread_L8]; exact fun h => by cases h)
    | succ k ih =>
      intro x4 x5 S6 H locs ls hf hR hS hE ok_this hl
      rw [f_X1_spread_L8] at hf
      obtain ⟨rec8_3, erec8_3, hf⟩ := jn_of3 hf
      have hL8_2 : ∀ (x4 : Int64) (x5 : Int32) (S6 : MS) (H : Heap) (locs : List Loc) (ls : Array Slot), rec8_3 x4 x5 S6 = some (ro, So) → Rp G S6 H → va_S (gA G) s.heap H locs → Ex S S6 → Ok S6 this 1 → lv_has ls 10 [(0, .ref this), (3, .long a2), (5, .long x4), (7, .int x5)] → W p l e rX1_spread s m args below meth c H locs 0 0 (MQ below (Qn G S (some (.long ro)) So) args s 0 0 (gA G)) (F0 m 8 ls []) := by
        intro x4 x5 S6 H locs ls hf hR hS hE ok_this hl
        rw [erec8_3] at hf
        exact ih x4 x5 S6 _ _ _ hf hR hS hE ok_this hl
      refine lv_iload hx hb dX1_spread_8 (lv_at hl 3 rfl) ?_
      refine lv_aload_n hx hb dX1_spread_10 rfl (lv_at hl 0 rfl) ?_
      refine gf_RX1_18 hC hR ok_this dX1_spread_11 ?_
      refine lv_icmp_ge (tgt := 51) hx hb dX1_spread_14 (by decide) (fun hc => ?_) (fun hc => ?_)
      · replace hf := if_t hf hc
        refine lv_lload hx hb dX1_spread_51 (lv_at hl 2 rfl) ?_
        exact r_lret hC hR hS hE hf dX1_spread_53
      · replace hf := if_f hf hc
        refine lv_lload hx hb dX1_spread_17 (lv_at hl 2 rfl) ?_
        refine lv_aload_n hx hb dX1_spread_19 rfl (lv_at hl 0 rfl) ?_
        refine lv_lload hx hb dX1_spread_20 (lv_at hl 2 rfl) ?_
        obtain ⟨x10, S7, hc8, hf⟩ := cl_of hf
        refine cl_RX1_38 (As := [.long x4]) (rest := [.long x4]) hC hR hS (c_X1_sidesOf l G n this x4 S6 x10 S7 hc8 ok_this) ok_this rfl ⟨Nat.le_of_ble_eq_true rfl, Nat.le_of_ble_eq_true rfl⟩ hl.1 rfl (Nat.le_of_ble_eq_true rfl) dX1_spread_22 (Nat.zero_le _) (Nat.zero_le _) (fun H locs hR hS hE9 => ?_)
        have ok_this := hE9 _ _ ok_this
        have hE := hE.tr hE9
        refine lv_lload_n hx hb dX1_spread_25 rfl (lv_at hl 1 rfl) ?_
        refine lv_land hx hb dX1_spread_26 ?_
        refine lv_lor hx hb dX1_spread_27 ?_
        refine bdl hf (fun x11 hf => ?_)
        refine lv_lstore (lv' := [(8, .long x11), (0, .ref this), (3, .long a2), (5, .long x4), (7, .int x5)]) hx hb dX1_spread_28 hl (by decide) rfl (fun ls hl => ?_)
        refine lv_lload hx hb dX1_spread_30 (lv_at hl 0 rfl) ?_
        refine lv_lload hx hb dX1_spread_32 (lv_at hl 3 rfl) ?_
        refine W.lcmp hx hb dX1_spread_34 ?_
        refine lv_if_ne (tgt := 41) hx hb dX1_spread_35 (by decide) (fun hc => ?_) (fun hc => ?_)
        · replace hf := if_f hf hc
          refine lv_lload hx hb dX1_spread_41 (lv_at hl 0 rfl) ?_
          refine lv_lstore (lv' := [(5, .long x11), (8, .long x11), (0, .ref this), (3, .long a2), (7, .int x5)]) hx hb dX1_spread_43 hl (by decide) rfl (fun ls hl => ?_)
          refine r_iinc (n := 1) (z := 1) (lv' := fun x12 => [(7, .int x12), (5, .long x11), (8, .long x11), (0, .ref this), (3, .long a2)]) hx hb dX1_spread_45 hl (k := 4) rfl (by decide) (by decide) (fun _ => rfl) hf (fun x12 ls hf hl => ?_)
          refine lv_goto (tgt := 8) hx hb dX1_spread_48 (by decide) ?_
          exact hL8_2 x11 x12 S7 _ _ _ hf hR hS hE ok_this (lv_sub hl [3, 4, 1, 0] rfl)
        · replace hf := if_t hf hc
          refine lv_lload hx hb dX1_spread_38 (lv_at hl 3 rfl) ?_
          exact r_lret hC hR hS hE hf dX1_spread_40
  exact hh13 n x1 (0 : Int32) S _ _ _ hf hR hS hE ok_this (lv_sub hl [2, 4, 1, 0] rfl)
abbrev rJ13_bitCount_95d88 : Room := { frames := 0, cells := 0, slots := 0, locals := 0 }
def f_J13_bitCount_95d88 (_n : Nat) (a1 : Int64) (S : MS) : Option (Int32 × MS) :=
  bd (a1 - ((lush a1 (1 : Int32)) &&& (6148914691236517205 : Int64))) fun x1 => bd ((x1 &&& (3689348814741910323 : Int64)) + ((lush x1 (2 : Int32)) &&& (3689348814741910323 : Int64))) fun x2 => bd ((x2 + (lush x2 (4 : Int32))) &&& (1085102592571150095 : Int64)) fun x3 => bd (x3 + (lush x3 (8 : Int32))) fun x4 => bd (x4 + (lush x4 (16 : Int32))) fun x5 => bd (x5 + (lush x5 (32 : Int32))) fun x6 => some (((x6.toInt32) &&& (127 : Int32)), S)
set_option maxRecDepth 100000 in
set_option maxHeartbeats 4000000 in
theorem c_J13_bitCount_95d88 (l : Launch) (G : Gx) (n : Nat) (a1 : Int64) (S : MS) (ro : Int32) (So : MS) (hf : f_J13_bitCount_95d88 n a1 S = some (ro, So)) : Cn G l yJ13_bitCount_95d88 cJ13_bitCount_95d88 2 (some .int) rJ13_bitCount_95d88 [.long a1] S (some (.int ro)) So := by
  refine Cn.of (by decide) (Nat.le_of_ble_eq_true rfl) ?_
  intro p e s m args below meth c hC hname hR ls hl
  have hC : Cx G RJ13 cJ13_bitCount_95d88 2 (some .int) p s m args meth c := hC
  have hl : lv_has ls 2 [(0, .long a1)] := hl
  have hx := hC.x
  have hb := hC.b
  have hS : va_S (gA G) s.heap s.heap [] := va_S.rf
  have hE : Ex S S := Ex.rf S
  unfold f_J13_bitCount_95d88 at hf
  refine lv_lload_n hx hb dJ13_bitCount_95d88_0 rfl (lv_at hl 0 rfl) ?_
  refine lv_lload_n hx hb dJ13_bitCount_95d88_1 rfl (lv_at hl 0 rfl) ?_
  refine lv_iconst (v := 1) hx hb dJ13_bitCount_95d88_2 (by decide) ?_
  refine lv_lushr (v := (lush a1 (1 : Int32))) hx hb dJ13_bitCount_95d88_3 rfl ?_
  refine lv_ldc2 (v := 6148914691236517205) hx hb hC.ow (hC.ts _ (bg31 _ (List.mem_of_getElem? (i := 9) rfl))) dJ13_bitCount_95d88_4 ?_
  refine lv_land hx hb dJ13_bitCount_95d88_7 ?_
  refine lv_lsub hx hb dJ13_bitCount_95d88_8 ?_
  refine bdl hf (fun x1 hf => ?_)
  refine lv_lstore_n (lv' := [(0, .long x1)]) hx hb dJ13_bitCount_95d88_9 rfl hl (by decide) rfl (fun ls hl => ?_)
  refine lv_lload_n hx hb dJ13_bitCount_95d88_10 rfl (lv_at hl 0 rfl) ?_
  refine lv_ldc2 (v := 3689348814741910323) hx hb hC.ow (hC.ts _ (bg31 _ (List.mem_of_getElem? (i := 10) rfl))) dJ13_bitCount_95d88_11 ?_
  refine lv_land hx hb dJ13_bitCount_95d88_14 ?_
  refine lv_lload_n hx hb dJ13_bitCount_95d88_15 rfl (lv_at hl 0 rfl) ?_
  refine lv_iconst (v := 2) hx hb dJ13_bitCount_95d88_16 (by decide) ?_
  refine lv_lushr (v := (lush x1 (2 : Int32))) hx hb dJ13_bitCount_95d88_17 rfl ?_
  refine lv_ldc2 (v := 3689348814741910323) hx hb hC.ow (hC.ts _ (bg31 _ (List.mem_of_getElem? (i := 10) rfl))) dJ13_bitCount_95d88_18 ?_
  refine lv_land hx hb dJ13_bitCount_95d88_21 ?_
  refine lv_ladd hx hb dJ13_bitCount_95d88_22 ?_
  refine bdl hf (fun x2 hf => ?_)
  refine lv_lstore_n (lv' := [(0, .long x2)]) hx hb dJ13_bitCount_95d88_23 rfl hl (by decide) rfl (fun ls hl => ?_)
  refine lv_lload_n hx hb dJ13_bitCount_95d88_24 rfl (lv_at hl 0 rfl) ?_
  refine lv_lload_n hx hb dJ13_bitCount_95d88_25 rfl (lv_at hl 0 rfl) ?_
  refine lv_iconst (v := 4) hx hb dJ13_bitCount_95d88_26 (by decide) ?_
  refine lv_lushr (v := (lush x2 (4 : Int32))) hx hb dJ13_bitCount_95d88_27 rfl ?_
  refine lv_ladd hx hb dJ13_bitCount_95d88_28 ?_
  refine lv_ldc2 (v := 1085102592571150095) hx hb hC.ow (hC.ts _ (bg31 _ (List.mem_of_getElem? (i := 11) rfl))) dJ13_bitCount_95d88_29 ?_
  refine lv_land hx hb dJ13_bitCount_95d88_32 ?_
  refine bdl hf (fun x3 hf => ?_)
  refine lv_lstore_n (lv' := [(0, .long x3)]) hx hb dJ13_bitCount_95d88_33 rfl hl (by decide) rfl (fun ls hl => ?_)
  refine lv_lload_n hx hb dJ13_bitCount_95d88_34 rfl (lv_at hl 0 rfl) ?_
  refine lv_lload_n hx hb dJ13_bitCount_95d88_35 rfl (lv_at hl 0 rfl) ?_
  refine lv_bipush (v := 8) hx hb dJ13_bitCount_95d88_36 (by decide) ?_
  refine lv_lushr (v := (lush x3 (8 : Int32))) hx hb dJ13_bitCount_95d88_38 rfl ?_
  refine lv_ladd hx hb dJ13_bitCount_95d88_39 ?_
  refine bdl hf (fun x4 hf => ?_)
  refine lv_lstore_n (lv' := [(0, .long x4)]) hx hb dJ13_bitCount_95d88_40 rfl hl (by decide) rfl (fun ls hl => ?_)
  refine lv_lload_n hx hb dJ13_bitCount_95d88_41 rfl (lv_at hl 0 rfl) ?_
  refine lv_lload_n hx hb dJ13_bitCount_95d88_42 rfl (lv_at hl 0 rfl) ?_
  refine lv_bipush (v := 16) hx hb dJ13_bitCount_95d88_43 (by decide) ?_
  refine lv_lushr (v := (lush x4 (16 : Int32))) hx hb dJ13_bitCount_95d88_45 rfl ?_
  refine lv_ladd hx hb dJ13_bitCount_95d88_46 ?_
  refine bdl hf (fun x5 hf => ?_)
  refine lv_lstore_n (lv' := [(0, .long x5)]) hx hb dJ13_bitCount_95d88_47 rfl hl (by decide) rfl (fun ls hl => ?_)
  refine lv_lload_n hx hb dJ13_bitCount_95d88_48 rfl (lv_at hl 0 rfl) ?_
  refine lv_lload_n hx hb dJ13_bitCount_95d88_49 rfl (lv_at hl 0 rfl) ?_
  refine lv_bipush (v := 32) hx hb dJ13_bitCount_95d88_50 (by decide) ?_
  refine lv_lushr (v := (lush x5 (32 : Int32))) hx hb dJ13_bitCount_95d88_52 rfl ?_
  refine lv_ladd hx hb dJ13_bitCount_95d88_53 ?_
  refine bdl hf (fun x6 hf => ?_)
  refine lv_lstore_n (lv' := [(0, .long x6)]) hx hb dJ13_bitCount_95d88_54 rfl hl (by decide) rfl (fun ls hl => ?_)
  refine lv_lload_n hx hb dJ13_bitCount_95d88_55 rfl (lv_at hl 0 rfl) ?_
  refine lv_l2i (v := (x6.toInt32)) hx hb dJ13_bitCount_95d88_56 rfl ?_
  refine lv_bipush (v := 127) hx hb dJ13_bitCount_95d88_57 (by decide) ?_
  refine lv_iand hx hb dJ13_bitCount_95d88_59 ?_
  exact r_iret hC hR hS hE hf dJ13_bitCount_95d88_60
abbrev rX1_lowest : Room := { frames := 1, cells := 0, slots := 0, locals := 21 }
def f_X1_lowest (n : Nat) (this : Nat) (a1 : Int64) (S : MS) : Option (Int32 × MS) :=
  (if (lg_cmp a1 (0 : Int64)) = 0 then some ((-1 : Int32), S) else cl (f_J13_bitCount_95d88 n ((a1 &&& (-a1)) - (1 : Int64)) S) fun x4 S1 => some (x4, S1))
set_option maxRecDepth 100000 in
set_option maxHeartbeats 4000000 in
theorem c_X1_lowest (l : Launch) (G : Gx) (n : Nat) (this : Nat) (a1 : Int64) (S : MS) (ro : Int32) (So : MS) (hf : f_X1_lowest n this a1 S = some (ro, So)) (ok_this : Ok S this 1) : Cn G l yX1_lowest cX1_lowest 3 (some .int) rX1_lowest [.ref this, .long a1] S (some (.int ro)) So := by
  refine Cn.of (by decide) (Nat.le_of_ble_eq_true rfl) ?_
  intro p e s m args below meth c hC hname hR ls hl
  have hC : Cx G RX1 cX1_lowest 3 (some .int) p s m args meth c := hC
  have hl : lv_has ls 3 [(0, .ref this), (1, .long a1)] := hl
  have hx := hC.x
  have hb := hC.b
  have hS : va_S (gA G) s.heap s.heap [] := va_S.rf
  have hE : Ex S S := Ex.rf S
  unfold f_X1_lowest at hf
  refine lv_lload_n hx hb dX1_lowest_0 rfl (lv_at hl 1 rfl) ?_
  refine lv_lconst (v := 0) hx hb dX1_lowest_1 (by decide) ?_
  refine W.lcmp hx hb dX1_lowest_2 ?_
  refine lv_if_ne (tgt := 10) hx hb dX1_lowest_3 (by decide) (fun hc => ?_) (fun hc => ?_)
  · replace hf := if_f hf hc
    refine lv_lload_n hx hb dX1_lowest_10 rfl (lv_at hl 1 rfl) ?_
    refine lv_lload_n hx hb dX1_lowest_11 rfl (lv_at hl 1 rfl) ?_
    refine lv_lneg hx hb dX1_lowest_12 ?_
    refine lv_land hx hb dX1_lowest_13 ?_
    refine lv_lconst (v := 1) hx hb dX1_lowest_14 (by decide) ?_
    refine lv_lsub hx hb dX1_lowest_15 ?_
    obtain ⟨x4, S1, hc2, hf⟩ := cl_of hf
    refine cl_RX1_48 (As := [.long ((a1 &&& (-a1)) - (1 : Int64))]) (rest := []) hC hR hS (c_J13_bitCount_95d88 l G n ((a1 &&& (-a1)) - (1 : Int64)) S x4 S1 hc2 ) rfl ⟨Nat.le_of_ble_eq_true rfl, Nat.le_of_ble_eq_true rfl⟩ hl.1 rfl (Nat.le_of_ble_eq_true rfl) dX1_lowest_16 (Nat.zero_le _) (Nat.zero_le _) (fun H locs hR hS hE3 => ?_)
    have ok_this := hE3 _ _ ok_this
    have hE := hE.tr hE3
    exact r_iret hC hR hS hE hf dX1_lowest_19
  · replace hf := if_t hf hc
    refine lv_iconst (v := -1) hx hb dX1_lowest_6 (by decide) ?_
    refine lv_goto (tgt := 19) hx hb dX1_lowest_7 (by decide) ?_
    exact r_iret hC hR hS hE hf dX1_lowest_19
abbrev rJ7_fill_53178 : Room := { frames := 0, cells := 0, slots := 0, locals := 0 }
def f_J7_fill_53178_L5 (n : Nat) (a1 : Nat) (a2 : Int32) (x1 : Int32) : Nat → Int32 → MS → Option (MS)
  | 0, _, _ => none
  | k + 1, x4, S5 => jn (f_J7_fill_53178_L5 n a1 a2 x1 k) fun rec5_3 => (if x1 ≤ x4 then some S5 else ck (inb x4 (mN S5 a1)) (bd (sI S5 a1 x4.toNatClampNeg a2) fun S7 => bd (x4 + (1 : Int32)) fun x9 => rec5_3 x9 S7))
def f_J7_fill_53178 (n : Nat) (a1 : Nat) (a2 : Int32) (S : MS) : Option (MS) :=
  bd (Int32.ofNat (mN S a1)) fun x1 => f_J7_fill_53178_L5 n a1 a2 x1 n (0 : Int32) S
set_option maxRecDepth 100000 in
set_option maxHeartbeats 4000000 in
theorem c_J7_fill_53178 (l : Launch) (G : Gx) (n : Nat) (a1 : Nat) (a2 : Int32) (S : MS) (So : MS) (hf : f_J7_fill_53178 n a1 a2 S = some So) (ok_a1 : Ok S a1 12) : Cn G l yJ7_fill_53178 cJ7_fill_53178 4 none rJ7_fill_53178 [.ref a1, .int a2] S none So := by
  refine Cn.of (by decide) (Nat.le_of_ble_eq_true rfl) ?_
  intro p e s m args below meth c hC hname hR ls hl
  have hC : Cx G RJ7 cJ7_fill_53178 4 none p s m args meth c := hC
  have hl : lv_has ls 4 [(0, .ref a1), (1, .int a2)] := hl
  have hx := hC.x
  have hb := hC.b
  have hS : va_S (gA G) s.heap s.heap [] := va_S.rf
  have hE : Ex S S := Ex.rf S
  unfold f_J7_fill_53178 at hf
  refine lv_iconst (v := 0) hx hb dJ7_fill_53178_0 (by decide) ?_
  refine lv_istore_n (lv' := [(2, .int (0 : Int32)), (0, .ref a1), (1, .int a2)]) hx hb dJ7_fill_53178_1 rfl hl (by decide) rfl (fun ls hl => ?_)
  refine lv_aload_n hx hb dJ7_fill_53178_2 rfl (lv_at hl 1 rfl) ?_
  refine r_alenI hC hR ok_a1 dJ7_fill_53178_3 ?_
  refine bdi hf (fun x1 hf => ?_)
  refine lv_istore_n (lv' := [(3, .int x1), (2, .int (0 : Int32)), (0, .ref a1), (1, .int a2)]) hx hb dJ7_fill_53178_4 rfl hl (by decide) rfl (fun ls hl => ?_)
  have hh10 : ∀ k : Nat, ∀ (x4 : Int32) (S5 : MS) (H : Heap) (locs : List Loc) (ls : Array Slot), f_J7_fill_53178_L5 n a1 a2 x1 k x4 S5 = some So → Rp G S5 H → va_S (gA G) s.heap H locs → Ex S S5 → Ok S5 a1 12 → lv_has ls 4 [(0, .ref a1), (1, .int a2), (2, .int x4), (3, .int x1)] → W p l e rJ7_fill_53178 s m args below meth c H locs 0 0 (MQ below (Qn G S none So) args s 0 0 (gA G)) (F0 m 5 ls []) := by
    intro k
    induction k with
    | zero =>
      intro x4 S5 H locs ls hf hR hS hE ok_a1 hl
      exact absurd hf (by rw [f_J7_fill_53178_L5]; exact fun h => by cases h)
    | succ k ih =>
      intro x4 S5 H locs ls hf hR hS hE ok_a1 hl
      rw [f_J7_fill_53178_L5] at hf
      obtain ⟨rec5_3, erec5_3, hf⟩ := jn_of2 hf
      have hL5_2 : ∀ (x4 : Int32) (S5 : MS) (H : Heap) (locs : List Loc) (ls : Array Slot), rec5_3 x4 S5 = some So → Rp G S5 H → va_S (gA G) s.heap H locs → Ex S S5 → Ok S5 a1 12 → lv_has ls 4 [(0, .ref a1), (1, .int a2), (2, .int x4), (3, .int x1)] → W p l e rJ7_fill_53178 s m args below meth c H locs 0 0 (MQ below (Qn G S none So) args s 0 0 (gA G)) (F0 m 5 ls []) := by
        intro x4 S5 H locs ls hf hR hS hE ok_a1 hl
        rw [erec5_3] at hf
        exact ih x4 S5 _ _ _ hf hR hS hE ok_a1 hl
      refine lv_iload_n hx hb dJ7_fill_53178_5 rfl (lv_at hl 2 rfl) ?_
      refine lv_iload_n hx hb dJ7_fill_53178_6 rfl (lv_at hl 3 rfl) ?_
      refine lv_icmp_ge (tgt := 20) hx hb dJ7_fill_53178_7 (by decide) (fun hc => ?_) (fun hc => ?_)
      · replace hf := if_t hf hc
        exact r_vret hC hR hS hE hf dJ7_fill_53178_20
      · replace hf := if_f hf hc
        refine lv_aload_n hx hb dJ7_fill_53178_10 rfl (lv_at hl 0 rfl) ?_
        refine lv_iload_n hx hb dJ7_fill_53178_11 rfl (lv_at hl 2 rfl) ?_
        refine lv_iload_n hx hb dJ7_fill_53178_12 rfl (lv_at hl 1 rfl) ?_
        obtain ⟨hi6, hf⟩ := ck_of hf
        refine rB_iast hC hR hS ok_a1 hi6 dJ7_fill_53178_13 hf (fun S7 H locs hf hR hS hE8 => ?_)
        have ok_a1 := hE8 _ _ ok_a1
        have hE := hE.tr hE8
        refine r_iinc (n := 1) (z := 1) (lv' := fun x9 => [(2, .int x9), (0, .ref a1), (1, .int a2), (3, .int x1)]) hx hb dJ7_fill_53178_14 hl (k := 2) rfl (by decide) (by decide) (fun _ => rfl) hf (fun x9 ls hf hl => ?_)
        refine lv_goto (tgt := 5) hx hb dJ7_fill_53178_17 (by decide) ?_
        exact hL5_2 x9 S7 _ _ _ hf hR hS hE ok_a1 (lv_sub hl [1, 2, 0, 3] rfl)
  exact hh10 n (0 : Int32) S _ _ _ hf hR hS hE ok_a1 (lv_sub hl [2, 3, 1, 0] rfl)
abbrev rX3_init : Room := { frames := 1, cells := 6, slots := 148, locals := 40 }
def f_X3_init (n : Nat) (z : Nat) (this : Nat) (a1 : Nat) (S : MS) : Option (MS) :=
  ck (nak (24 : Int32) 24) (jn (z + (mL S).length) fun q1 => bd (nw S q1 12 (24 : Int32).toNatClampNeg) fun S2 => bd (sR S2 this 1 (some q1)) fun S5 => ck (nak (24 : Int32) 24) (jn (z + (mL S5).length) fun q7 => bd (nw S5 q7 12 (24 : Int32).toNatClampNeg) fun S8 => bd (sR S8 this 2 (some q7)) fun S11 => ck (nak (24 : Int32) 24) (jn (z + (mL S11).length) fun q13 => bd (nw S11 q13 12 (24 : Int32).toNatClampNeg) fun S14 => bd (sR S14 this 3 (some q13)) fun S17 => ck (nak (6 : Int32) 6) (jn (z + (mL S17).length) fun q19 => bd (nw S17 q19 12 (6 : Int32).toNatClampNeg) fun S20 => bd (sR S20 this 4 (some q19)) fun S23 => ck (nak (6 : Int32) 6) (jn (z + (mL S23).length) fun q25 => bd (nw S23 q25 12 (6 : Int32).toNatClampNeg) fun S26 => bd (sR S26 this 5 (some q25)) fun S29 => bd (sR S29 this 0 (some a1)) fun S31 => ck (nak (mI S31 a1 2) 64) (jn (z + (mL S31).length) fun q33 => bd (nw S31 q33 12 (mI S31 a1 2).toNatClampNeg) fun S34 => bd (sR S34 this 6 (some q33)) fun S37 => gR S37 (mR S37 this 6) 12 fun q39 => cv (f_J7_fill_53178 n q39 (-1 : Int32) S37) fun S41 => gR S41 (mR S41 this 4) 12 fun q44 => cv (f_J7_fill_53178 n q44 (-1 : Int32) S41) fun S46 => some S46))))))
set_option maxRecDepth 100000 in
set_option maxHeartbeats 4000000 in
theorem c_X3_init (l : Launch) (G : Gx) (n : Nat) (this : Nat) (a1 : Nat) (S : MS) (So : MS) (hf : f_X3_init n G.2.2 this a1 S = some So) (ok_this : Ok S this 3) (ok_a1 : Ok S a1 1) : Cn G l yX3_init cX3_init 2 none rX3_init [.ref this, .ref a1] S none So := by
  refine Cn.of (by decide) (Nat.le_of_ble_eq_true rfl) ?_
  intro p e s m args below meth c hC hname hR ls hl
  have hC : Cx G RX3 cX3_init 2 none p s m args meth c := hC
  have hl : lv_has ls 2 [(0, .ref this), (1, .ref a1)] := hl
  have hx := hC.x
  have hb := hC.b
  have hS : va_S (gA G) s.heap s.heap [] := va_S.rf
  have hE : Ex S S := Ex.rf S
  unfold f_X3_init at hf
  refine lv_aload_n hx hb dX3_init_0 rfl (lv_at hl 0 rfl) ?_
  refine r_obj hC hl.1 (bg6 _ (List.mem_of_getElem? (i := 10) rfl)) (bg1 _ (List.mem_of_getElem? (i := 14) rfl)) (bg1 _ (List.mem_of_getElem? (i := 15) rfl)) (Nat.le_of_ble_eq_true rfl) (Nat.le_of_ble_eq_true rfl) dX3_init_1 ?_
  refine lv_aload_n hx hb dX3_init_4 rfl (lv_at hl 0 rfl) ?_
  refine lv_bipush (v := 24) hx hb dX3_init_5 (by decide) ?_
  obtain ⟨hi4, hf⟩ := ck_of hf
  obtain ⟨q1, eq1, hf⟩ := jn_of hf
  refine r_newa (ci := 12) (NB := 24) (t0 := 0) (ty := .int) rfl (bg3 _ (List.mem_of_getElem? (i := 15) rfl)) rfl (fun _ _ h => h) (atI G) (by decide) hC hR hS hi4 (Nat.le_of_ble_eq_true rfl) (Nat.le_of_ble_eq_true rfl) dX3_init_7 eq1 hf (fun S2 H hf hR hS hE3 ok_q1 => ?_)
  have ok_this := hE3 _ _ ok_this
  have ok_a1 := hE3 _ _ ok_a1
  have hE := hE.tr hE3
  refine pf_RX3_9 hC hR hS ok_this hname dX3_init_9 hf (fun S5 H locs hf hR hS hE6 => ?_)
  have ok_this := hE6 _ _ ok_this
  have ok_a1 := hE6 _ _ ok_a1
  have ok_q1 := hE6 _ _ ok_q1
  have hE := hE.tr hE6
  refine lv_aload_n hx hb dX3_init_12 rfl (lv_at hl 0 rfl) ?_
  refine lv_bipush (v := 24) hx hb dX3_init_13 (by decide) ?_
  obtain ⟨hi10, hf⟩ := ck_of hf
  obtain ⟨q7, eq7, hf⟩ := jn_of hf
  refine r_newa (ci := 12) (NB := 24) (t0 := 0) (ty := .int) rfl (bg3 _ (List.mem_of_getElem? (i := 15) rfl)) rfl (fun _ _ h => h) (atI G) (by decide) hC hR hS hi10 (Nat.le_of_ble_eq_true rfl) (Nat.le_of_ble_eq_true rfl) dX3_init_15 eq7 hf (fun S8 H hf hR hS hE9 ok_q7 => ?_)
  have ok_this := hE9 _ _ ok_this
  have ok_a1 := hE9 _ _ ok_a1
  have ok_q1 := hE9 _ _ ok_q1
  have hE := hE.tr hE9
  refine pf_RX3_15 hC hR hS ok_this hname dX3_init_17 hf (fun S11 H locs hf hR hS hE12 => ?_)
  have ok_this := hE12 _ _ ok_this
  have ok_a1 := hE12 _ _ ok_a1
  have ok_q1 := hE12 _ _ ok_q1
  have ok_q7 := hE12 _ _ ok_q7
  have hE := hE.tr hE12
  refine lv_aload_n hx hb dX3_init_20 rfl (lv_at hl 0 rfl) ?_
  refine lv_bipush (v := 24) hx hb dX3_init_21 (by decide) ?_
  obtain ⟨hi16, hf⟩ := ck_of hf
  obtain ⟨q13, eq13, hf⟩ := jn_of hf
  refine r_newa (ci := 12) (NB := 24) (t0 := 0) (ty := .int) rfl (bg3 _ (List.mem_of_getElem? (i := 15) rfl)) rfl (fun _ _ h => h) (atI G) (by decide) hC hR hS hi16 (Nat.le_of_ble_eq_true rfl) (Nat.le_of_ble_eq_true rfl) dX3_init_23 eq13 hf (fun S14 H hf hR hS hE15 ok_q13 => ?_)
  have ok_this := hE15 _ _ ok_this
  have ok_a1 := hE15 _ _ ok_a1
  have ok_q1 := hE15 _ _ ok_q1
  have ok_q7 := hE15 _ _ ok_q7
  have hE := hE.tr hE15
  refine pf_RX3_18 hC hR hS ok_this hname dX3_init_25 hf (fun S17 H locs hf hR hS hE18 => ?_)
  have ok_this := hE18 _ _ ok_this
  have ok_a1 := hE18 _ _ ok_a1
  have ok_q1 := hE18 _ _ ok_q1
  have ok_q7 := hE18 _ _ ok_q7
  have ok_q13 := hE18 _ _ ok_q13
  have hE := hE.tr hE18
  refine lv_aload_n hx hb dX3_init_28 rfl (lv_at hl 0 rfl) ?_
  refine lv_bipush (v := 6) hx hb dX3_init_29 (by decide) ?_
  obtain ⟨hi22, hf⟩ := ck_of hf
  obtain ⟨q19, eq19, hf⟩ := jn_of hf
  refine r_newa (ci := 12) (NB := 6) (t0 := 0) (ty := .int) rfl (bg3 _ (List.mem_of_getElem? (i := 15) rfl)) rfl (fun _ _ h => h) (atI G) (by decide) hC hR hS hi22 (Nat.le_of_ble_eq_true rfl) (Nat.le_of_ble_eq_true rfl) dX3_init_31 eq19 hf (fun S20 H hf hR hS hE21 ok_q19 => ?_)
  have ok_this := hE21 _ _ ok_this
  have ok_a1 := hE21 _ _ ok_a1
  have ok_q1 := hE21 _ _ ok_q1
  have ok_q7 := hE21 _ _ ok_q7
  have ok_q13 := hE21 _ _ ok_q13
  have hE := hE.tr hE21
  refine pf_RX3_21 hC hR hS ok_this hname dX3_init_33 hf (fun S23 H locs hf hR hS hE24 => ?_)
  have ok_this := hE24 _ _ ok_this
  have ok_a1 := hE24 _ _ ok_a1
  have ok_q1 := hE24 _ _ ok_q1
  have ok_q7 := hE24 _ _ ok_q7
  have ok_q13 := hE24 _ _ ok_q13
  have ok_q19 := hE24 _ _ ok_q19
  have hE := hE.tr hE24
  refine lv_aload_n hx hb dX3_init_36 rfl (lv_at hl 0 rfl) ?_
  refine lv_bipush (v := 6) hx hb dX3_init_37 (by decide) ?_
  obtain ⟨hi28, hf⟩ := ck_of hf
  obtain ⟨q25, eq25, hf⟩ := jn_of hf
  refine r_newa (ci := 12) (NB := 6) (t0 := 0) (ty := .int) rfl (bg3 _ (List.mem_of_getElem? (i := 15) rfl)) rfl (fun _ _ h => h) (atI G) (by decide) hC hR hS hi28 (Nat.le_of_ble_eq_true rfl) (Nat.le_of_ble_eq_true rfl) dX3_init_39 eq25 hf (fun S26 H hf hR hS hE27 ok_q25 => ?_)
  have ok_this := hE27 _ _ ok_this
  have ok_a1 := hE27 _ _ ok_a1
  have ok_q1 := hE27 _ _ ok_q1
  have ok_q7 := hE27 _ _ ok_q7
  have ok_q13 := hE27 _ _ ok_q13
  have ok_q19 := hE27 _ _ ok_q19
  have hE := hE.tr hE27
  refine pf_RX3_24 hC hR hS ok_this hname dX3_init_41 hf (fun S29 H locs hf hR hS hE30 => ?_)
  have ok_this := hE30 _ _ ok_this
  have ok_a1 := hE30 _ _ ok_a1
  have ok_q1 := hE30 _ _ ok_q1
  have ok_q7 := hE30 _ _ ok_q7
  have ok_q13 := hE30 _ _ ok_q13
  have ok_q19 := hE30 _ _ ok_q19
  have ok_q25 := hE30 _ _ ok_q25
  have hE := hE.tr hE30
  refine lv_aload_n hx hb dX3_init_44 rfl (lv_at hl 0 rfl) ?_
  refine lv_aload_n hx hb dX3_init_45 rfl (lv_at hl 1 rfl) ?_
  refine pf_RX3_27 hC hR hS ok_this hname dX3_init_46 hf (fun S31 H locs hf hR hS hE32 => ?_)
  have ok_this := hE32 _ _ ok_this
  have ok_a1 := hE32 _ _ ok_a1
  have ok_q1 := hE32 _ _ ok_q1
  have ok_q7 := hE32 _ _ ok_q7
  have ok_q13 := hE32 _ _ ok_q13
  have ok_q19 := hE32 _ _ ok_q19
  have ok_q25 := hE32 _ _ ok_q25
  have hE := hE.tr hE32
  refine lv_aload_n hx hb dX3_init_49 rfl (lv_at hl 0 rfl) ?_
  refine lv_aload_n hx hb dX3_init_50 rfl (lv_at hl 1 rfl) ?_
  refine gf_RX3_31 hC hR ok_a1 dX3_init_51 ?_
  obtain ⟨hi36, hf⟩ := ck_of hf
  obtain ⟨q33, eq33, hf⟩ := jn_of hf
  refine r_newa (ci := 12) (NB := 64) (t0 := 0) (ty := .int) rfl (bg3 _ (List.mem_of_getElem? (i := 15) rfl)) rfl (fun _ _ h => h) (atI G) (by decide) hC hR hS hi36 (Nat.le_of_ble_eq_true rfl) (Nat.le_of_ble_eq_true rfl) dX3_init_54 eq33 hf (fun S34 H hf hR hS hE35 ok_q33 => ?_)
  have ok_this := hE35 _ _ ok_this
  have ok_a1 := hE35 _ _ ok_a1
  have ok_q1 := hE35 _ _ ok_q1
  have ok_q7 := hE35 _ _ ok_q7
  have ok_q13 := hE35 _ _ ok_q13
  have ok_q19 := hE35 _ _ ok_q19
  have ok_q25 := hE35 _ _ ok_q25
  have hE := hE.tr hE35
  refine pf_RX3_36 hC hR hS ok_this hname dX3_init_56 hf (fun S37 H locs hf hR hS hE38 => ?_)
  have ok_this := hE38 _ _ ok_this
  have ok_a1 := hE38 _ _ ok_a1
  have ok_q1 := hE38 _ _ ok_q1
  have ok_q7 := hE38 _ _ ok_q7
  have ok_q13 := hE38 _ _ ok_q13
  have ok_q19 := hE38 _ _ ok_q19
  have ok_q25 := hE38 _ _ ok_q25
  have ok_q33 := hE38 _ _ ok_q33
  have hE := hE.tr hE38
  refine lv_aload_n hx hb dX3_init_59 rfl (lv_at hl 0 rfl) ?_
  obtain ⟨q39, hq40, ok_q39, hf⟩ := gR_of hf
  refine gf_RX3_36 hC hR ok_this hq40 dX3_init_60 ?_
  refine lv_iconst (v := -1) hx hb dX3_init_63 (by decide) ?_
  obtain ⟨S41, hc42, hf⟩ := cv_of hf
  refine cl_RX3_39 (As := [.ref q39, .int (-1 : Int32)]) (rest := []) hC hR hS (c_J7_fill_53178 l G n q39 (-1 : Int32) S37 S41 hc42 ok_q39) rfl ⟨Nat.le_of_ble_eq_true rfl, Nat.le_of_ble_eq_true rfl⟩ hl.1 rfl (Nat.le_of_ble_eq_true rfl) dX3_init_64 (Nat.le_of_ble_eq_true rfl) (Nat.le_of_ble_eq_true rfl) (fun H locs hR hS hE43 => ?_)
  have ok_this := hE43 _ _ ok_this
  have ok_a1 := hE43 _ _ ok_a1
  have ok_q1 := hE43 _ _ ok_q1
  have ok_q7 := hE43 _ _ ok_q7
  have ok_q13 := hE43 _ _ ok_q13
  have ok_q19 := hE43 _ _ ok_q19
  have ok_q25 := hE43 _ _ ok_q25
  have ok_q33 := hE43 _ _ ok_q33
  have ok_q39 := hE43 _ _ ok_q39
  have hE := hE.tr hE43
  refine lv_aload_n hx hb dX3_init_67 rfl (lv_at hl 0 rfl) ?_
  obtain ⟨q44, hq45, ok_q44, hf⟩ := gR_of hf
  refine gf_RX3_21 hC hR ok_this hq45 dX3_init_68 ?_
  refine lv_iconst (v := -1) hx hb dX3_init_71 (by decide) ?_
  obtain ⟨S46, hc47, hf⟩ := cv_of hf
  refine cl_RX3_39 (As := [.ref q44, .int (-1 : Int32)]) (rest := []) hC hR hS (c_J7_fill_53178 l G n q44 (-1 : Int32) S41 S46 hc47 ok_q44) rfl ⟨Nat.le_of_ble_eq_true rfl, Nat.le_of_ble_eq_true rfl⟩ hl.1 rfl (Nat.le_of_ble_eq_true rfl) dX3_init_72 (Nat.le_of_ble_eq_true rfl) (Nat.le_of_ble_eq_true rfl) (fun H locs hR hS hE48 => ?_)
  have ok_this := hE48 _ _ ok_this
  have ok_a1 := hE48 _ _ ok_a1
  have ok_q1 := hE48 _ _ ok_q1
  have ok_q7 := hE48 _ _ ok_q7
  have ok_q13 := hE48 _ _ ok_q13
  have ok_q19 := hE48 _ _ ok_q19
  have ok_q25 := hE48 _ _ ok_q25
  have ok_q33 := hE48 _ _ ok_q33
  have ok_q39 := hE48 _ _ ok_q39
  have ok_q44 := hE48 _ _ ok_q44
  have hE := hE.tr hE48
  refine W.widen (k := 6) (n := 148) (Nat.le_of_ble_eq_true rfl) (Nat.le_of_ble_eq_true rfl) ?_
  exact r_vret hC hR hS hE hf dX3_init_75
abbrev rX2_init : Room := { frames := 2, cells := 36, slots := 805, locals := 61 }
def f_X2_init (n : Nat) (z : Nat) (this : Nat) (a1 : Nat) (a2 : Nat) (a3 : Nat) (S : MS) : Option (MS) :=
  ck (nak (5 : Int32) 5) (jn (z + (mL S).length) fun q1 => bd (nw S q1 15 (5 : Int32).toNatClampNeg) fun S2 => bd (sR S2 this 6 (some q1)) fun S5 => bd (sR S5 this 3 (some a1)) fun S7 => bd (sR S7 this 4 (some a2)) fun S9 => bd (sR S9 this 5 (some a3)) fun S11 => gR S11 (mR S11 this 6) 15 fun q13 => jn (z + (mL S11).length) fun q15 => bd (nw S11 q15 3 0) fun S16 => gR S16 (mR S16 a1 0) 1 fun q18 => cv (f_X3_init n z q15 q18 S16) fun S20 => ck (inb (0 : Int32) (mN S20 q13)) (bd (sR S20 q13 (0 : Int32).toNatClampNeg (some q15)) fun S24 => gR S24 (mR S24 this 6) 15 fun q26 => jn (z + (mL S24).length) fun q28 => bd (nw S24 q28 3 0) fun S29 => gR S29 (mR S29 a1 0) 1 fun q31 => cv (f_X3_init n z q28 q31 S29) fun S33 => ck (inb (1 : Int32) (mN S33 q26)) (bd (sR S33 q26 (1 : Int32).toNatClampNeg (some q28)) fun S37 => gR S37 (mR S37 this 6) 15 fun q39 => jn (z + (mL S37).length) fun q41 => bd (nw S37 q41 3 0) fun S42 => gR S42 (mR S42 a1 0) 1 fun q44 => cv (f_X3_init n z q41 q44 S42) fun S46 => ck (inb (2 : Int32) (mN S46 q39)) (bd (sR S46 q39 (2 : Int32).toNatClampNeg (some q41)) fun S50 => gR S50 (mR S50 this 6) 15 fun q52 => jn (z + (mL S50).length) fun q54 => bd (nw S50 q54 3 0) fun S55 => gR S55 (mR S55 a1 0) 1 fun q57 => cv (f_X3_init n z q54 q57 S55) fun S59 => ck (inb (3 : Int32) (mN S59 q52)) (bd (sR S59 q52 (3 : Int32).toNatClampNeg (some q54)) fun S63 => gR S63 (mR S63 this 6) 15 fun q65 => jn (z + (mL S63).length) fun q67 => bd (nw S63 q67 3 0) fun S68 => gR S68 (mR S68 a1 0) 1 fun q70 => cv (f_X3_init n z q67 q70 S68) fun S72 => ck (inb (4 : Int32) (mN S72 q65)) (bd (sR S72 q65 (4 : Int32).toNatClampNeg (some q67)) fun S76 => some S76))))))
set_option maxRecDepth 100000 in
set_option maxHeartbeats 4000000 in
theorem c_X2_init (l : Launch) (G : Gx) (n : Nat) (this : Nat) (a1 : Nat) (a2 : Nat) (a3 : Nat) (S : MS) (So : MS) (hf : f_X2_init n G.2.2 this a1 a2 a3 S = some So) (ok_this : Ok S this 2) (ok_a1 : Ok S a1 3) (ok_a2 : Ok S a2 8) (ok_a3 : Ok S a3 9) : Cn G l yX2_init cX2_init 5 none rX2_init [.ref this, .ref a1, .ref a2, .ref a3] S none So := by
  refine Cn.of (by decide) (Nat.le_of_ble_eq_true rfl) ?_
  intro p e s m args below meth c hC hname hR ls hl
  have hC : Cx G RX2 cX2_init 5 none p s m args meth c := hC
  have hl : lv_has ls 5 [(0, .ref this), (1, .ref a1), (2, .ref a2), (3, .ref a3)] := hl
  have hx := hC.x
  have hb := hC.b
  have hS : va_S (gA G) s.heap s.heap [] := va_S.rf
  have hE : Ex S S := Ex.rf S
  unfold f_X2_init at hf
  refine lv_aload_n hx hb dX2_init_0 rfl (lv_at hl 0 rfl) ?_
  refine r_obj hC hl.1 (bg6 _ (List.mem_of_getElem? (i := 23) rfl)) (bg1 _ (List.mem_of_getElem? (i := 14) rfl)) (bg1 _ (List.mem_of_getElem? (i := 15) rfl)) (Nat.le_of_ble_eq_true rfl) (Nat.le_of_ble_eq_true rfl) dX2_init_1 ?_
  refine lv_aload_n hx hb dX2_init_4 rfl (lv_at hl 0 rfl) ?_
  refine lv_iconst (v := 5) hx hb dX2_init_5 (by decide) ?_
  obtain ⟨hi4, hf⟩ := ck_of hf
  obtain ⟨q1, eq1, hf⟩ := jn_of hf
  refine r_newq (ci := 15) (NB := 5) (t0 := 3) rfl (fun _ _ h => wE_P h) hC.kx.2.2.1 (bg7 _ (List.mem_of_getElem? (i := 0) rfl)) (by decide) hC hR hS hi4 (Nat.le_of_ble_eq_true rfl) (Nat.le_of_ble_eq_true rfl) dX2_init_6 eq1 hf (fun S2 H hf hR hS hE3 ok_q1 => ?_)
  have ok_this := hE3 _ _ ok_this
  have ok_a1 := hE3 _ _ ok_a1
  have ok_a2 := hE3 _ _ ok_a2
  have ok_a3 := hE3 _ _ ok_a3
  have hE := hE.tr hE3
  refine pf_RX2_11 hC hR hS ok_this hname dX2_init_9 hf (fun S5 H locs hf hR hS hE6 => ?_)
  have ok_this := hE6 _ _ ok_this
  have ok_a1 := hE6 _ _ ok_a1
  have ok_a2 := hE6 _ _ ok_a2
  have ok_a3 := hE6 _ _ ok_a3
  have ok_q1 := hE6 _ _ ok_q1
  have hE := hE.tr hE6
  refine lv_aload_n hx hb dX2_init_12 rfl (lv_at hl 0 rfl) ?_
  refine lv_aload_n hx hb dX2_init_13 rfl (lv_at hl 1 rfl) ?_
  refine pf_RX2_17 hC hR hS ok_this hname dX2_init_14 hf (fun S7 H locs hf hR hS hE8 => ?_)
  have ok_this := hE8 _ _ ok_this
  have ok_a1 := hE8 _ _ ok_a1
  have ok_a2 := hE8 _ _ ok_a2
  have ok_a3 := hE8 _ _ ok_a3
  have ok_q1 := hE8 _ _ ok_q1
  have hE := hE.tr hE8
  refine lv_aload_n hx hb dX2_init_17 rfl (lv_at hl 0 rfl) ?_
  refine lv_aload_n hx hb dX2_init_18 rfl (lv_at hl 2 rfl) ?_
  refine pf_RX2_21 hC hR hS ok_this hname dX2_init_19 hf (fun S9 H locs hf hR hS hE10 => ?_)
  have ok_this := hE10 _ _ ok_this
  have ok_a1 := hE10 _ _ ok_a1
  have ok_a2 := hE10 _ _ ok_a2
  have ok_a3 := hE10 _ _ ok_a3
  have ok_q1 := hE10 _ _ ok_q1
  have hE := hE.tr hE10
  refine lv_aload_n hx hb dX2_init_22 rfl (lv_at hl 0 rfl) ?_
  refine lv_aload_n hx hb dX2_init_23 rfl (lv_at hl 3 rfl) ?_
  refine pf_RX2_25 hC hR hS ok_this hname dX2_init_24 hf (fun S11 H locs hf hR hS hE12 => ?_)
  have ok_this := hE12 _ _ ok_this
  have ok_a1 := hE12 _ _ ok_a1
  have ok_a2 := hE12 _ _ ok_a2
  have ok_a3 := hE12 _ _ ok_a3
  have ok_q1 := hE12 _ _ ok_q1
  have hE := hE.tr hE12
  refine lv_iconst (v := 0) hx hb dX2_init_27 (by decide) ?_
  refine lv_istore (lv' := [(4, .int (0 : Int32)), (0, .ref this), (1, .ref a1), (2, .ref a2), (3, .ref a3)]) hx hb dX2_init_28 hl (by decide) rfl (fun ls hl => ?_)
  refine lv_iload hx hb dX2_init_30 (lv_at hl 0 rfl) ?_
  refine lv_iconst (v := 4) hx hb dX2_init_32 (by decide) ?_
  refine lv_icmp_gt (tgt := 60) hx hb dX2_init_33 (by decide) (fun hc => ?_) (fun hc => ?_)
  · exact absurd hc (by decide)
  · clear hc
    refine lv_aload_n hx hb dX2_init_36 rfl (lv_at hl 1 rfl) ?_
    obtain ⟨q13, hq14, ok_q13, hf⟩ := gR_of hf
    refine gf_RX2_11 hC hR ok_this hq14 dX2_init_37 ?_
    refine lv_iload hx hb dX2_init_40 (lv_at hl 0 rfl) ?_
    obtain ⟨q15, eq15, hf⟩ := jn_of hf
    refine r_new (ci := 3) rfl (by decide) inlX3 rfl (by decide +kernel) (by decide +kernel) (bg7 _ (List.mem_of_getElem? (i := 0) rfl)) (bg3 _ (List.mem_of_getElem? (i := 3) rfl)) (bg3 _ (List.mem_of_getElem? (i := 4) rfl)) hC hR hS (Nat.le_of_ble_eq_true rfl) (Nat.le_of_ble_eq_true rfl) dX2_init_42 eq15 hf (fun S16 H hf hR hS hE17 ok_q15 => ?_)
    have ok_this := hE17 _ _ ok_this
    have ok_a1 := hE17 _ _ ok_a1
    have ok_a2 := hE17 _ _ ok_a2
    have ok_a3 := hE17 _ _ ok_a3
    have ok_q1 := hE17 _ _ ok_q1
    have ok_q13 := hE17 _ _ ok_q13
    have hE := hE.tr hE17
    refine lv_dup hx hb dX2_init_45 rfl ?_
    refine lv_aload_n hx hb dX2_init_46 rfl (lv_at hl 2 rfl) ?_
    obtain ⟨q18, hq19, ok_q18, hf⟩ := gR_of hf
    refine gf_RX2_29 hC hR ok_a1 hq19 dX2_init_47 ?_
    obtain ⟨S20, hc21, hf⟩ := cv_of hf
    refine cl_RX2_33 (As := [.ref q18]) (rest := [.ref q15, .int (0 : Int32), .ref q13]) hC hR hS (c_X3_init l G n q15 q18 S16 S20 hc21 ok_q15 ok_q18) rfl ⟨Nat.le_of_ble_eq_true rfl, Nat.le_of_ble_eq_true rfl⟩ hl.1 rfl (Nat.le_of_ble_eq_true rfl) dX2_init_50 (Nat.le_of_ble_eq_true rfl) (Nat.le_of_ble_eq_true rfl) (fun H locs hR hS hE22 => ?_)
    have ok_this := hE22 _ _ ok_this
    have ok_a1 := hE22 _ _ ok_a1
    have ok_a2 := hE22 _ _ ok_a2
    have ok_a3 := hE22 _ _ ok_a3
    have ok_q1 := hE22 _ _ ok_q1
    have ok_q13 := hE22 _ _ ok_q13
    have ok_q15 := hE22 _ _ ok_q15
    have ok_q18 := hE22 _ _ ok_q18
    have hE := hE.tr hE22
    obtain ⟨hi23, hf⟩ := ck_of hf
    refine r_aast (ca := 15) (ci := 3) (t0 := 3) (by decide) rfl rfl (fun _ _ h => wE_P h) hC hR hS ok_q13 ok_q15 hi23 dX2_init_53 hf (fun S24 H locs hf hR hS hE25 => ?_)
    have ok_this := hE25 _ _ ok_this
    have ok_a1 := hE25 _ _ ok_a1
    have ok_a2 := hE25 _ _ ok_a2
    have ok_a3 := hE25 _ _ ok_a3
    have ok_q1 := hE25 _ _ ok_q1
    have ok_q13 := hE25 _ _ ok_q13
    have ok_q15 := hE25 _ _ ok_q15
    have ok_q18 := hE25 _ _ ok_q18
    have hE := hE.tr hE25
    refine lv_iinc (v := 1) (lv' := [(4, .int (1 : Int32)), (0, .ref this), (1, .ref a1), (2, .ref a2), (3, .ref a3)]) hx hb dX2_init_54 hl (k := 0) rfl (by decide) (by decide) rfl (fun ls hl => ?_)
    refine lv_goto (tgt := 30) hx hb dX2_init_57 (by decide) ?_
    refine lv_iload hx hb dX2_init_30 (lv_at hl 0 rfl) ?_
    refine lv_iconst (v := 4) hx hb dX2_init_32 (by decide) ?_
    refine lv_icmp_gt (tgt := 60) hx hb dX2_init_33 (by decide) (fun hc => ?_) (fun hc => ?_)
    · exact absurd hc (by decide)
    · clear hc
      refine lv_aload_n hx hb dX2_init_36 rfl (lv_at hl 1 rfl) ?_
      obtain ⟨q26, hq27, ok_q26, hf⟩ := gR_of hf
      refine gf_RX2_11 hC hR ok_this hq27 dX2_init_37 ?_
      refine lv_iload hx hb dX2_init_40 (lv_at hl 0 rfl) ?_
      obtain ⟨q28, eq28, hf⟩ := jn_of hf
      refine r_new (ci := 3) rfl (by decide) inlX3 rfl (by decide +kernel) (by decide +kernel) (bg7 _ (List.mem_of_getElem? (i := 0) rfl)) (bg3 _ (List.mem_of_getElem? (i := 3) rfl)) (bg3 _ (List.mem_of_getElem? (i := 4) rfl)) hC hR hS (Nat.le_of_ble_eq_true rfl) (Nat.le_of_ble_eq_true rfl) dX2_init_42 eq28 hf (fun S29 H hf hR hS hE30 ok_q28 => ?_)
      have ok_this := hE30 _ _ ok_this
      have ok_a1 := hE30 _ _ ok_a1
      have ok_a2 := hE30 _ _ ok_a2
      have ok_a3 := hE30 _ _ ok_a3
      have ok_q1 := hE30 _ _ ok_q1
      have ok_q13 := hE30 _ _ ok_q13
      have ok_q15 := hE30 _ _ ok_q15
      have ok_q18 := hE30 _ _ ok_q18
      have ok_q26 := hE30 _ _ ok_q26
      have hE := hE.tr hE30
      refine lv_dup hx hb dX2_init_45 rfl ?_
      refine lv_aload_n hx hb dX2_init_46 rfl (lv_at hl 2 rfl) ?_
      obtain ⟨q31, hq32, ok_q31, hf⟩ := gR_of hf
      refine gf_RX2_29 hC hR ok_a1 hq32 dX2_init_47 ?_
      obtain ⟨S33, hc34, hf⟩ := cv_of hf
      refine cl_RX2_33 (As := [.ref q31]) (rest := [.ref q28, .int (1 : Int32), .ref q26]) hC hR hS (c_X3_init l G n q28 q31 S29 S33 hc34 ok_q28 ok_q31) rfl ⟨Nat.le_of_ble_eq_true rfl, Nat.le_of_ble_eq_true rfl⟩ hl.1 rfl (Nat.le_of_ble_eq_true rfl) dX2_init_50 (Nat.le_of_ble_eq_true rfl) (Nat.le_of_ble_eq_true rfl) (fun H locs hR hS hE35 => ?_)
      have ok_this := hE35 _ _ ok_this
      have ok_a1 := hE35 _ _ ok_a1
      have ok_a2 := hE35 _ _ ok_a2
      have ok_a3 := hE35 _ _ ok_a3
      have ok_q1 := hE35 _ _ ok_q1
      have ok_q13 := hE35 _ _ ok_q13
      have ok_q15 := hE35 _ _ ok_q15
      have ok_q18 := hE35 _ _ ok_q18
      have ok_q26 := hE35 _ _ ok_q26
      have ok_q28 := hE35 _ _ ok_q28
      have ok_q31 := hE35 _ _ ok_q31
      have hE := hE.tr hE35
      obtain ⟨hi36, hf⟩ := ck_of hf
      refine r_aast (ca := 15) (ci := 3) (t0 := 3) (by decide) rfl rfl (fun _ _ h => wE_P h) hC hR hS ok_q26 ok_q28 hi36 dX2_init_53 hf (fun S37 H locs hf hR hS hE38 => ?_)
      have ok_this := hE38 _ _ ok_this
      have ok_a1 := hE38 _ _ ok_a1
      have ok_a2 := hE38 _ _ ok_a2
      have ok_a3 := hE38 _ _ ok_a3
      have ok_q1 := hE38 _ _ ok_q1
      have ok_q13 := hE38 _ _ ok_q13
      have ok_q15 := hE38 _ _ ok_q15
      have ok_q18 := hE38 _ _ ok_q18
      have ok_q26 := hE38 _ _ ok_q26
      have ok_q28 := hE38 _ _ ok_q28
      have ok_q31 := hE38 _ _ ok_q31
      have hE := hE.tr hE38
      refine lv_iinc (v := 2) (lv' := [(4, .int (2 : Int32)), (0, .ref this), (1, .ref a1), (2, .ref a2), (3, .ref a3)]) hx hb dX2_init_54 hl (k := 0) rfl (by decide) (by decide) rfl (fun ls hl => ?_)
      refine lv_goto (tgt := 30) hx hb dX2_init_57 (by decide) ?_
      refine lv_iload hx hb dX2_init_30 (lv_at hl 0 rfl) ?_
      refine lv_iconst (v := 4) hx hb dX2_init_32 (by decide) ?_
      refine lv_icmp_gt (tgt := 60) hx hb dX2_init_33 (by decide) (fun hc => ?_) (fun hc => ?_)
      · exact absurd hc (by decide)
      · clear hc
        refine lv_aload_n hx hb dX2_init_36 rfl (lv_at hl 1 rfl) ?_
        obtain ⟨q39, hq40, ok_q39, hf⟩ := gR_of hf
        refine gf_RX2_11 hC hR ok_this hq40 dX2_init_37 ?_
        refine lv_iload hx hb dX2_init_40 (lv_at hl 0 rfl) ?_
        obtain ⟨q41, eq41, hf⟩ := jn_of hf
        refine r_new (ci := 3) rfl (by decide) inlX3 rfl (by decide +kernel) (by decide +kernel) (bg7 _ (List.mem_of_getElem? (i := 0) rfl)) (bg3 _ (List.mem_of_getElem? (i := 3) rfl)) (bg3 _ (List.mem_of_getElem? (i := 4) rfl)) hC hR hS (Nat.le_of_ble_eq_true rfl) (Nat.le_of_ble_eq_true rfl) dX2_init_42 eq41 hf (fun S42 H hf hR hS hE43 ok_q41 => ?_)
        have ok_this := hE43 _ _ ok_this
        have ok_a1 := hE43 _ _ ok_a1
        have ok_a2 := hE43 _ _ ok_a2
        have ok_a3 := hE43 _ _ ok_a3
        have ok_q1 := hE43 _ _ ok_q1
        have ok_q13 := hE43 _ _ ok_q13
        have ok_q15 := hE43 _ _ ok_q15
        have ok_q18 := hE43 _ _ ok_q18
        have ok_q26 := hE43 _ _ ok_q26
        have ok_q28 := hE43 _ _ ok_q28
        have ok_q31 := hE43 _ _ ok_q31
        have ok_q39 := hE43 _ _ ok_q39
        have hE := hE.tr hE43
        refine lv_dup hx hb dX2_init_45 rfl ?_
        refine lv_aload_n hx hb dX2_init_46 rfl (lv_at hl 2 rfl) ?_
        obtain ⟨q44, hq45, ok_q44, hf⟩ := gR_of hf
        refine gf_RX2_29 hC hR ok_a1 hq45 dX2_init_47 ?_
        obtain ⟨S46, hc47, hf⟩ := cv_of hf
        refine cl_RX2_33 (As := [.ref q44]) (rest := [.ref q41, .int (2 : Int32), .ref q39]) hC hR hS (c_X3_init l G n q41 q44 S42 S46 hc47 ok_q41 ok_q44) rfl ⟨Nat.le_of_ble_eq_true rfl, Nat.le_of_ble_eq_true rfl⟩ hl.1 rfl (Nat.le_of_ble_eq_true rfl) dX2_init_50 (Nat.le_of_ble_eq_true rfl) (Nat.le_of_ble_eq_true rfl) (fun H locs hR hS hE48 => ?_)
        have ok_this := hE48 _ _ ok_this
        have ok_a1 := hE48 _ _ ok_a1
        have ok_a2 := hE48 _ _ ok_a2
        have ok_a3 := hE48 _ _ ok_a3
        have ok_q1 := hE48 _ _ ok_q1
        have ok_q13 := hE48 _ _ ok_q13
        have ok_q15 := hE48 _ _ ok_q15
        have ok_q18 := hE48 _ _ ok_q18
        have ok_q26 := hE48 _ _ ok_q26
        have ok_q28 := hE48 _ _ ok_q28
        have ok_q31 := hE48 _ _ ok_q31
        have ok_q39 := hE48 _ _ ok_q39
        have ok_q41 := hE48 _ _ ok_q41
        have ok_q44 := hE48 _ _ ok_q44
        have hE := hE.tr hE48
        obtain ⟨hi49, hf⟩ := ck_of hf
        refine r_aast (ca := 15) (ci := 3) (t0 := 3) (by decide) rfl rfl (fun _ _ h => wE_P h) hC hR hS ok_q39 ok_q41 hi49 dX2_init_53 hf (fun S50 H locs hf hR hS hE51 => ?_)
        have ok_this := hE51 _ _ ok_this
        have ok_a1 := hE51 _ _ ok_a1
        have ok_a2 := hE51 _ _ ok_a2
        have ok_a3 := hE51 _ _ ok_a3
        have ok_q1 := hE51 _ _ ok_q1
        have ok_q13 := hE51 _ _ ok_q13
        have ok_q15 := hE51 _ _ ok_q15
        have ok_q18 := hE51 _ _ ok_q18
        have ok_q26 := hE51 _ _ ok_q26
        have ok_q28 := hE51 _ _ ok_q28
        have ok_q31 := hE51 _ _ ok_q31
        have ok_q39 := hE51 _ _ ok_q39
        have ok_q41 := hE51 _ _ ok_q41
        have ok_q44 := hE51 _ _ ok_q44
        have hE := hE.tr hE51
        refine lv_iinc (v := 3) (lv' := [(4, .int (3 : Int32)), (0, .ref this), (1, .ref a1), (2, .ref a2), (3, .ref a3)]) hx hb dX2_init_54 hl (k := 0) rfl (by decide) (by decide) rfl (fun ls hl => ?_)
        refine lv_goto (tgt := 30) hx hb dX2_init_57 (by decide) ?_
        refine lv_iload hx hb dX2_init_30 (lv_at hl 0 rfl) ?_
        refine lv_iconst (v := 4) hx hb dX2_init_32 (by decide) ?_
        refine lv_icmp_gt (tgt := 60) hx hb dX2_init_33 (by decide) (fun hc => ?_) (fun hc => ?_)
        · exact absurd hc (by decide)
        · clear hc
          refine lv_aload_n hx hb dX2_init_36 rfl (lv_at hl 1 rfl) ?_
          obtain ⟨q52, hq53, ok_q52, hf⟩ := gR_of hf
          refine gf_RX2_11 hC hR ok_this hq53 dX2_init_37 ?_
          refine lv_iload hx hb dX2_init_40 (lv_at hl 0 rfl) ?_
          obtain ⟨q54, eq54, hf⟩ := jn_of hf
          refine r_new (ci := 3) rfl (by decide) inlX3 rfl (by decide +kernel) (by decide +kernel) (bg7 _ (List.mem_of_getElem? (i := 0) rfl)) (bg3 _ (List.mem_of_getElem? (i := 3) rfl)) (bg3 _ (List.mem_of_getElem? (i := 4) rfl)) hC hR hS (Nat.le_of_ble_eq_true rfl) (Nat.le_of_ble_eq_true rfl) dX2_init_42 eq54 hf (fun S55 H hf hR hS hE56 ok_q54 => ?_)
          have ok_this := hE56 _ _ ok_this
          have ok_a1 := hE56 _ _ ok_a1
          have ok_a2 := hE56 _ _ ok_a2
          have ok_a3 := hE56 _ _ ok_a3
          have ok_q1 := hE56 _ _ ok_q1
          have ok_q13 := hE56 _ _ ok_q13
          have ok_q15 := hE56 _ _ ok_q15
          have ok_q18 := hE56 _ _ ok_q18
          have ok_q26 := hE56 _ _ ok_q26
          have ok_q28 := hE56 _ _ ok_q28
          have ok_q31 := hE56 _ _ ok_q31
          have ok_q39 := hE56 _ _ ok_q39
          have ok_q41 := hE56 _ _ ok_q41
          have ok_q44 := hE56 _ _ ok_q44
          have ok_q52 := hE56 _ _ ok_q52
          have hE := hE.tr hE56
          refine lv_dup hx hb dX2_init_45 rfl ?_
          refine lv_aload_n hx hb dX2_init_46 rfl (lv_at hl 2 rfl) ?_
          obtain ⟨q57, hq58, ok_q57, hf⟩ := gR_of hf
          refine gf_RX2_29 hC hR ok_a1 hq58 dX2_init_47 ?_
          obtain ⟨S59, hc60, hf⟩ := cv_of hf
          refine cl_RX2_33 (As := [.ref q57]) (rest := [.ref q54, .int (3 : Int32), .ref q52]) hC hR hS (c_X3_init l G n q54 q57 S55 S59 hc60 ok_q54 ok_q57) rfl ⟨Nat.le_of_ble_eq_true rfl, Nat.le_of_ble_eq_true rfl⟩ hl.1 rfl (Nat.le_of_ble_eq_true rfl) dX2_init_50 (Nat.le_of_ble_eq_true rfl) (Nat.le_of_ble_eq_true rfl) (fun H locs hR hS hE61 => ?_)
          have ok_this := hE61 _ _ ok_this
          have ok_a1 := hE61 _ _ ok_a1
          have ok_a2 := hE61 _ _ ok_a2
          have ok_a3 := hE61 _ _ ok_a3
          have ok_q1 := hE61 _ _ ok_q1
          have ok_q13 := hE61 _ _ ok_q13
          have ok_q15 := hE61 _ _ ok_q15
          have ok_q18 := hE61 _ _ ok_q18
          have ok_q26 := hE61 _ _ ok_q26
          have ok_q28 := hE61 _ _ ok_q28
          have ok_q31 := hE61 _ _ ok_q31
          have ok_q39 := hE61 _ _ ok_q39
          have ok_q41 := hE61 _ _ ok_q41
          have ok_q44 := hE61 _ _ ok_q44
          have ok_q52 := hE61 _ _ ok_q52
          have ok_q54 := hE61 _ _ ok_q54
          have ok_q57 := hE61 _ _ ok_q57
          have hE := hE.tr hE61
          obtain ⟨hi62, hf⟩ := ck_of hf
          refine r_aast (ca := 15) (ci := 3) (t0 := 3) (by decide) rfl rfl (fun _ _ h => wE_P h) hC hR hS ok_q52 ok_q54 hi62 dX2_init_53 hf (fun S63 H locs hf hR hS hE64 => ?_)
          have ok_this := hE64 _ _ ok_this
          have ok_a1 := hE64 _ _ ok_a1
          have ok_a2 := hE64 _ _ ok_a2
          have ok_a3 := hE64 _ _ ok_a3
          have ok_q1 := hE64 _ _ ok_q1
          have ok_q13 := hE64 _ _ ok_q13
          have ok_q15 := hE64 _ _ ok_q15
          have ok_q18 := hE64 _ _ ok_q18
          have ok_q26 := hE64 _ _ ok_q26
          have ok_q28 := hE64 _ _ ok_q28
          have ok_q31 := hE64 _ _ ok_q31
          have ok_q39 := hE64 _ _ ok_q39
          have ok_q41 := hE64 _ _ ok_q41
          have ok_q44 := hE64 _ _ ok_q44
          have ok_q52 := hE64 _ _ ok_q52
          have ok_q54 := hE64 _ _ ok_q54
          have ok_q57 := hE64 _ _ ok_q57
          have hE := hE.tr hE64
          refine lv_iinc (v := 4) (lv' := [(4, .int (4 : Int32)), (0, .ref this), (1, .ref a1), (2, .ref a2), (3, .ref a3)]) hx hb dX2_init_54 hl (k := 0) rfl (by decide) (by decide) rfl (fun ls hl => ?_)
          refine lv_goto (tgt := 30) hx hb dX2_init_57 (by decide) ?_
          refine lv_iload hx hb dX2_init_30 (lv_at hl 0 rfl) ?_
          refine lv_iconst (v := 4) hx hb dX2_init_32 (by decide) ?_
          refine lv_icmp_gt (tgt := 60) hx hb dX2_init_33 (by decide) (fun hc => ?_) (fun hc => ?_)
          · exact absurd hc (by decide)
          · clear hc
            refine lv_aload_n hx hb dX2_init_36 rfl (lv_at hl 1 rfl) ?_
            obtain ⟨q65, hq66, ok_q65, hf⟩ := gR_of hf
            refine gf_RX2_11 hC hR ok_this hq66 dX2_init_37 ?_
            refine lv_iload hx hb dX2_init_40 (lv_at hl 0 rfl) ?_
            obtain ⟨q67, eq67, hf⟩ := jn_of hf
            refine r_new (ci := 3) rfl (by decide) inlX3 rfl (by decide +kernel) (by decide +kernel) (bg7 _ (List.mem_of_getElem? (i := 0) rfl)) (bg3 _ (List.mem_of_getElem? (i := 3) rfl)) (bg3 _ (List.mem_of_getElem? (i := 4) rfl)) hC hR hS (Nat.le_of_ble_eq_true rfl) (Nat.le_of_ble_eq_true rfl) dX2_init_42 eq67 hf (fun S68 H hf hR hS hE69 ok_q67 => ?_)
            have ok_this := hE69 _ _ ok_this
            have ok_a1 := hE69 _ _ ok_a1
            have ok_a2 := hE69 _ _ ok_a2
            have ok_a3 := hE69 _ _ ok_a3
            have ok_q1 := hE69 _ _ ok_q1
            have ok_q13 := hE69 _ _ ok_q13
            have ok_q15 := hE69 _ _ ok_q15
            have ok_q18 := hE69 _ _ ok_q18
            have ok_q26 := hE69 _ _ ok_q26
            have ok_q28 := hE69 _ _ ok_q28
            have ok_q31 := hE69 _ _ ok_q31
            have ok_q39 := hE69 _ _ ok_q39
            have ok_q41 := hE69 _ _ ok_q41
            have ok_q44 := hE69 _ _ ok_q44
            have ok_q52 := hE69 _ _ ok_q52
            have ok_q54 := hE69 _ _ ok_q54
            have ok_q57 := hE69 _ _ ok_q57
            have ok_q65 := hE69 _ _ ok_q65
            have hE := hE.tr hE69
            refine lv_dup hx hb dX2_init_45 rfl ?_
            refine lv_aload_n hx hb dX2_init_46 rfl (lv_at hl 2 rfl) ?_
            obtain ⟨q70, hq71, ok_q70, hf⟩ := gR_of hf
            refine gf_RX2_29 hC hR ok_a1 hq71 dX2_init_47 ?_
            obtain ⟨S72, hc73, hf⟩ := cv_of hf
            refine cl_RX2_33 (As := [.ref q70]) (rest := [.ref q67, .int (4 : Int32), .ref q65]) hC hR hS (c_X3_init l G n q67 q70 S68 S72 hc73 ok_q67 ok_q70) rfl ⟨Nat.le_of_ble_eq_true rfl, Nat.le_of_ble_eq_true rfl⟩ hl.1 rfl (Nat.le_of_ble_eq_true rfl) dX2_init_50 (Nat.le_of_ble_eq_true rfl) (Nat.le_of_ble_eq_true rfl) (fun H locs hR hS hE74 => ?_)
            have ok_this := hE74 _ _ ok_this
            have ok_a1 := hE74 _ _ ok_a1
            have ok_a2 := hE74 _ _ ok_a2
            have ok_a3 := hE74 _ _ ok_a3
            have ok_q1 := hE74 _ _ ok_q1
            have ok_q13 := hE74 _ _ ok_q13
            have ok_q15 := hE74 _ _ ok_q15
            have ok_q18 := hE74 _ _ ok_q18
            have ok_q26 := hE74 _ _ ok_q26
            have ok_q28 := hE74 _ _ ok_q28
            have ok_q31 := hE74 _ _ ok_q31
            have ok_q39 := hE74 _ _ ok_q39
            have ok_q41 := hE74 _ _ ok_q41
            have ok_q44 := hE74 _ _ ok_q44
            have ok_q52 := hE74 _ _ ok_q52
            have ok_q54 := hE74 _ _ ok_q54
            have ok_q57 := hE74 _ _ ok_q57
            have ok_q65 := hE74 _ _ ok_q65
            have ok_q67 := hE74 _ _ ok_q67
            have ok_q70 := hE74 _ _ ok_q70
            have hE := hE.tr hE74
            obtain ⟨hi75, hf⟩ := ck_of hf
            refine r_aast (ca := 15) (ci := 3) (t0 := 3) (by decide) rfl rfl (fun _ _ h => wE_P h) hC hR hS ok_q65 ok_q67 hi75 dX2_init_53 hf (fun S76 H locs hf hR hS hE77 => ?_)
            have ok_this := hE77 _ _ ok_this
            have ok_a1 := hE77 _ _ ok_a1
            have ok_a2 := hE77 _ _ ok_a2
            have ok_a3 := hE77 _ _ ok_a3
            have ok_q1 := hE77 _ _ ok_q1
            have ok_q13 := hE77 _ _ ok_q13
            have ok_q15 := hE77 _ _ ok_q15
            have ok_q18 := hE77 _ _ ok_q18
            have ok_q26 := hE77 _ _ ok_q26
            have ok_q28 := hE77 _ _ ok_q28
            have ok_q31 := hE77 _ _ ok_q31
            have ok_q39 := hE77 _ _ ok_q39
            have ok_q41 := hE77 _ _ ok_q41
            have ok_q44 := hE77 _ _ ok_q44
            have ok_q52 := hE77 _ _ ok_q52
            have ok_q54 := hE77 _ _ ok_q54
            have ok_q57 := hE77 _ _ ok_q57
            have ok_q65 := hE77 _ _ ok_q65
            have ok_q67 := hE77 _ _ ok_q67
            have ok_q70 := hE77 _ _ ok_q70
            have hE := hE.tr hE77
            refine lv_iinc (v := 5) (lv' := [(4, .int (5 : Int32)), (0, .ref this), (1, .ref a1), (2, .ref a2), (3, .ref a3)]) hx hb dX2_init_54 hl (k := 0) rfl (by decide) (by decide) rfl (fun ls hl => ?_)
            refine lv_goto (tgt := 30) hx hb dX2_init_57 (by decide) ?_
            refine lv_iload hx hb dX2_init_30 (lv_at hl 0 rfl) ?_
            refine lv_iconst (v := 4) hx hb dX2_init_32 (by decide) ?_
            refine lv_icmp_gt (tgt := 60) hx hb dX2_init_33 (by decide) (fun hc => ?_) (fun hc => ?_)
            · clear hc
              refine W.widen (k := 36) (n := 805) (Nat.le_of_ble_eq_true rfl) (Nat.le_of_ble_eq_true rfl) ?_
              exact r_vret hC hR hS hE hf dX2_init_60
            · exact absurd hc (by decide)
abbrev rX2_aim : Room := { frames := 0, cells := 0, slots := 0, locals := 0 }
def f_X2_aim (_n : Nat) (this : Nat) (a1 : Int32) (a2 : Int32) (S : MS) : Option (MS) :=
  bd (sI S this 7 a1) fun S1 => bd (sI S1 this 8 a2) fun S3 => bd (sJ S3 this 9 (0 : Int64)) fun S5 => bd (sJ S5 this 10 (0 : Int64)) fun S7 => some S7
set_option maxRecDepth 100000 in
set_option maxHeartbeats 4000000 in
theorem c_X2_aim (l : Launch) (G : Gx) (n : Nat) (this : Nat) (a1 : Int32) (a2 : Int32) (S : MS) (So : MS) (hf : f_X2_aim n this a1 a2 S = some So) (ok_this : Ok S this 2) : Cn G l yX2_aim cX2_aim 3 none rX2_aim [.ref this, .int a1, .int a2] S none So := by
  refine Cn.of (by decide) (Nat.le_of_ble_eq_true rfl) ?_
  intro p e s m args below meth c hC hname hR ls hl
  have hC : Cx G RX2 cX2_aim 3 none p s m args meth c := hC
  have hl : lv_has ls 3 [(0, .ref this), (1, .int a1), (2, .int a2)] := hl
  have hx := hC.x
  have hb := hC.b
  have hS : va_S (gA G) s.heap s.heap [] := va_S.rf
  have hE : Ex S S := Ex.rf S
  unfold f_X2_aim at hf
  refine lv_aload_n hx hb dX2_aim_0 rfl (lv_at hl 0 rfl) ?_
  refine lv_iload_n hx hb dX2_aim_1 rfl (lv_at hl 1 rfl) ?_
  refine pf_RX2_90 hC hR hS ok_this dX2_aim_2 hf (fun S1 H locs hf hR hS hE2 => ?_)
  have ok_this := hE2 _ _ ok_this
  have hE := hE.tr hE2
  refine lv_aload_n hx hb dX2_aim_5 rfl (lv_at hl 0 rfl) ?_
  refine lv_iload_n hx hb dX2_aim_6 rfl (lv_at hl 2 rfl) ?_
  refine pf_RX2_93 hC hR hS ok_this dX2_aim_7 hf (fun S3 H locs hf hR hS hE4 => ?_)
  have ok_this := hE4 _ _ ok_this
  have hE := hE.tr hE4
  refine lv_aload_n hx hb dX2_aim_10 rfl (lv_at hl 0 rfl) ?_
  refine lv_lconst (v := 0) hx hb dX2_aim_11 (by decide) ?_
  refine pf_RX2_48 hC hR hS ok_this dX2_aim_12 hf (fun S5 H locs hf hR hS hE6 => ?_)
  have ok_this := hE6 _ _ ok_this
  have hE := hE.tr hE6
  refine lv_aload_n hx hb dX2_aim_15 rfl (lv_at hl 0 rfl) ?_
  refine lv_lconst (v := 0) hx hb dX2_aim_16 (by decide) ?_
  refine pf_RX2_85 hC hR hS ok_this dX2_aim_17 hf (fun S7 H locs hf hR hS hE8 => ?_)
  have ok_this := hE8 _ _ ok_this
  have hE := hE.tr hE8
  exact r_vret hC hR hS hE hf dX2_aim_20
abbrev rX3_copyFrom : Room := { frames := 1, cells := 0, slots := 0, locals := 120 }
def f_X3_copyFrom (_n : Nat) (this : Nat) (a1 : Nat) (S : MS) : Option (MS) :=
  gR S (mR S a1 1) 12 fun q1 => gR S (mR S this 1) 12 fun q3 => ck (cpk (0 : Int32) (0 : Int32) (24 : Int32) (mN S q1) (mN S q3)) (bd (rI S q3 (va_cpy (mI S q1) (mI S q3) (0 : Int32).toNatClampNeg (0 : Int32).toNatClampNeg (24 : Int32).toNatClampNeg)) fun S6 => gR S6 (mR S6 a1 2) 12 fun q8 => gR S6 (mR S6 this 2) 12 fun q10 => ck (cpk (0 : Int32) (0 : Int32) (24 : Int32) (mN S6 q8) (mN S6 q10)) (bd (rI S6 q10 (va_cpy (mI S6 q8) (mI S6 q10) (0 : Int32).toNatClampNeg (0 : Int32).toNatClampNeg (24 : Int32).toNatClampNeg)) fun S13 => gR S13 (mR S13 a1 3) 12 fun q15 => gR S13 (mR S13 this 3) 12 fun q17 => ck (cpk (0 : Int32) (0 : Int32) (24 : Int32) (mN S13 q15) (mN S13 q17)) (bd (rI S13 q17 (va_cpy (mI S13 q15) (mI S13 q17) (0 : Int32).toNatClampNeg (0 : Int32).toNatClampNeg (24 : Int32).toNatClampNeg)) fun S20 => gR S20 (mR S20 a1 4) 12 fun q22 => gR S20 (mR S20 this 4) 12 fun q24 => ck (cpk (0 : Int32) (0 : Int32) (6 : Int32) (mN S20 q22) (mN S20 q24)) (bd (rI S20 q24 (va_cpy (mI S20 q22) (mI S20 q24) (0 : Int32).toNatClampNeg (0 : Int32).toNatClampNeg (6 : Int32).toNatClampNeg)) fun S27 => gR S27 (mR S27 a1 5) 12 fun q29 => gR S27 (mR S27 this 5) 12 fun q31 => ck (cpk (0 : Int32) (0 : Int32) (6 : Int32) (mN S27 q29) (mN S27 q31)) (bd (rI S27 q31 (va_cpy (mI S27 q29) (mI S27 q31) (0 : Int32).toNatClampNeg (0 : Int32).toNatClampNeg (6 : Int32).toNatClampNeg)) fun S34 => gR S34 (mR S34 a1 6) 12 fun q36 => gR S34 (mR S34 this 6) 12 fun q38 => gR S34 (mR S34 this 6) 12 fun q40 => gR S34 (mR S34 a1 6) 12 fun q42 => ck (cpk (0 : Int32) (0 : Int32) (imin (Int32.ofNat (mN S34 q40)) (Int32.ofNat (mN S34 q42))) (mN S34 q36) (mN S34 q38)) (bd (rI S34 q38 (va_cpy (mI S34 q36) (mI S34 q38) (0 : Int32).toNatClampNeg (0 : Int32).toNatClampNeg (imin (Int32.ofNat (mN S34 q40)) (Int32.ofNat (mN S34 q42))).toNatClampNeg)) fun S45 => bd (sI S45 this 7 (mI S45 a1 7)) fun S47 => bd (sI S47 this 8 (mI S47 a1 8)) fun S49 => bd (sJ S49 this 9 (mJ S49 a1 9)) fun S51 => bd (sJ S51 this 10 (mJ S51 a1 10)) fun S53 => bd (sJ S53 this 11 (mJ S53 a1 11)) fun S55 => some S55))))))
set_option maxRecDepth 100000 in
set_option maxHeartbeats 4000000 in
theorem c_X3_copyFrom (l : Launch) (G : Gx) (n : Nat) (this : Nat) (a1 : Nat) (S : MS) (So : MS) (hf : f_X3_copyFrom n this a1 S = some So) (ok_this : Ok S this 3) (ok_a1 : Ok S a1 3) : Cn G l yX3_copyFrom cX3_copyFrom 2 none rX3_copyFrom [.ref this, .ref a1] S none So := by
  refine Cn.of (by decide) (Nat.le_of_ble_eq_true rfl) ?_
  intro p e s m args below meth c hC hname hR ls hl
  have hC : Cx G RX3 cX3_copyFrom 2 none p s m args meth c := hC
  have hl : lv_has ls 2 [(0, .ref this), (1, .ref a1)] := hl
  have hx := hC.x
  have hb := hC.b
  have hS : va_S (gA G) s.heap s.heap [] := va_S.rf
  have hE : Ex S S := Ex.rf S
  unfold f_X3_copyFrom at hf
  refine lv_aload_n hx hb dX3_copyFrom_0 rfl (lv_at hl 1 rfl) ?_
  obtain ⟨q1, hq2, ok_q1, hf⟩ := gR_of hf
  refine gf_RX3_9 hC hR ok_a1 hq2 dX3_copyFrom_1 ?_
  refine lv_iconst (v := 0) hx hb dX3_copyFrom_4 (by decide) ?_
  refine lv_aload_n hx hb dX3_copyFrom_5 rfl (lv_at hl 0 rfl) ?_
  obtain ⟨q3, hq4, ok_q3, hf⟩ := gR_of hf
  refine gf_RX3_9 hC hR ok_this hq4 dX3_copyFrom_6 ?_
  refine lv_iconst (v := 0) hx hb dX3_copyFrom_9 (by decide) ?_
  refine lv_bipush (v := 24) hx hb dX3_copyFrom_10 (by decide) ?_
  obtain ⟨hi5, hf⟩ := ck_of hf
  refine r_copyI hC hR hS hl.1 (bg45 _ (List.mem_of_getElem? (i := 17) rfl)) (bg45 _ (List.mem_of_getElem? (i := 18) rfl)) (bg45 _ (List.mem_of_getElem? (i := 19) rfl)) (bg45 _ (List.mem_of_getElem? (i := 20) rfl)) ok_q1 ok_q3 hi5 (Nat.le_of_ble_eq_true rfl) (by decide +kernel) dX3_copyFrom_12 hf (fun S6 H locs hf hR hS hE7 => ?_)
  have ok_this := hE7 _ _ ok_this
  have ok_a1 := hE7 _ _ ok_a1
  have ok_q1 := hE7 _ _ ok_q1
  have ok_q3 := hE7 _ _ ok_q3
  have hE := hE.tr hE7
  refine lv_aload_n hx hb dX3_copyFrom_15 rfl (lv_at hl 1 rfl) ?_
  obtain ⟨q8, hq9, ok_q8, hf⟩ := gR_of hf
  refine gf_RX3_15 hC hR ok_a1 hq9 dX3_copyFrom_16 ?_
  refine lv_iconst (v := 0) hx hb dX3_copyFrom_19 (by decide) ?_
  refine lv_aload_n hx hb dX3_copyFrom_20 rfl (lv_at hl 0 rfl) ?_
  obtain ⟨q10, hq11, ok_q10, hf⟩ := gR_of hf
  refine gf_RX3_15 hC hR ok_this hq11 dX3_copyFrom_21 ?_
  refine lv_iconst (v := 0) hx hb dX3_copyFrom_24 (by decide) ?_
  refine lv_bipush (v := 24) hx hb dX3_copyFrom_25 (by decide) ?_
  obtain ⟨hi12, hf⟩ := ck_of hf
  refine r_copyI hC hR hS hl.1 (bg45 _ (List.mem_of_getElem? (i := 17) rfl)) (bg45 _ (List.mem_of_getElem? (i := 18) rfl)) (bg45 _ (List.mem_of_getElem? (i := 19) rfl)) (bg45 _ (List.mem_of_getElem? (i := 20) rfl)) ok_q8 ok_q10 hi12 (Nat.le_of_ble_eq_true rfl) (by decide +kernel) dX3_copyFrom_27 hf (fun S13 H locs hf hR hS hE14 => ?_)
  have ok_this := hE14 _ _ ok_this
  have ok_a1 := hE14 _ _ ok_a1
  have ok_q1 := hE14 _ _ ok_q1
  have ok_q3 := hE14 _ _ ok_q3
  have ok_q8 := hE14 _ _ ok_q8
  have ok_q10 := hE14 _ _ ok_q10
  have hE := hE.tr hE14
  refine lv_aload_n hx hb dX3_copyFrom_30 rfl (lv_at hl 1 rfl) ?_
  obtain ⟨q15, hq16, ok_q15, hf⟩ := gR_of hf
  refine gf_RX3_18 hC hR ok_a1 hq16 dX3_copyFrom_31 ?_
  refine lv_iconst (v := 0) hx hb dX3_copyFrom_34 (by decide) ?_
  refine lv_aload_n hx hb dX3_copyFrom_35 rfl (lv_at hl 0 rfl) ?_
  obtain ⟨q17, hq18, ok_q17, hf⟩ := gR_of hf
  refine gf_RX3_18 hC hR ok_this hq18 dX3_copyFrom_36 ?_
  refine lv_iconst (v := 0) hx hb dX3_copyFrom_39 (by decide) ?_
  refine lv_bipush (v := 24) hx hb dX3_copyFrom_40 (by decide) ?_
  obtain ⟨hi19, hf⟩ := ck_of hf
  refine r_copyI hC hR hS hl.1 (bg45 _ (List.mem_of_getElem? (i := 17) rfl)) (bg45 _ (List.mem_of_getElem? (i := 18) rfl)) (bg45 _ (List.mem_of_getElem? (i := 19) rfl)) (bg45 _ (List.mem_of_getElem? (i := 20) rfl)) ok_q15 ok_q17 hi19 (Nat.le_of_ble_eq_true rfl) (by decide +kernel) dX3_copyFrom_42 hf (fun S20 H locs hf hR hS hE21 => ?_)
  have ok_this := hE21 _ _ ok_this
  have ok_a1 := hE21 _ _ ok_a1
  have ok_q1 := hE21 _ _ ok_q1
  have ok_q3 := hE21 _ _ ok_q3
  have ok_q8 := hE21 _ _ ok_q8
  have ok_q10 := hE21 _ _ ok_q10
  have ok_q15 := hE21 _ _ ok_q15
  have ok_q17 := hE21 _ _ ok_q17
  have hE := hE.tr hE21
  refine lv_aload_n hx hb dX3_copyFrom_45 rfl (lv_at hl 1 rfl) ?_
  obtain ⟨q22, hq23, ok_q22, hf⟩ := gR_of hf
  refine gf_RX3_21 hC hR ok_a1 hq23 dX3_copyFrom_46 ?_
  refine lv_iconst (v := 0) hx hb dX3_copyFrom_49 (by decide) ?_
  refine lv_aload_n hx hb dX3_copyFrom_50 rfl (lv_at hl 0 rfl) ?_
  obtain ⟨q24, hq25, ok_q24, hf⟩ := gR_of hf
  refine gf_RX3_21 hC hR ok_this hq25 dX3_copyFrom_51 ?_
  refine lv_iconst (v := 0) hx hb dX3_copyFrom_54 (by decide) ?_
  refine lv_bipush (v := 6) hx hb dX3_copyFrom_55 (by decide) ?_
  obtain ⟨hi26, hf⟩ := ck_of hf
  refine r_copyI hC hR hS hl.1 (bg45 _ (List.mem_of_getElem? (i := 17) rfl)) (bg45 _ (List.mem_of_getElem? (i := 18) rfl)) (bg45 _ (List.mem_of_getElem? (i := 19) rfl)) (bg45 _ (List.mem_of_getElem? (i := 20) rfl)) ok_q22 ok_q24 hi26 (Nat.le_of_ble_eq_true rfl) (by decide +kernel) dX3_copyFrom_57 hf (fun S27 H locs hf hR hS hE28 => ?_)
  have ok_this := hE28 _ _ ok_this
  have ok_a1 := hE28 _ _ ok_a1
  have ok_q1 := hE28 _ _ ok_q1
  have ok_q3 := hE28 _ _ ok_q3
  have ok_q8 := hE28 _ _ ok_q8
  have ok_q10 := hE28 _ _ ok_q10
  have ok_q15 := hE28 _ _ ok_q15
  have ok_q17 := hE28 _ _ ok_q17
  have ok_q22 := hE28 _ _ ok_q22
  have ok_q24 := hE28 _ _ ok_q24
  have hE := hE.tr hE28
  refine lv_aload_n hx hb dX3_copyFrom_60 rfl (lv_at hl 1 rfl) ?_
  obtain ⟨q29, hq30, ok_q29, hf⟩ := gR_of hf
  refine gf_RX3_24 hC hR ok_a1 hq30 dX3_copyFrom_61 ?_
  refine lv_iconst (v := 0) hx hb dX3_copyFrom_64 (by decide) ?_
  refine lv_aload_n hx hb dX3_copyFrom_65 rfl (lv_at hl 0 rfl) ?_
  obtain ⟨q31, hq32, ok_q31, hf⟩ := gR_of hf
  refine gf_RX3_24 hC hR ok_this hq32 dX3_copyFrom_66 ?_
  refine lv_iconst (v := 0) hx hb dX3_copyFrom_69 (by decide) ?_
  refine lv_bipush (v := 6) hx hb dX3_copyFrom_70 (by decide) ?_
  obtain ⟨hi33, hf⟩ := ck_of hf
  refine r_copyI hC hR hS hl.1 (bg45 _ (List.mem_of_getElem? (i := 17) rfl)) (bg45 _ (List.mem_of_getElem? (i := 18) rfl)) (bg45 _ (List.mem_of_getElem? (i := 19) rfl)) (bg45 _ (List.mem_of_getElem? (i := 20) rfl)) ok_q29 ok_q31 hi33 (Nat.le_of_ble_eq_true rfl) (by decide +kernel) dX3_copyFrom_72 hf (fun S34 H locs hf hR hS hE35 => ?_)
  have ok_this := hE35 _ _ ok_this
  have ok_a1 := hE35 _ _ ok_a1
  have ok_q1 := hE35 _ _ ok_q1
  have ok_q3 := hE35 _ _ ok_q3
  have ok_q8 := hE35 _ _ ok_q8
  have ok_q10 := hE35 _ _ ok_q10
  have ok_q15 := hE35 _ _ ok_q15
  have ok_q17 := hE35 _ _ ok_q17
  have ok_q22 := hE35 _ _ ok_q22
  have ok_q24 := hE35 _ _ ok_q24
  have ok_q29 := hE35 _ _ ok_q29
  have ok_q31 := hE35 _ _ ok_q31
  have hE := hE.tr hE35
  refine lv_aload_n hx hb dX3_copyFrom_75 rfl (lv_at hl 1 rfl) ?_
  obtain ⟨q36, hq37, ok_q36, hf⟩ := gR_of hf
  refine gf_RX3_36 hC hR ok_a1 hq37 dX3_copyFrom_76 ?_
  refine lv_iconst (v := 0) hx hb dX3_copyFrom_79 (by decide) ?_
  refine lv_aload_n hx hb dX3_copyFrom_80 rfl (lv_at hl 0 rfl) ?_
  obtain ⟨q38, hq39, ok_q38, hf⟩ := gR_of hf
  refine gf_RX3_36 hC hR ok_this hq39 dX3_copyFrom_81 ?_
  refine lv_iconst (v := 0) hx hb dX3_copyFrom_84 (by decide) ?_
  refine lv_aload_n hx hb dX3_copyFrom_85 rfl (lv_at hl 0 rfl) ?_
  obtain ⟨q40, hq41, ok_q40, hf⟩ := gR_of hf
  refine gf_RX3_36 hC hR ok_this hq41 dX3_copyFrom_86 ?_
  refine r_alenI hC hR ok_q40 dX3_copyFrom_89 ?_
  refine lv_aload_n hx hb dX3_copyFrom_90 rfl (lv_at hl 1 rfl) ?_
  obtain ⟨q42, hq43, ok_q42, hf⟩ := gR_of hf
  refine gf_RX3_36 hC hR ok_a1 hq43 dX3_copyFrom_91 ?_
  refine r_alenI hC hR ok_q42 dX3_copyFrom_94 ?_
  refine r_imin (v := (imin (Int32.ofNat (mN S34 q40)) (Int32.ofNat (mN S34 q42)))) hC hl.1 (bg45 _ (List.mem_of_getElem? (i := 21) rfl)) rfl (Nat.le_of_ble_eq_true rfl) (Nat.le_of_ble_eq_true rfl) (Nat.zero_le _) (Nat.zero_le _) dX3_copyFrom_95 ?_
  obtain ⟨hi44, hf⟩ := ck_of hf
  refine r_copyI hC hR hS hl.1 (bg45 _ (List.mem_of_getElem? (i := 17) rfl)) (bg45 _ (List.mem_of_getElem? (i := 18) rfl)) (bg45 _ (List.mem_of_getElem? (i := 19) rfl)) (bg45 _ (List.mem_of_getElem? (i := 20) rfl)) ok_q36 ok_q38 hi44 (Nat.le_of_ble_eq_true rfl) (by decide +kernel) dX3_copyFrom_98 hf (fun S45 H locs hf hR hS hE46 => ?_)
  have ok_this := hE46 _ _ ok_this
  have ok_a1 := hE46 _ _ ok_a1
  have ok_q1 := hE46 _ _ ok_q1
  have ok_q3 := hE46 _ _ ok_q3
  have ok_q8 := hE46 _ _ ok_q8
  have ok_q10 := hE46 _ _ ok_q10
  have ok_q15 := hE46 _ _ ok_q15
  have ok_q17 := hE46 _ _ ok_q17
  have ok_q22 := hE46 _ _ ok_q22
  have ok_q24 := hE46 _ _ ok_q24
  have ok_q29 := hE46 _ _ ok_q29
  have ok_q31 := hE46 _ _ ok_q31
  have ok_q36 := hE46 _ _ ok_q36
  have ok_q38 := hE46 _ _ ok_q38
  have ok_q40 := hE46 _ _ ok_q40
  have ok_q42 := hE46 _ _ ok_q42
  have hE := hE.tr hE46
  refine lv_aload_n hx hb dX3_copyFrom_101 rfl (lv_at hl 0 rfl) ?_
  refine lv_aload_n hx hb dX3_copyFrom_102 rfl (lv_at hl 1 rfl) ?_
  refine gf_RX3_57 hC hR ok_a1 dX3_copyFrom_103 ?_
  refine pf_RX3_57 hC hR hS ok_this dX3_copyFrom_106 hf (fun S47 H locs hf hR hS hE48 => ?_)
  have ok_this := hE48 _ _ ok_this
  have ok_a1 := hE48 _ _ ok_a1
  have ok_q1 := hE48 _ _ ok_q1
  have ok_q3 := hE48 _ _ ok_q3
  have ok_q8 := hE48 _ _ ok_q8
  have ok_q10 := hE48 _ _ ok_q10
  have ok_q15 := hE48 _ _ ok_q15
  have ok_q17 := hE48 _ _ ok_q17
  have ok_q22 := hE48 _ _ ok_q22
  have ok_q24 := hE48 _ _ ok_q24
  have ok_q29 := hE48 _ _ ok_q29
  have ok_q31 := hE48 _ _ ok_q31
  have ok_q36 := hE48 _ _ ok_q36
  have ok_q38 := hE48 _ _ ok_q38
  have ok_q40 := hE48 _ _ ok_q40
  have ok_q42 := hE48 _ _ ok_q42
  have hE := hE.tr hE48
  refine lv_aload_n hx hb dX3_copyFrom_109 rfl (lv_at hl 0 rfl) ?_
  refine lv_aload_n hx hb dX3_copyFrom_110 rfl (lv_at hl 1 rfl) ?_
  refine gf_RX3_60 hC hR ok_a1 dX3_copyFrom_111 ?_
  refine pf_RX3_60 hC hR hS ok_this dX3_copyFrom_114 hf (fun S49 H locs hf hR hS hE50 => ?_)
  have ok_this := hE50 _ _ ok_this
  have ok_a1 := hE50 _ _ ok_a1
  have ok_q1 := hE50 _ _ ok_q1
  have ok_q3 := hE50 _ _ ok_q3
  have ok_q8 := hE50 _ _ ok_q8
  have ok_q10 := hE50 _ _ ok_q10
  have ok_q15 := hE50 _ _ ok_q15
  have ok_q17 := hE50 _ _ ok_q17
  have ok_q22 := hE50 _ _ ok_q22
  have ok_q24 := hE50 _ _ ok_q24
  have ok_q29 := hE50 _ _ ok_q29
  have ok_q31 := hE50 _ _ ok_q31
  have ok_q36 := hE50 _ _ ok_q36
  have ok_q38 := hE50 _ _ ok_q38
  have ok_q40 := hE50 _ _ ok_q40
  have ok_q42 := hE50 _ _ ok_q42
  have hE := hE.tr hE50
  refine lv_aload_n hx hb dX3_copyFrom_117 rfl (lv_at hl 0 rfl) ?_
  refine lv_aload_n hx hb dX3_copyFrom_118 rfl (lv_at hl 1 rfl) ?_
  refine gf_RX3_63 hC hR ok_a1 dX3_copyFrom_119 ?_
  refine pf_RX3_63 hC hR hS ok_this dX3_copyFrom_122 hf (fun S51 H locs hf hR hS hE52 => ?_)
  have ok_this := hE52 _ _ ok_this
  have ok_a1 := hE52 _ _ ok_a1
  have ok_q1 := hE52 _ _ ok_q1
  have ok_q3 := hE52 _ _ ok_q3
  have ok_q8 := hE52 _ _ ok_q8
  have ok_q10 := hE52 _ _ ok_q10
  have ok_q15 := hE52 _ _ ok_q15
  have ok_q17 := hE52 _ _ ok_q17
  have ok_q22 := hE52 _ _ ok_q22
  have ok_q24 := hE52 _ _ ok_q24
  have ok_q29 := hE52 _ _ ok_q29
  have ok_q31 := hE52 _ _ ok_q31
  have ok_q36 := hE52 _ _ ok_q36
  have ok_q38 := hE52 _ _ ok_q38
  have ok_q40 := hE52 _ _ ok_q40
  have ok_q42 := hE52 _ _ ok_q42
  have hE := hE.tr hE52
  refine lv_aload_n hx hb dX3_copyFrom_125 rfl (lv_at hl 0 rfl) ?_
  refine lv_aload_n hx hb dX3_copyFrom_126 rfl (lv_at hl 1 rfl) ?_
  refine gf_RX3_67 hC hR ok_a1 dX3_copyFrom_127 ?_
  refine pf_RX3_67 hC hR hS ok_this dX3_copyFrom_130 hf (fun S53 H locs hf hR hS hE54 => ?_)
  have ok_this := hE54 _ _ ok_this
  have ok_a1 := hE54 _ _ ok_a1
  have ok_q1 := hE54 _ _ ok_q1
  have ok_q3 := hE54 _ _ ok_q3
  have ok_q8 := hE54 _ _ ok_q8
  have ok_q10 := hE54 _ _ ok_q10
  have ok_q15 := hE54 _ _ ok_q15
  have ok_q17 := hE54 _ _ ok_q17
  have ok_q22 := hE54 _ _ ok_q22
  have ok_q24 := hE54 _ _ ok_q24
  have ok_q29 := hE54 _ _ ok_q29
  have ok_q31 := hE54 _ _ ok_q31
  have ok_q36 := hE54 _ _ ok_q36
  have ok_q38 := hE54 _ _ ok_q38
  have ok_q40 := hE54 _ _ ok_q40
  have ok_q42 := hE54 _ _ ok_q42
  have hE := hE.tr hE54
  refine lv_aload_n hx hb dX3_copyFrom_133 rfl (lv_at hl 0 rfl) ?_
  refine lv_aload_n hx hb dX3_copyFrom_134 rfl (lv_at hl 1 rfl) ?_
  refine gf_RX3_70 hC hR ok_a1 dX3_copyFrom_135 ?_
  refine pf_RX3_70 hC hR hS ok_this dX3_copyFrom_138 hf (fun S55 H locs hf hR hS hE56 => ?_)
  have ok_this := hE56 _ _ ok_this
  have ok_a1 := hE56 _ _ ok_a1
  have ok_q1 := hE56 _ _ ok_q1
  have ok_q3 := hE56 _ _ ok_q3
  have ok_q8 := hE56 _ _ ok_q8
  have ok_q10 := hE56 _ _ ok_q10
  have ok_q15 := hE56 _ _ ok_q15
  have ok_q17 := hE56 _ _ ok_q17
  have ok_q22 := hE56 _ _ ok_q22
  have ok_q24 := hE56 _ _ ok_q24
  have ok_q29 := hE56 _ _ ok_q29
  have ok_q31 := hE56 _ _ ok_q31
  have ok_q36 := hE56 _ _ ok_q36
  have ok_q38 := hE56 _ _ ok_q38
  have ok_q40 := hE56 _ _ ok_q40
  have ok_q42 := hE56 _ _ ok_q42
  have hE := hE.tr hE56
  exact r_vret hC hR hS hE hf dX3_copyFrom_141
abbrev rX3_fieldHad : Room := { frames := 2, cells := 0, slots := 0, locals := 53 }
def f_X3_fieldHad (n : Nat) (this : Nat) (a1 : Int32) (S : MS) : Option (Int64 × MS) :=
  gR S (mR S this 4) 12 fun q1 => ck (inb a1 (mN S q1)) ((if (mI S q1 a1.toNatClampNeg) = (-1 : Int32) then some ((0 : Int64), S) else gR S (mR S this 0) 1 fun q4 => gR S (mR S this 4) 12 fun q6 => ck (inb a1 (mN S q6)) (cl (f_X1_spread n q4 (lsh (1 : Int64) (mI S q6 a1.toNatClampNeg)) ((mJ S this 10) ^^^ (-1 : Int64)) S) fun x12 S9 => some (x12, S9))))
set_option maxRecDepth 100000 in
set_option maxHeartbeats 4000000 in
theorem c_X3_fieldHad (l : Launch) (G : Gx) (n : Nat) (this : Nat) (a1 : Int32) (S : MS) (ro : Int64) (So : MS) (hf : f_X3_fieldHad n this a1 S = some (ro, So)) (ok_this : Ok S this 3) : Cn G l yX3_fieldHad cX3_fieldHad 2 (some .long) rX3_fieldHad [.ref this, .int a1] S (some (.long ro)) So := by
  refine Cn.of (by decide) (Nat.le_of_ble_eq_true rfl) ?_
  intro p e s m args below meth c hC hname hR ls hl
  have hC : Cx G RX3 cX3_fieldHad 2 (some .long) p s m args meth c := hC
  have hl : lv_has ls 2 [(0, .ref this), (1, .int a1)] := hl
  have hx := hC.x
  have hb := hC.b
  have hS : va_S (gA G) s.heap s.heap [] := va_S.rf
  have hE : Ex S S := Ex.rf S
  unfold f_X3_fieldHad at hf
  refine lv_aload_n hx hb dX3_fieldHad_0 rfl (lv_at hl 0 rfl) ?_
  obtain ⟨q1, hq2, ok_q1, hf⟩ := gR_of hf
  refine gf_RX3_21 hC hR ok_this hq2 dX3_fieldHad_1 ?_
  refine lv_iload_n hx hb dX3_fieldHad_4 rfl (lv_at hl 1 rfl) ?_
  obtain ⟨hi3, hf⟩ := ck_of hf
  refine r_iald hC hR ok_q1 hi3 dX3_fieldHad_5 ?_
  refine lv_iconst (v := -1) hx hb dX3_fieldHad_6 (by decide) ?_
  refine lv_icmp_ne (tgt := 14) hx hb dX3_fieldHad_7 (by decide) (fun hc => ?_) (fun hc => ?_)
  · replace hf := if_f hf hc
    refine lv_aload_n hx hb dX3_fieldHad_14 rfl (lv_at hl 0 rfl) ?_
    obtain ⟨q4, hq5, ok_q4, hf⟩ := gR_of hf
    refine gf_RX3_27 hC hR ok_this hq5 dX3_fieldHad_15 ?_
    refine lv_lconst (v := 1) hx hb dX3_fieldHad_18 (by decide) ?_
    refine lv_aload_n hx hb dX3_fieldHad_19 rfl (lv_at hl 0 rfl) ?_
    obtain ⟨q6, hq7, ok_q6, hf⟩ := gR_of hf
    refine gf_RX3_21 hC hR ok_this hq7 dX3_fieldHad_20 ?_
    refine lv_iload_n hx hb dX3_fieldHad_23 rfl (lv_at hl 1 rfl) ?_
    obtain ⟨hi8, hf⟩ := ck_of hf
    refine r_iald hC hR ok_q6 hi8 dX3_fieldHad_24 ?_
    refine lv_lshl (v := (lsh (1 : Int64) (mI S q6 a1.toNatClampNeg))) hx hb dX3_fieldHad_25 rfl ?_
    refine lv_aload_n hx hb dX3_fieldHad_26 rfl (lv_at hl 0 rfl) ?_
    refine gf_RX3_67 hC hR ok_this dX3_fieldHad_27 ?_
    refine lv_ldc2 (v := -1) hx hb hC.ow (hC.ts _ (bg35 _ (List.mem_of_getElem? (i := 11) rfl))) dX3_fieldHad_30 ?_
    refine lv_lxor hx hb dX3_fieldHad_33 ?_
    obtain ⟨x12, S9, hc10, hf⟩ := cl_of hf
    refine cl_RX3_119 (As := [.long (lsh (1 : Int64) (mI S q6 a1.toNatClampNeg)), .long ((mJ S this 10) ^^^ (-1 : Int64))]) (rest := []) hC hR hS (c_X1_spread l G n q4 (lsh (1 : Int64) (mI S q6 a1.toNatClampNeg)) ((mJ S this 10) ^^^ (-1 : Int64)) S x12 S9 hc10 ok_q4) ok_q4 rfl ⟨Nat.le_of_ble_eq_true rfl, Nat.le_of_ble_eq_true rfl⟩ hl.1 rfl (Nat.le_of_ble_eq_true rfl) dX3_fieldHad_34 (Nat.zero_le _) (Nat.zero_le _) (fun H locs hR hS hE11 => ?_)
    have ok_this := hE11 _ _ ok_this
    have ok_q1 := hE11 _ _ ok_q1
    have ok_q4 := hE11 _ _ ok_q4
    have ok_q6 := hE11 _ _ ok_q6
    have hE := hE.tr hE11
    exact r_lret hC hR hS hE hf dX3_fieldHad_37
  · replace hf := if_t hf hc
    refine lv_lconst (v := 0) hx hb dX3_fieldHad_10 (by decide) ?_
    refine lv_goto (tgt := 37) hx hb dX3_fieldHad_11 (by decide) ?_
    exact r_lret hC hR hS hE hf dX3_fieldHad_37
abbrev rJ6_bitCount_0f7a4 : Room := { frames := 0, cells := 0, slots := 0, locals := 0 }
def f_J6_bitCount_0f7a4 (_n : Nat) (a1 : Int32) (S : MS) : Option (Int32 × MS) :=
  bd (a1 - ((iush a1 (1 : Int32)) &&& (1431655765 : Int32))) fun x1 => bd ((x1 &&& (858993459 : Int32)) + ((iush x1 (2 : Int32)) &&& (858993459 : Int32))) fun x2 => bd ((x2 + (iush x2 (4 : Int32))) &&& (252645135 : Int32)) fun x3 => bd (x3 + (iush x3 (8 : Int32))) fun x4 => bd (x4 + (iush x4 (16 : Int32))) fun x5 => some ((x5 &&& (63 : Int32)), S)
set_option maxRecDepth 100000 in
set_option maxHeartbeats 4000000 in
theorem c_J6_bitCount_0f7a4 (l : Launch) (G : Gx) (n : Nat) (a1 : Int32) (S : MS) (ro : Int32) (So : MS) (hf : f_J6_bitCount_0f7a4 n a1 S = some (ro, So)) : Cn G l yJ6_bitCount_0f7a4 cJ6_bitCount_0f7a4 1 (some .int) rJ6_bitCount_0f7a4 [.int a1] S (some (.int ro)) So := by
  refine Cn.of (by decide) (Nat.le_of_ble_eq_true rfl) ?_
  intro p e s m args below meth c hC hname hR ls hl
  have hC : Cx G RJ6 cJ6_bitCount_0f7a4 1 (some .int) p s m args meth c := hC
  have hl : lv_has ls 1 [(0, .int a1)] := hl
  have hx := hC.x
  have hb := hC.b
  have hS : va_S (gA G) s.heap s.heap [] := va_S.rf
  have hE : Ex S S := Ex.rf S
  unfold f_J6_bitCount_0f7a4 at hf
  refine lv_iload_n hx hb dJ6_bitCount_0f7a4_0 rfl (lv_at hl 0 rfl) ?_
  refine lv_iload_n hx hb dJ6_bitCount_0f7a4_1 rfl (lv_at hl 0 rfl) ?_
  refine lv_iconst (v := 1) hx hb dJ6_bitCount_0f7a4_2 (by decide) ?_
  refine lv_iushr (v := (iush a1 (1 : Int32))) hx hb dJ6_bitCount_0f7a4_3 rfl ?_
  refine lv_ldcw (v := 1431655765) hx hb hC.ow (hC.ts _ (bg37 _ (List.mem_of_getElem? (i := 23) rfl))) dJ6_bitCount_0f7a4_4 ?_
  refine lv_iand hx hb dJ6_bitCount_0f7a4_7 ?_
  refine lv_isub hx hb dJ6_bitCount_0f7a4_8 ?_
  refine bdi hf (fun x1 hf => ?_)
  refine lv_istore_n (lv' := [(0, .int x1)]) hx hb dJ6_bitCount_0f7a4_9 rfl hl (by decide) rfl (fun ls hl => ?_)
  refine lv_iload_n hx hb dJ6_bitCount_0f7a4_10 rfl (lv_at hl 0 rfl) ?_
  refine lv_ldcw (v := 858993459) hx hb hC.ow (hC.ts _ (bg38 _ (List.mem_of_getElem? (i := 0) rfl))) dJ6_bitCount_0f7a4_11 ?_
  refine lv_iand hx hb dJ6_bitCount_0f7a4_14 ?_
  refine lv_iload_n hx hb dJ6_bitCount_0f7a4_15 rfl (lv_at hl 0 rfl) ?_
  refine lv_iconst (v := 2) hx hb dJ6_bitCount_0f7a4_16 (by decide) ?_
  refine lv_iushr (v := (iush x1 (2 : Int32))) hx hb dJ6_bitCount_0f7a4_17 rfl ?_
  refine lv_ldcw (v := 858993459) hx hb hC.ow (hC.ts _ (bg38 _ (List.mem_of_getElem? (i := 0) rfl))) dJ6_bitCount_0f7a4_18 ?_
  refine lv_iand hx hb dJ6_bitCount_0f7a4_21 ?_
  refine lv_iadd hx hb dJ6_bitCount_0f7a4_22 ?_
  refine bdi hf (fun x2 hf => ?_)
  refine lv_istore_n (lv' := [(0, .int x2)]) hx hb dJ6_bitCount_0f7a4_23 rfl hl (by decide) rfl (fun ls hl => ?_)
  refine lv_iload_n hx hb dJ6_bitCount_0f7a4_24 rfl (lv_at hl 0 rfl) ?_
  refine lv_iload_n hx hb dJ6_bitCount_0f7a4_25 rfl (lv_at hl 0 rfl) ?_
  refine lv_iconst (v := 4) hx hb dJ6_bitCount_0f7a4_26 (by decide) ?_
  refine lv_iushr (v := (iush x2 (4 : Int32))) hx hb dJ6_bitCount_0f7a4_27 rfl ?_
  refine lv_iadd hx hb dJ6_bitCount_0f7a4_28 ?_
  refine lv_ldcw (v := 252645135) hx hb hC.ow (hC.ts _ (bg38 _ (List.mem_of_getElem? (i := 1) rfl))) dJ6_bitCount_0f7a4_29 ?_
  refine lv_iand hx hb dJ6_bitCount_0f7a4_32 ?_
  refine bdi hf (fun x3 hf => ?_)
  refine lv_istore_n (lv' := [(0, .int x3)]) hx hb dJ6_bitCount_0f7a4_33 rfl hl (by decide) rfl (fun ls hl => ?_)
  refine lv_iload_n hx hb dJ6_bitCount_0f7a4_34 rfl (lv_at hl 0 rfl) ?_
  refine lv_iload_n hx hb dJ6_bitCount_0f7a4_35 rfl (lv_at hl 0 rfl) ?_
  refine lv_bipush (v := 8) hx hb dJ6_bitCount_0f7a4_36 (by decide) ?_
  refine lv_iushr (v := (iush x3 (8 : Int32))) hx hb dJ6_bitCount_0f7a4_38 rfl ?_
  refine lv_iadd hx hb dJ6_bitCount_0f7a4_39 ?_
  refine bdi hf (fun x4 hf => ?_)
  refine lv_istore_n (lv' := [(0, .int x4)]) hx hb dJ6_bitCount_0f7a4_40 rfl hl (by decide) rfl (fun ls hl => ?_)
  refine lv_iload_n hx hb dJ6_bitCount_0f7a4_41 rfl (lv_at hl 0 rfl) ?_
  refine lv_iload_n hx hb dJ6_bitCount_0f7a4_42 rfl (lv_at hl 0 rfl) ?_
  refine lv_bipush (v := 16) hx hb dJ6_bitCount_0f7a4_43 (by decide) ?_
  refine lv_iushr (v := (iush x4 (16 : Int32))) hx hb dJ6_bitCount_0f7a4_45 rfl ?_
  refine lv_iadd hx hb dJ6_bitCount_0f7a4_46 ?_
  refine bdi hf (fun x5 hf => ?_)
  refine lv_istore_n (lv' := [(0, .int x5)]) hx hb dJ6_bitCount_0f7a4_47 rfl hl (by decide) rfl (fun ls hl => ?_)
  refine lv_iload_n hx hb dJ6_bitCount_0f7a4_48 rfl (lv_at hl 0 rfl) ?_
  refine lv_bipush (v := 63) hx hb dJ6_bitCount_0f7a4_49 (by decide) ?_
  refine lv_iand hx hb dJ6_bitCount_0f7a4_51 ?_
  exact r_iret hC hR hS hE hf dJ6_bitCount_0f7a4_52
abbrev rX3_holders : Room := { frames := 0, cells := 0, slots := 0, locals := 0 }
def f_X3_holders_L5 (n : Nat) (this : Nat) (a1 : Int64) : Nat → Int32 → Int32 → MS → Option (Int32 × MS)
  | 0, _, _, _ => none
  | k + 1, x3, x4, S5 => jn (f_X3_holders_L5 n this a1 k) fun rec5_2 => (if (6 : Int32) ≤ x4 then some (x3, S5) else gR S5 (mR S5 this 4) 12 fun q6 => ck (inb x4 (mN S5 q6)) (jn (fun (x11 : Int32) (S12 : MS) => bd (x4 + (1 : Int32)) fun x13 => rec5_2 x11 x13 S12) fun j46_10 => (if (mI S5 q6 x4.toNatClampNeg) = (-1 : Int32) then j46_10 x3 S5 else gR S5 (mR S5 this 4) 12 fun q14 => ck (inb x4 (mN S5 q14)) ((if (lg_cmp ((lush a1 (mI S5 q14 x4.toNatClampNeg)) &&& (1 : Int64)) (0 : Int64)) = 0 then j46_10 x3 S5 else bd (x3 ||| ((1 : Int32) <<< (x4 &&& 31))) fun x17 => j46_10 x17 S5)))))
def f_X3_holders (n : Nat) (this : Nat) (a1 : Int64) (S : MS) : Option (Int32 × MS) :=
  f_X3_holders_L5 n this a1 n (0 : Int32) (0 : Int32) S
set_option maxRecDepth 100000 in
set_option maxHeartbeats 4000000 in
theorem c_X3_holders (l : Launch) (G : Gx) (n : Nat) (this : Nat) (a1 : Int64) (S : MS) (ro : Int32) (So : MS) (hf : f_X3_holders n this a1 S = some (ro, So)) (ok_this : Ok S this 3) : Cn G l yX3_holders cX3_holders 5 (some .int) rX3_holders [.ref this, .long a1] S (some (.int ro)) So := by
  refine Cn.of (by decide) (Nat.le_of_ble_eq_true rfl) ?_
  intro p e s m args below meth c hC hname hR ls hl
  have hC : Cx G RX3 cX3_holders 5 (some .int) p s m args meth c := hC
  have hl : lv_has ls 5 [(0, .ref this), (1, .long a1)] := hl
  have hx := hC.x
  have hb := hC.b
  have hS : va_S (gA G) s.heap s.heap [] := va_S.rf
  have hE : Ex S S := Ex.rf S
  unfold f_X3_holders at hf
  refine lv_iconst (v := 0) hx hb dX3_holders_0 (by decide) ?_
  refine lv_istore_n (lv' := [(3, .int (0 : Int32)), (0, .ref this), (1, .long a1)]) hx hb dX3_holders_1 rfl hl (by decide) rfl (fun ls hl => ?_)
  refine lv_iconst (v := 0) hx hb dX3_holders_2 (by decide) ?_
  refine lv_istore (lv' := [(4, .int (0 : Int32)), (3, .int (0 : Int32)), (0, .ref this), (1, .long a1)]) hx hb dX3_holders_3 hl (by decide) rfl (fun ls hl => ?_)
  have hh20 : ∀ k : Nat, ∀ (x3 : Int32) (x4 : Int32) (S5 : MS) (H : Heap) (locs : List Loc) (ls : Array Slot), f_X3_holders_L5 n this a1 k x3 x4 S5 = some (ro, So) → Rp G S5 H → va_S (gA G) s.heap H locs → Ex S S5 → Ok S5 this 3 → lv_has ls 5 [(0, .ref this), (1, .long a1), (3, .int x3), (4, .int x4)] → W p l e rX3_holders s m args below meth c H locs 0 0 (MQ below (Qn G S (some (.int ro)) So) args s 0 0 (gA G)) (F0 m 5 ls []) := by
    intro k
    induction k with
    | zero =>
      intro x3 x4 S5 H locs ls hf hR hS hE ok_this hl
      exact absurd hf (by rw [f_X3_holders_L5]; exact fun h => by cases h)
    | succ k ih =>
      intro x3 x4 S5 H locs ls hf hR hS hE ok_this hl
      rw [f_X3_holders_L5] at hf
      obtain ⟨rec5_2, erec5_2, hf⟩ := jn_of3 hf
      have hL5_1 : ∀ (x3 : Int32) (x4 : Int32) (S5 : MS) (H : Heap) (locs : List Loc) (ls : Array Slot), rec5_2 x3 x4 S5 = some (ro, So) → Rp G S5 H → va_S (gA G) s.heap H locs → Ex S S5 → Ok S5 this 3 → lv_has ls 5 [(0, .ref this), (1, .long a1), (3, .int x3), (4, .int x4)] → W p l e rX3_holders s m args below meth c H locs 0 0 (MQ below (Qn G S (some (.int ro)) So) args s 0 0 (gA G)) (F0 m 5 ls []) := by
        intro x3 x4 S5 H locs ls hf hR hS hE ok_this hl
        rw [erec5_2] at hf
        exact ih x3 x4 S5 _ _ _ hf hR hS hE ok_this hl
      refine lv_iload hx hb dX3_holders_5 (lv_at hl 3 rfl) ?_
      refine lv_bipush (v := 6) hx hb dX3_holders_7 (by decide) ?_
      refine lv_icmp_ge (tgt := 52) hx hb dX3_holders_9 (by decide) (fun hc => ?_) (fun hc => ?_)
      · replace hf := if_t hf hc
        refine lv_iload_n hx hb dX3_holders_52 rfl (lv_at hl 2 rfl) ?_
        exact r_iret hC hR hS hE hf dX3_holders_53
      · replace hf := if_f hf hc
        refine lv_aload_n hx hb dX3_holders_12 rfl (lv_at hl 0 rfl) ?_
        obtain ⟨q6, hq7, ok_q6, hf⟩ := gR_of hf
        refine gf_RX3_21 hC hR ok_this hq7 dX3_holders_13 ?_
        refine lv_iload hx hb dX3_holders_16 (lv_at hl 3 rfl) ?_
        obtain ⟨hi8, hf⟩ := ck_of hf
        refine r_iald hC hR ok_q6 hi8 dX3_holders_18 ?_
        refine lv_iconst (v := -1) hx hb dX3_holders_19 (by decide) ?_
        obtain ⟨j46_10, ej46_10, hf⟩ := jn_of2 hf
        have hj46_9 : ∀ (x11 : Int32) (S12 : MS) (H : Heap) (locs : List Loc) (ls : Array Slot), j46_10 x11 S12 = some (ro, So) → Rp G S12 H → va_S (gA G) s.heap H locs → Ex S S12 → Ok S12 this 3 → lv_has ls 5 [(0, .ref this), (1, .long a1), (3, .int x11), (4, .int x4)] → W p l e rX3_holders s m args below meth c H locs 0 0 (MQ below (Qn G S (some (.int ro)) So) args s 0 0 (gA G)) (F0 m 46 ls []) := by
          intro x11 S12 H locs ls hf hR hS hE ok_this hl
          rw [ej46_10] at hf
          refine r_iinc (n := 1) (z := 1) (lv' := fun x13 => [(4, .int x13), (0, .ref this), (1, .long a1), (3, .int x11)]) hx hb dX3_holders_46 hl (k := 3) rfl (by decide) (by decide) (fun _ => rfl) hf (fun x13 ls hf hl => ?_)
          refine lv_goto (tgt := 5) hx hb dX3_holders_49 (by decide) ?_
          exact hL5_1 x11 x13 S12 _ _ _ hf hR hS hE ok_this (lv_sub hl [1, 2, 3, 0] rfl)
        refine lv_icmp_eq (tgt := 46) hx hb dX3_holders_20 (by decide) (fun hc => ?_) (fun hc => ?_)
        · replace hf := if_t hf hc
          exact hj46_9 x3 S5 _ _ _ hf hR hS hE ok_this (lv_sub hl [0, 1, 2, 3] rfl)
        · replace hf := if_f hf hc
          refine lv_lload_n hx hb dX3_holders_23 rfl (lv_at hl 1 rfl) ?_
          refine lv_aload_n hx hb dX3_holders_24 rfl (lv_at hl 0 rfl) ?_
          obtain ⟨q14, hq15, ok_q14, hf⟩ := gR_of hf
          refine gf_RX3_21 hC hR ok_this hq15 dX3_holders_25 ?_
          refine lv_iload hx hb dX3_holders_28 (lv_at hl 3 rfl) ?_
          obtain ⟨hi16, hf⟩ := ck_of hf
          refine r_iald hC hR ok_q14 hi16 dX3_holders_30 ?_
          refine lv_lushr (v := (lush a1 (mI S5 q14 x4.toNatClampNeg))) hx hb dX3_holders_31 rfl ?_
          refine lv_lconst (v := 1) hx hb dX3_holders_32 (by decide) ?_
          refine lv_land hx hb dX3_holders_33 ?_
          refine lv_lconst (v := 0) hx hb dX3_holders_34 (by decide) ?_
          refine W.lcmp hx hb dX3_holders_35 ?_
          refine lv_if_eq (tgt := 46) hx hb dX3_holders_36 (by decide) (fun hc => ?_) (fun hc => ?_)
          · replace hf := if_t hf hc
            exact hj46_9 x3 S5 _ _ _ hf hR hS hE ok_this (lv_sub hl [0, 1, 2, 3] rfl)
          · replace hf := if_f hf hc
            refine lv_iload_n hx hb dX3_holders_39 rfl (lv_at hl 2 rfl) ?_
            refine lv_iconst (v := 1) hx hb dX3_holders_40 (by decide) ?_
            refine lv_iload hx hb dX3_holders_41 (lv_at hl 3 rfl) ?_
            refine lv_ishl hx hb dX3_holders_43 ?_
            refine lv_ior hx hb dX3_holders_44 ?_
            refine bdi hf (fun x17 hf => ?_)
            refine lv_istore_n (lv' := [(3, .int x17), (0, .ref this), (1, .long a1), (4, .int x4)]) hx hb dX3_holders_45 rfl hl (by decide) rfl (fun ls hl => ?_)
            exact hj46_9 x17 S5 _ _ _ hf hR hS hE ok_this (lv_sub hl [1, 2, 0, 3] rfl)
  exact hh20 n (0 : Int32) (0 : Int32) S _ _ _ hf hR hS hE ok_this (lv_sub hl [2, 3, 1, 0] rfl)
abbrev rX3_share : Room := { frames := 1, cells := 0, slots := 0, locals := 24 }
def f_X3_share (n : Nat) (this : Nat) (a1 : Int64) (S : MS) : Option (Int32 × MS) :=
  cl (f_X3_holders n this a1 S) fun x4 S1 => cl (f_J6_bitCount_0f7a4 n x4 S1) fun x8 S5 => (if x8 = 0 then some ((0 : Int32), S5) else cl (f_J13_bitCount_95d88 n a1 S5) fun x12 S9 => dv x8 (some ((x12 / x8), S9)))
set_option maxRecDepth 100000 in
set_option maxHeartbeats 4000000 in
theorem c_X3_share (l : Launch) (G : Gx) (n : Nat) (this : Nat) (a1 : Int64) (S : MS) (ro : Int32) (So : MS) (hf : f_X3_share n this a1 S = some (ro, So)) (ok_this : Ok S this 3) : Cn G l yX3_share cX3_share 4 (some .int) rX3_share [.ref this, .long a1] S (some (.int ro)) So := by
  refine Cn.of (by decide) (Nat.le_of_ble_eq_true rfl) ?_
  intro p e s m args below meth c hC hname hR ls hl
  have hC : Cx G RX3 cX3_share 4 (some .int) p s m args meth c := hC
  have hl : lv_has ls 4 [(0, .ref this), (1, .long a1)] := hl
  have hx := hC.x
  have hb := hC.b
  have hS : va_S (gA G) s.heap s.heap [] := va_S.rf
  have hE : Ex S S := Ex.rf S
  unfold f_X3_share at hf
  refine lv_aload_n hx hb dX3_share_0 rfl (lv_at hl 0 rfl) ?_
  refine lv_lload_n hx hb dX3_share_1 rfl (lv_at hl 1 rfl) ?_
  obtain ⟨x4, S1, hc2, hf⟩ := cl_of hf
  refine cl_RX3_127 (As := [.long a1]) (rest := []) hC hR hS (c_X3_holders l G n this a1 S x4 S1 hc2 ok_this) ok_this rfl ⟨Nat.le_of_ble_eq_true rfl, Nat.le_of_ble_eq_true rfl⟩ hl.1 rfl (Nat.le_of_ble_eq_true rfl) dX3_share_2 (Nat.zero_le _) (Nat.zero_le _) (fun H locs hR hS hE3 => ?_)
  have ok_this := hE3 _ _ ok_this
  have hE := hE.tr hE3
  obtain ⟨x8, S5, hc6, hf⟩ := cl_of hf
  refine cl_RX3_131 (As := [.int x4]) (rest := []) hC hR hS (c_J6_bitCount_0f7a4 l G n x4 S1 x8 S5 hc6 ) rfl ⟨Nat.le_of_ble_eq_true rfl, Nat.le_of_ble_eq_true rfl⟩ hl.1 rfl (Nat.le_of_ble_eq_true rfl) dX3_share_5 (Nat.zero_le _) (Nat.zero_le _) (fun H locs hR hS hE7 => ?_)
  have ok_this := hE7 _ _ ok_this
  have hE := hE.tr hE7
  refine lv_istore_n (lv' := [(3, .int x8), (0, .ref this), (1, .long a1)]) hx hb dX3_share_8 rfl hl (by decide) rfl (fun ls hl => ?_)
  refine lv_iload_n hx hb dX3_share_9 rfl (lv_at hl 0 rfl) ?_
  refine lv_if_ne (tgt := 17) hx hb dX3_share_10 (by decide) (fun hc => ?_) (fun hc => ?_)
  · replace hf := if_f hf hc
    refine lv_lload_n hx hb dX3_share_17 rfl (lv_at hl 2 rfl) ?_
    obtain ⟨x12, S9, hc10, hf⟩ := cl_of hf
    refine cl_RX3_137 (As := [.long a1]) (rest := []) hC hR hS (c_J13_bitCount_95d88 l G n a1 S5 x12 S9 hc10 ) rfl ⟨Nat.le_of_ble_eq_true rfl, Nat.le_of_ble_eq_true rfl⟩ hl.1 rfl (Nat.le_of_ble_eq_true rfl) dX3_share_18 (Nat.zero_le _) (Nat.zero_le _) (fun H locs hR hS hE11 => ?_)
    have ok_this := hE11 _ _ ok_this
    have hE := hE.tr hE11
    refine lv_iload_n hx hb dX3_share_21 rfl (lv_at hl 0 rfl) ?_
    obtain ⟨hn13, hf⟩ := dv_of hf
    refine lv_idiv hx hb dX3_share_22 hn13 ?_
    exact r_iret hC hR hS hE hf dX3_share_23
  · replace hf := if_t hf hc
    refine lv_iconst (v := 0) hx hb dX3_share_13 (by decide) ?_
    refine lv_goto (tgt := 23) hx hb dX3_share_14 (by decide) ?_
    exact r_iret hC hR hS hE hf dX3_share_23
abbrev rX3_isOpen : Room := { frames := 1, cells := 0, slots := 0, locals := 21 }
def f_X3_isOpen (n : Nat) (this : Nat) (a1 : Int32) (S : MS) : Option (Int32 × MS) :=
  gR S (mR S this 0) 1 fun q1 => cl (f_X1_holds n q1 a1 S) fun x6 S3 => (if x6 = 0 then zb (0 : Int32) (some ((0 : Int32), S3)) else (if (lg_cmp ((lush ((mJ S3 this 10) ||| (mJ S3 this 11)) a1) &&& (1 : Int64)) (0 : Int64)) = 0 then zb (1 : Int32) (some ((1 : Int32), S3)) else zb (0 : Int32) (some ((0 : Int32), S3))))
set_option maxRecDepth 100000 in
set_option maxHeartbeats 4000000 in
theorem c_X3_isOpen (l : Launch) (G : Gx) (n : Nat) (this : Nat) (a1 : Int32) (S : MS) (ro : Int32) (So : MS) (hf : f_X3_isOpen n this a1 S = some (ro, So)) (ok_this : Ok S this 3) : Cn G l yX3_isOpen cX3_isOpen 2 (some .boolean) rX3_isOpen [.ref this, .int a1] S (some (.int ro)) So := by
  refine Cn.of (by decide) (Nat.le_of_ble_eq_true rfl) ?_
  intro p e s m args below meth c hC hname hR ls hl
  have hC : Cx G RX3 cX3_isOpen 2 (some .boolean) p s m args meth c := hC
  have hl : lv_has ls 2 [(0, .ref this), (1, .int a1)] := hl
  have hx := hC.x
  have hb := hC.b
  have hS : va_S (gA G) s.heap s.heap [] := va_S.rf
  have hE : Ex S S := Ex.rf S
  unfold f_X3_isOpen at hf
  refine lv_aload_n hx hb dX3_isOpen_0 rfl (lv_at hl 0 rfl) ?_
  obtain ⟨q1, hq2, ok_q1, hf⟩ := gR_of hf
  refine gf_RX3_27 hC hR ok_this hq2 dX3_isOpen_1 ?_
  refine lv_iload_n hx hb dX3_isOpen_4 rfl (lv_at hl 1 rfl) ?_
  obtain ⟨x6, S3, hc4, hf⟩ := cl_of hf
  refine cl_RX3_73 (As := [.int a1]) (rest := []) hC hR hS (c_X1_holds l G n q1 a1 S x6 S3 hc4 ok_q1) ok_q1 rfl ⟨Nat.le_of_ble_eq_true rfl, Nat.le_of_ble_eq_true rfl⟩ hl.1 rfl (Nat.le_of_ble_eq_true rfl) dX3_isOpen_5 (Nat.zero_le _) (Nat.zero_le _) (fun H locs hR hS hE5 => ?_)
  have ok_this := hE5 _ _ ok_this
  have ok_q1 := hE5 _ _ ok_q1
  have hE := hE.tr hE5
  refine lv_if_eq (tgt := 33) hx hb dX3_isOpen_8 (by decide) (fun hc => ?_) (fun hc => ?_)
  · replace hf := if_t hf hc
    refine lv_iconst (v := 0) hx hb dX3_isOpen_33 (by decide) ?_
    exact r_zret hC hR hS hE hf dX3_isOpen_34
  · replace hf := if_f hf hc
    refine lv_aload_n hx hb dX3_isOpen_11 rfl (lv_at hl 0 rfl) ?_
    refine gf_RX3_67 hC hR ok_this dX3_isOpen_12 ?_
    refine lv_aload_n hx hb dX3_isOpen_15 rfl (lv_at hl 0 rfl) ?_
    refine gf_RX3_70 hC hR ok_this dX3_isOpen_16 ?_
    refine lv_lor hx hb dX3_isOpen_19 ?_
    refine lv_iload_n hx hb dX3_isOpen_20 rfl (lv_at hl 1 rfl) ?_
    refine lv_lushr (v := (lush ((mJ S3 this 10) ||| (mJ S3 this 11)) a1)) hx hb dX3_isOpen_21 rfl ?_
    refine lv_lconst (v := 1) hx hb dX3_isOpen_22 (by decide) ?_
    refine lv_land hx hb dX3_isOpen_23 ?_
    refine lv_lconst (v := 0) hx hb dX3_isOpen_24 (by decide) ?_
    refine W.lcmp hx hb dX3_isOpen_25 ?_
    refine lv_if_ne (tgt := 33) hx hb dX3_isOpen_26 (by decide) (fun hc => ?_) (fun hc => ?_)
    · replace hf := if_f hf hc
      refine lv_iconst (v := 0) hx hb dX3_isOpen_33 (by decide) ?_
      exact r_zret hC hR hS hE hf dX3_isOpen_34
    · replace hf := if_t hf hc
      refine lv_iconst (v := 1) hx hb dX3_isOpen_29 (by decide) ?_
      refine lv_goto (tgt := 34) hx hb dX3_isOpen_30 (by decide) ?_
      exact r_zret hC hR hS hE hf dX3_isOpen_34
abbrev rX3_shift : Room := { frames := 0, cells := 0, slots := 0, locals := 0 }
def f_X3_shift (_n : Nat) (this : Nat) (a1 : Int32) (a2 : Int32) (S : MS) : Option (MS) :=
  gR S (mR S this 1) 12 fun q1 => ck (inb a1 (mN S q1)) (bd (sJ S this 10 (((mJ S this 10) &&& ((lsh (1 : Int64) (mI S q1 a1.toNatClampNeg)) ^^^ (-1 : Int64))) ||| (lsh (1 : Int64) a2))) fun S4 => gR S4 (mR S4 this 1) 12 fun q6 => ck (inb a1 (mN S4 q6)) (bd (sI S4 q6 a1.toNatClampNeg a2) fun S9 => gR S9 (mR S9 this 3) 12 fun q11 => ck (inb a1 (mN S9 q11)) (bd (sI S9 q11 a1.toNatClampNeg (0 : Int32)) fun S14 => gR S14 (mR S14 this 6) 12 fun q16 => ck (inb a2 (mN S14 q16)) (bd (sI S14 q16 a2.toNatClampNeg (-1 : Int32)) fun S19 => some S19))))
set_option maxRecDepth 100000 in
set_option maxHeartbeats 4000000 in
theorem c_X3_shift (l : Launch) (G : Gx) (n : Nat) (this : Nat) (a1 : Int32) (a2 : Int32) (S : MS) (So : MS) (hf : f_X3_shift n this a1 a2 S = some So) (ok_this : Ok S this 3) : Cn G l yX3_shift cX3_shift 3 none rX3_shift [.ref this, .int a1, .int a2] S none So := by
  refine Cn.of (by decide) (Nat.le_of_ble_eq_true rfl) ?_
  intro p e s m args below meth c hC hname hR ls hl
  have hC : Cx G RX3 cX3_shift 3 none p s m args meth c := hC
  have hl : lv_has ls 3 [(0, .ref this), (1, .int a1), (2, .int a2)] := hl
  have hx := hC.x
  have hb := hC.b
  have hS : va_S (gA G) s.heap s.heap [] := va_S.rf
  have hE : Ex S S := Ex.rf S
  unfold f_X3_shift at hf
  refine lv_aload_n hx hb dX3_shift_0 rfl (lv_at hl 0 rfl) ?_
  refine lv_aload_n hx hb dX3_shift_1 rfl (lv_at hl 0 rfl) ?_
  refine gf_RX3_67 hC hR ok_this dX3_shift_2 ?_
  refine lv_lconst (v := 1) hx hb dX3_shift_5 (by decide) ?_
  refine lv_aload_n hx hb dX3_shift_6 rfl (lv_at hl 0 rfl) ?_
  obtain ⟨q1, hq2, ok_q1, hf⟩ := gR_of hf
  refine gf_RX3_9 hC hR ok_this hq2 dX3_shift_7 ?_
  refine lv_iload_n hx hb dX3_shift_10 rfl (lv_at hl 1 rfl) ?_
  obtain ⟨hi3, hf⟩ := ck_of hf
  refine r_iald hC hR ok_q1 hi3 dX3_shift_11 ?_
  refine lv_lshl (v := (lsh (1 : Int64) (mI S q1 a1.toNatClampNeg))) hx hb dX3_shift_12 rfl ?_
  refine lv_ldc2 (v := -1) hx hb hC.ow (hC.ts _ (bg35 _ (List.mem_of_getElem? (i := 11) rfl))) dX3_shift_13 ?_
  refine lv_lxor hx hb dX3_shift_16 ?_
  refine lv_land hx hb dX3_shift_17 ?_
  refine lv_lconst (v := 1) hx hb dX3_shift_18 (by decide) ?_
  refine lv_iload_n hx hb dX3_shift_19 rfl (lv_at hl 2 rfl) ?_
  refine lv_lshl (v := (lsh (1 : Int64) a2)) hx hb dX3_shift_20 rfl ?_
  refine lv_lor hx hb dX3_shift_21 ?_
  refine pf_RX3_67 hC hR hS ok_this dX3_shift_22 hf (fun S4 H locs hf hR hS hE5 => ?_)
  have ok_this := hE5 _ _ ok_this
  have ok_q1 := hE5 _ _ ok_q1
  have hE := hE.tr hE5
  refine lv_aload_n hx hb dX3_shift_25 rfl (lv_at hl 0 rfl) ?_
  obtain ⟨q6, hq7, ok_q6, hf⟩ := gR_of hf
  refine gf_RX3_9 hC hR ok_this hq7 dX3_shift_26 ?_
  refine lv_iload_n hx hb dX3_shift_29 rfl (lv_at hl 1 rfl) ?_
  refine lv_iload_n hx hb dX3_shift_30 rfl (lv_at hl 2 rfl) ?_
  obtain ⟨hi8, hf⟩ := ck_of hf
  refine rB_iast hC hR hS ok_q6 hi8 dX3_shift_31 hf (fun S9 H locs hf hR hS hE10 => ?_)
  have ok_this := hE10 _ _ ok_this
  have ok_q1 := hE10 _ _ ok_q1
  have ok_q6 := hE10 _ _ ok_q6
  have hE := hE.tr hE10
  refine lv_aload_n hx hb dX3_shift_32 rfl (lv_at hl 0 rfl) ?_
  obtain ⟨q11, hq12, ok_q11, hf⟩ := gR_of hf
  refine gf_RX3_18 hC hR ok_this hq12 dX3_shift_33 ?_
  refine lv_iload_n hx hb dX3_shift_36 rfl (lv_at hl 1 rfl) ?_
  refine lv_iconst (v := 0) hx hb dX3_shift_37 (by decide) ?_
  obtain ⟨hi13, hf⟩ := ck_of hf
  refine rB_iast hC hR hS ok_q11 hi13 dX3_shift_38 hf (fun S14 H locs hf hR hS hE15 => ?_)
  have ok_this := hE15 _ _ ok_this
  have ok_q1 := hE15 _ _ ok_q1
  have ok_q6 := hE15 _ _ ok_q6
  have ok_q11 := hE15 _ _ ok_q11
  have hE := hE.tr hE15
  refine lv_aload_n hx hb dX3_shift_39 rfl (lv_at hl 0 rfl) ?_
  obtain ⟨q16, hq17, ok_q16, hf⟩ := gR_of hf
  refine gf_RX3_36 hC hR ok_this hq17 dX3_shift_40 ?_
  refine lv_iload_n hx hb dX3_shift_43 rfl (lv_at hl 2 rfl) ?_
  refine lv_iconst (v := -1) hx hb dX3_shift_44 (by decide) ?_
  obtain ⟨hi18, hf⟩ := ck_of hf
  refine rB_iast hC hR hS ok_q16 hi18 dX3_shift_45 hf (fun S19 H locs hf hR hS hE20 => ?_)
  have ok_this := hE20 _ _ ok_this
  have ok_q1 := hE20 _ _ ok_q1
  have ok_q6 := hE20 _ _ ok_q6
  have ok_q11 := hE20 _ _ ok_q11
  have ok_q16 := hE20 _ _ ok_q16
  have hE := hE.tr hE20
  exact r_vret hC hR hS hE hf dX3_shift_46
abbrev rX5_nameBone : Room := { frames := 1, cells := 0, slots := 0, locals := 21 }
def f_X5_nameBone (n : Nat) (this : Nat) (a1 : Nat) (a2 : Int32) (S : MS) : Option (MS) :=
  gR S (mR S a1 1) 12 fun q1 => ck (inb a2 (mN S q1)) (bd (mI S q1 a2.toNatClampNeg) fun x4 => gR S (mR S this 0) 12 fun q5 => gR S (mR S a1 2) 12 fun q7 => ck (inb a2 (mN S q7)) (ck (inb (0 : Int32) (mN S q5)) (bd (sI S q5 (0 : Int32).toNatClampNeg (mI S q7 a2.toNatClampNeg)) fun S11 => gR S11 (mR S11 this 0) 12 fun q13 => gR S11 (mR S11 a1 3) 12 fun q15 => ck (inb a2 (mN S11 q15)) (ck (inb (1 : Int32) (mN S11 q13)) (bd (sI S11 q13 (1 : Int32).toNatClampNeg (mI S11 q15 a2.toNatClampNeg)) fun S19 => gR S19 (mR S19 this 0) 12 fun q21 => gR S19 (mR S19 a1 0) 1 fun q23 => gR S19 (mR S19 q23 5) 13 fun q25 => ck (inb x4 (mN S19 q25)) (cl (f_J13_bitCount_95d88 n ((mJ S19 q25 x4.toNatClampNeg) &&& (mJ S19 a1 10)) S19) fun x31 S28 => ck (inb (2 : Int32) (mN S28 q21)) (bd (sI S28 q21 (2 : Int32).toNatClampNeg x31) fun S33 => gR S33 (mR S33 this 0) 12 fun q35 => gR S33 (mR S33 a1 0) 1 fun q37 => dv (mI S33 q37 0) (ck (inb (3 : Int32) (mN S33 q35)) (bd (sI S33 q35 (3 : Int32).toNatClampNeg (x4 - x4 / (mI S33 q37 0) * (mI S33 q37 0))) fun S41 => gR S41 (mR S41 this 0) 12 fun q43 => gR S41 (mR S41 a1 0) 1 fun q45 => dv (mI S41 q45 0) (ck (inb (4 : Int32) (mN S41 q43)) (bd (sI S41 q43 (4 : Int32).toNatClampNeg (x4 / (mI S41 q45 0))) fun S49 => gR S49 (mR S49 this 0) 12 fun q51 => dv (24 : Int32) (ck (inb (5 : Int32) (mN S49 q51)) (bd (sI S49 q51 (5 : Int32).toNatClampNeg ((mI S49 a1 8) - (mI S49 a1 8) / (24 : Int32) * (24 : Int32))) fun S55 => some S55)))))))))))))
set_option maxRecDepth 100000 in
set_option maxHeartbeats 4000000 in
theorem c_X5_nameBone (l : Launch) (G : Gx) (n : Nat) (this : Nat) (a1 : Nat) (a2 : Int32) (S : MS) (So : MS) (hf : f_X5_nameBone n this a1 a2 S = some So) (ok_this : Ok S this 5) (ok_a1 : Ok S a1 3) : Cn G l yX5_nameBone cX5_nameBone 4 none rX5_nameBone [.ref this, .ref a1, .int a2] S none So := by
  refine Cn.of (by decide) (Nat.le_of_ble_eq_true rfl) ?_
  intro p e s m args below meth c hC hname hR ls hl
  have hC : Cx G RX5 cX5_nameBone 4 none p s m args meth c := hC
  have hl : lv_has ls 4 [(0, .ref this), (1, .ref a1), (2, .int a2)] := hl
  have hx := hC.x
  have hb := hC.b
  have hS : va_S (gA G) s.heap s.heap [] := va_S.rf
  have hE : Ex S S := Ex.rf S
  unfold f_X5_nameBone at hf
  refine lv_aload_n hx hb dX5_nameBone_0 rfl (lv_at hl 1 rfl) ?_
  obtain ⟨q1, hq2, ok_q1, hf⟩ := gR_of hf
  refine gf_RX5_83 hC hR ok_a1 hq2 dX5_nameBone_1 ?_
  refine lv_iload_n hx hb dX5_nameBone_4 rfl (lv_at hl 2 rfl) ?_
  obtain ⟨hi3, hf⟩ := ck_of hf
  refine r_iald hC hR ok_q1 hi3 dX5_nameBone_5 ?_
  refine bdi hf (fun x4 hf => ?_)
  refine lv_istore_n (lv' := [(3, .int x4), (0, .ref this), (1, .ref a1), (2, .int a2)]) hx hb dX5_nameBone_6 rfl hl (by decide) rfl (fun ls hl => ?_)
  refine lv_aload_n hx hb dX5_nameBone_7 rfl (lv_at hl 1 rfl) ?_
  obtain ⟨q5, hq6, ok_q5, hf⟩ := gR_of hf
  refine gf_RX5_9 hC hR ok_this hq6 dX5_nameBone_8 ?_
  refine lv_iconst (v := 0) hx hb dX5_nameBone_11 (by decide) ?_
  refine lv_aload_n hx hb dX5_nameBone_12 rfl (lv_at hl 2 rfl) ?_
  obtain ⟨q7, hq8, ok_q7, hf⟩ := gR_of hf
  refine gf_RX5_24 hC hR ok_a1 hq8 dX5_nameBone_13 ?_
  refine lv_iload_n hx hb dX5_nameBone_16 rfl (lv_at hl 3 rfl) ?_
  obtain ⟨hi9, hf⟩ := ck_of hf
  refine r_iald hC hR ok_q7 hi9 dX5_nameBone_17 ?_
  obtain ⟨hi10, hf⟩ := ck_of hf
  refine rB_iast hC hR hS ok_q5 hi10 dX5_nameBone_18 hf (fun S11 H locs hf hR hS hE12 => ?_)
  have ok_this := hE12 _ _ ok_this
  have ok_a1 := hE12 _ _ ok_a1
  have ok_q1 := hE12 _ _ ok_q1
  have ok_q5 := hE12 _ _ ok_q5
  have ok_q7 := hE12 _ _ ok_q7
  have hE := hE.tr hE12
  refine lv_aload_n hx hb dX5_nameBone_19 rfl (lv_at hl 1 rfl) ?_
  obtain ⟨q13, hq14, ok_q13, hf⟩ := gR_of hf
  refine gf_RX5_9 hC hR ok_this hq14 dX5_nameBone_20 ?_
  refine lv_iconst (v := 1) hx hb dX5_nameBone_23 (by decide) ?_
  refine lv_aload_n hx hb dX5_nameBone_24 rfl (lv_at hl 2 rfl) ?_
  obtain ⟨q15, hq16, ok_q15, hf⟩ := gR_of hf
  refine gf_RX5_86 hC hR ok_a1 hq16 dX5_nameBone_25 ?_
  refine lv_iload_n hx hb dX5_nameBone_28 rfl (lv_at hl 3 rfl) ?_
  obtain ⟨hi17, hf⟩ := ck_of hf
  refine r_iald hC hR ok_q15 hi17 dX5_nameBone_29 ?_
  obtain ⟨hi18, hf⟩ := ck_of hf
  refine rB_iast hC hR hS ok_q13 hi18 dX5_nameBone_30 hf (fun S19 H locs hf hR hS hE20 => ?_)
  have ok_this := hE20 _ _ ok_this
  have ok_a1 := hE20 _ _ ok_a1
  have ok_q1 := hE20 _ _ ok_q1
  have ok_q5 := hE20 _ _ ok_q5
  have ok_q7 := hE20 _ _ ok_q7
  have ok_q13 := hE20 _ _ ok_q13
  have ok_q15 := hE20 _ _ ok_q15
  have hE := hE.tr hE20
  refine lv_aload_n hx hb dX5_nameBone_31 rfl (lv_at hl 1 rfl) ?_
  obtain ⟨q21, hq22, ok_q21, hf⟩ := gR_of hf
  refine gf_RX5_9 hC hR ok_this hq22 dX5_nameBone_32 ?_
  refine lv_iconst (v := 2) hx hb dX5_nameBone_35 (by decide) ?_
  refine lv_aload_n hx hb dX5_nameBone_36 rfl (lv_at hl 2 rfl) ?_
  obtain ⟨q23, hq24, ok_q23, hf⟩ := gR_of hf
  refine gf_RX5_64 hC hR ok_a1 hq24 dX5_nameBone_37 ?_
  obtain ⟨q25, hq26, ok_q25, hf⟩ := gR_of hf
  refine gf_RX5_89 hC hR ok_q23 hq26 dX5_nameBone_40 ?_
  refine lv_iload_n hx hb dX5_nameBone_43 rfl (lv_at hl 0 rfl) ?_
  obtain ⟨hi27, hf⟩ := ck_of hf
  refine r_lald hC hR ok_q25 hi27 dX5_nameBone_44 ?_
  refine lv_aload_n hx hb dX5_nameBone_45 rfl (lv_at hl 2 rfl) ?_
  refine gf_RX5_93 hC hR ok_a1 dX5_nameBone_46 ?_
  refine lv_land hx hb dX5_nameBone_49 ?_
  obtain ⟨x31, S28, hc29, hf⟩ := cl_of hf
  refine cl_RX5_73 (As := [.long ((mJ S19 q25 x4.toNatClampNeg) &&& (mJ S19 a1 10))]) (rest := [.int (2 : Int32), .ref q21]) hC hR hS (c_J13_bitCount_95d88 l G n ((mJ S19 q25 x4.toNatClampNeg) &&& (mJ S19 a1 10)) S19 x31 S28 hc29 ) rfl ⟨Nat.le_of_ble_eq_true rfl, Nat.le_of_ble_eq_true rfl⟩ hl.1 rfl (Nat.le_of_ble_eq_true rfl) dX5_nameBone_50 (Nat.zero_le _) (Nat.zero_le _) (fun H locs hR hS hE30 => ?_)
  have ok_this := hE30 _ _ ok_this
  have ok_a1 := hE30 _ _ ok_a1
  have ok_q1 := hE30 _ _ ok_q1
  have ok_q5 := hE30 _ _ ok_q5
  have ok_q7 := hE30 _ _ ok_q7
  have ok_q13 := hE30 _ _ ok_q13
  have ok_q15 := hE30 _ _ ok_q15
  have ok_q21 := hE30 _ _ ok_q21
  have ok_q23 := hE30 _ _ ok_q23
  have ok_q25 := hE30 _ _ ok_q25
  have hE := hE.tr hE30
  obtain ⟨hi32, hf⟩ := ck_of hf
  refine rB_iast hC hR hS ok_q21 hi32 dX5_nameBone_53 hf (fun S33 H locs hf hR hS hE34 => ?_)
  have ok_this := hE34 _ _ ok_this
  have ok_a1 := hE34 _ _ ok_a1
  have ok_q1 := hE34 _ _ ok_q1
  have ok_q5 := hE34 _ _ ok_q5
  have ok_q7 := hE34 _ _ ok_q7
  have ok_q13 := hE34 _ _ ok_q13
  have ok_q15 := hE34 _ _ ok_q15
  have ok_q21 := hE34 _ _ ok_q21
  have ok_q23 := hE34 _ _ ok_q23
  have ok_q25 := hE34 _ _ ok_q25
  have hE := hE.tr hE34
  refine lv_aload_n hx hb dX5_nameBone_54 rfl (lv_at hl 1 rfl) ?_
  obtain ⟨q35, hq36, ok_q35, hf⟩ := gR_of hf
  refine gf_RX5_9 hC hR ok_this hq36 dX5_nameBone_55 ?_
  refine lv_iconst (v := 3) hx hb dX5_nameBone_58 (by decide) ?_
  refine lv_iload_n hx hb dX5_nameBone_59 rfl (lv_at hl 0 rfl) ?_
  refine lv_aload_n hx hb dX5_nameBone_60 rfl (lv_at hl 2 rfl) ?_
  obtain ⟨q37, hq38, ok_q37, hf⟩ := gR_of hf
  refine gf_RX5_64 hC hR ok_a1 hq38 dX5_nameBone_61 ?_
  refine gf_RX5_68 hC hR ok_q37 dX5_nameBone_64 ?_
  obtain ⟨hn39, hf⟩ := dv_of hf
  refine lv_irem hx hb dX5_nameBone_67 hn39 ?_
  obtain ⟨hi40, hf⟩ := ck_of hf
  refine rB_iast hC hR hS ok_q35 hi40 dX5_nameBone_68 hf (fun S41 H locs hf hR hS hE42 => ?_)
  have ok_this := hE42 _ _ ok_this
  have ok_a1 := hE42 _ _ ok_a1
  have ok_q1 := hE42 _ _ ok_q1
  have ok_q5 := hE42 _ _ ok_q5
  have ok_q7 := hE42 _ _ ok_q7
  have ok_q13 := hE42 _ _ ok_q13
  have ok_q15 := hE42 _ _ ok_q15
  have ok_q21 := hE42 _ _ ok_q21
  have ok_q23 := hE42 _ _ ok_q23
  have ok_q25 := hE42 _ _ ok_q25
  have ok_q35 := hE42 _ _ ok_q35
  have ok_q37 := hE42 _ _ ok_q37
  have hE := hE.tr hE42
  refine lv_aload_n hx hb dX5_nameBone_69 rfl (lv_at hl 1 rfl) ?_
  obtain ⟨q43, hq44, ok_q43, hf⟩ := gR_of hf
  refine gf_RX5_9 hC hR ok_this hq44 dX5_nameBone_70 ?_
  refine lv_iconst (v := 4) hx hb dX5_nameBone_73 (by decide) ?_
  refine lv_iload_n hx hb dX5_nameBone_74 rfl (lv_at hl 0 rfl) ?_
  refine lv_aload_n hx hb dX5_nameBone_75 rfl (lv_at hl 2 rfl) ?_
  obtain ⟨q45, hq46, ok_q45, hf⟩ := gR_of hf
  refine gf_RX5_64 hC hR ok_a1 hq46 dX5_nameBone_76 ?_
  refine gf_RX5_68 hC hR ok_q45 dX5_nameBone_79 ?_
  obtain ⟨hn47, hf⟩ := dv_of hf
  refine lv_idiv hx hb dX5_nameBone_82 hn47 ?_
  obtain ⟨hi48, hf⟩ := ck_of hf
  refine rB_iast hC hR hS ok_q43 hi48 dX5_nameBone_83 hf (fun S49 H locs hf hR hS hE50 => ?_)
  have ok_this := hE50 _ _ ok_this
  have ok_a1 := hE50 _ _ ok_a1
  have ok_q1 := hE50 _ _ ok_q1
  have ok_q5 := hE50 _ _ ok_q5
  have ok_q7 := hE50 _ _ ok_q7
  have ok_q13 := hE50 _ _ ok_q13
  have ok_q15 := hE50 _ _ ok_q15
  have ok_q21 := hE50 _ _ ok_q21
  have ok_q23 := hE50 _ _ ok_q23
  have ok_q25 := hE50 _ _ ok_q25
  have ok_q35 := hE50 _ _ ok_q35
  have ok_q37 := hE50 _ _ ok_q37
  have ok_q43 := hE50 _ _ ok_q43
  have ok_q45 := hE50 _ _ ok_q45
  have hE := hE.tr hE50
  refine lv_aload_n hx hb dX5_nameBone_84 rfl (lv_at hl 1 rfl) ?_
  obtain ⟨q51, hq52, ok_q51, hf⟩ := gR_of hf
  refine gf_RX5_9 hC hR ok_this hq52 dX5_nameBone_85 ?_
  refine lv_iconst (v := 5) hx hb dX5_nameBone_88 (by decide) ?_
  refine lv_aload_n hx hb dX5_nameBone_89 rfl (lv_at hl 2 rfl) ?_
  refine gf_RX5_55 hC hR ok_a1 dX5_nameBone_90 ?_
  refine lv_bipush (v := 24) hx hb dX5_nameBone_93 (by decide) ?_
  obtain ⟨hn53, hf⟩ := dv_of hf
  refine lv_irem hx hb dX5_nameBone_95 hn53 ?_
  obtain ⟨hi54, hf⟩ := ck_of hf
  refine rB_iast hC hR hS ok_q51 hi54 dX5_nameBone_96 hf (fun S55 H locs hf hR hS hE56 => ?_)
  have ok_this := hE56 _ _ ok_this
  have ok_a1 := hE56 _ _ ok_a1
  have ok_q1 := hE56 _ _ ok_q1
  have ok_q5 := hE56 _ _ ok_q5
  have ok_q7 := hE56 _ _ ok_q7
  have ok_q13 := hE56 _ _ ok_q13
  have ok_q15 := hE56 _ _ ok_q15
  have ok_q21 := hE56 _ _ ok_q21
  have ok_q23 := hE56 _ _ ok_q23
  have ok_q25 := hE56 _ _ ok_q25
  have ok_q35 := hE56 _ _ ok_q35
  have ok_q37 := hE56 _ _ ok_q37
  have ok_q43 := hE56 _ _ ok_q43
  have ok_q45 := hE56 _ _ ok_q45
  have ok_q51 := hE56 _ _ ok_q51
  have hE := hE.tr hE56
  exact r_vret hC hR hS hE hf dX5_nameBone_97
abbrev rX5_cut : Room := { frames := 1, cells := 0, slots := 0, locals := 30 }
def f_X5_cut (_n : Nat) (a1 : Int64) (S : MS) : Option (Int32 × MS) :=
  some (((jmax (-1000000 : Int64) (jmin (1000000 : Int64) a1)).toInt32), S)
set_option maxRecDepth 100000 in
set_option maxHeartbeats 4000000 in
theorem c_X5_cut (l : Launch) (G : Gx) (n : Nat) (a1 : Int64) (S : MS) (ro : Int32) (So : MS) (hf : f_X5_cut n a1 S = some (ro, So)) : Cn G l yX5_cut cX5_cut 2 (some .int) rX5_cut [.long a1] S (some (.int ro)) So := by
  refine Cn.of (by decide) (Nat.le_of_ble_eq_true rfl) ?_
  intro p e s m args below meth c hC hname hR ls hl
  have hC : Cx G RX5 cX5_cut 2 (some .int) p s m args meth c := hC
  have hl : lv_has ls 2 [(0, .long a1)] := hl
  have hx := hC.x
  have hb := hC.b
  have hS : va_S (gA G) s.heap s.heap [] := va_S.rf
  have hE : Ex S S := Ex.rf S
  unfold f_X5_cut at hf
  refine lv_ldc2 (v := -1000000) hx hb hC.ow (hC.ts _ (bg32 _ (List.mem_of_getElem? (i := 6) rfl))) dX5_cut_0 ?_
  refine lv_ldc2 (v := 1000000) hx hb hC.ow (hC.ts _ (bg32 _ (List.mem_of_getElem? (i := 7) rfl))) dX5_cut_3 ?_
  refine lv_lload_n hx hb dX5_cut_6 rfl (lv_at hl 0 rfl) ?_
  refine r_jmin (v := (jmin (1000000 : Int64) a1)) hC hl.1 (bg32 _ (List.mem_of_getElem? (i := 8) rfl)) rfl (Nat.le_of_ble_eq_true rfl) (Nat.le_of_ble_eq_true rfl) (Nat.zero_le _) (Nat.zero_le _) dX5_cut_7 ?_
  refine r_jmax (v := (jmax (-1000000 : Int64) (jmin (1000000 : Int64) a1))) hC hl.1 (bg32 _ (List.mem_of_getElem? (i := 11) rfl)) rfl (Nat.le_of_ble_eq_true rfl) (Nat.le_of_ble_eq_true rfl) (Nat.zero_le _) (Nat.zero_le _) dX5_cut_10 ?_
  refine lv_l2i (v := ((jmax (-1000000 : Int64) (jmin (1000000 : Int64) a1)).toInt32)) hx hb dX5_cut_13 rfl ?_
  exact r_iret hC hR hS hE hf dX5_cut_14
abbrev rX5_isStep : Room := { frames := 0, cells := 0, slots := 0, locals := 0 }
def f_X5_isStep (_n : Nat) (a1 : Int32) (S : MS) : Option (Int32 × MS) :=
  (if a1 < (28 : Int32) then zb (0 : Int32) (some ((0 : Int32), S)) else (if (31 : Int32) < a1 then zb (0 : Int32) (some ((0 : Int32), S)) else zb (1 : Int32) (some ((1 : Int32), S))))
set_option maxRecDepth 100000 in
set_option maxHeartbeats 4000000 in
theorem c_X5_isStep (l : Launch) (G : Gx) (n : Nat) (a1 : Int32) (S : MS) (ro : Int32) (So : MS) (hf : f_X5_isStep n a1 S = some (ro, So)) : Cn G l yX5_isStep cX5_isStep 1 (some .boolean) rX5_isStep [.int a1] S (some (.int ro)) So := by
  refine Cn.of (by decide) (Nat.le_of_ble_eq_true rfl) ?_
  intro p e s m args below meth c hC hname hR ls hl
  have hC : Cx G RX5 cX5_isStep 1 (some .boolean) p s m args meth c := hC
  have hl : lv_has ls 1 [(0, .int a1)] := hl
  have hx := hC.x
  have hb := hC.b
  have hS : va_S (gA G) s.heap s.heap [] := va_S.rf
  have hE : Ex S S := Ex.rf S
  unfold f_X5_isStep at hf
  refine lv_iload_n hx hb dX5_isStep_0 rfl (lv_at hl 0 rfl) ?_
  refine lv_bipush (v := 28) hx hb dX5_isStep_1 (by decide) ?_
  refine lv_icmp_lt (tgt := 16) hx hb dX5_isStep_3 (by decide) (fun hc => ?_) (fun hc => ?_)
  · replace hf := if_t hf hc
    refine lv_iconst (v := 0) hx hb dX5_isStep_16 (by decide) ?_
    exact r_zret hC hR hS hE hf dX5_isStep_17
  · replace hf := if_f hf hc
    refine lv_iload_n hx hb dX5_isStep_6 rfl (lv_at hl 0 rfl) ?_
    refine lv_bipush (v := 31) hx hb dX5_isStep_7 (by decide) ?_
    refine lv_icmp_gt (tgt := 16) hx hb dX5_isStep_9 (by decide) (fun hc => ?_) (fun hc => ?_)
    · replace hf := if_t hf hc
      refine lv_iconst (v := 0) hx hb dX5_isStep_16 (by decide) ?_
      exact r_zret hC hR hS hE hf dX5_isStep_17
    · replace hf := if_f hf hc
      refine lv_iconst (v := 1) hx hb dX5_isStep_12 (by decide) ?_
      refine lv_goto (tgt := 17) hx hb dX5_isStep_13 (by decide) ?_
      exact r_zret hC hR hS hE hf dX5_isStep_17
abbrev rX5_joined : Room := { frames := 1, cells := 0, slots := 0, locals := 30 }
def f_X5_joined (_n : Nat) (a1 : Int32) (a2 : Int32) (a3 : Int32) (S : MS) : Option (Int32 × MS) :=
  (if a1 = (12 : Int32) then some ((imin a2 a3), S) else (if a1 = (13 : Int32) then some ((imax a2 a3), S) else (if a1 = (14 : Int32) then some ((0 : Int32), S) else (if a1 = (15 : Int32) then some ((a2 &&& a3), S) else (if a1 = (16 : Int32) then some ((a2 ||| a3), S) else (if a1 = (17 : Int32) then some ((0 : Int32), S) else (if a1 = (18 : Int32) then some ((0 : Int32), S) else (if a1 = (19 : Int32) then some ((0 : Int32), S) else (if a1 = (20 : Int32) then some ((0 : Int32), S) else (if a1 = (21 : Int32) then some ((0 : Int32), S) else (if a1 = (22 : Int32) then some ((0 : Int32), S) else (if a1 = (23 : Int32) then some ((0 : Int32), S) else (if a1 = (24 : Int32) then (if a3 ≤ a2 then some ((0 : Int32), S) else some ((1 : Int32), S)) else (if a1 = (25 : Int32) then (if a2 ≤ a3 then some ((0 : Int32), S) else some ((1 : Int32), S)) else (if a1 = (26 : Int32) then (if a2 = a3 then some ((1 : Int32), S) else some ((0 : Int32), S)) else (if a1 = (27 : Int32) then (if a2 = a3 then some ((0 : Int32), S) else some ((1 : Int32), S)) else (if a1 = (28 : Int32) then some ((0 : Int32), S) else (if a1 = (29 : Int32) then some ((0 : Int32), S) else (if a1 = (30 : Int32) then some ((0 : Int32), S) else (if a1 = (31 : Int32) then some ((0 : Int32), S) else (if a1 = (32 : Int32) then some ((0 : Int32), S) else (if a1 = (33 : Int32) then some ((0 : Int32), S) else (if a1 = (34 : Int32) then some ((0 : Int32), S) else (if a1 = (35 : Int32) then some ((0 : Int32), S) else (if a1 = (36 : Int32) then (if a3 < a2 then some ((0 : Int32), S) else some ((1 : Int32), S)) else (if a1 = (37 : Int32) then (if a2 < a3 then some ((0 : Int32), S) else some ((1 : Int32), S)) else some ((0 : Int32), S)))))))))))))))))))))))))))
set_option maxRecDepth 100000 in
set_option maxHeartbeats 4000000 in
theorem c_X5_joined (l : Launch) (G : Gx) (n : Nat) (a1 : Int32) (a2 : Int32) (a3 : Int32) (S : MS) (ro : Int32) (So : MS) (hf : f_X5_joined n a1 a2 a3 S = some (ro, So)) : Cn G l yX5_joined cX5_joined 3 (some .int) rX5_joined [.int a1, .int a2, .int a3] S (some (.int ro)) So := by
  refine Cn.of (by decide) (Nat.le_of_ble_eq_true rfl) ?_
  intro p e s m args below meth c hC hname hR ls hl
  have hC : Cx G RX5 cX5_joined 3 (some .int) p s m args meth c := hC
  have hl : lv_has ls 3 [(0, .int a1), (1, .int a2), (2, .int a3)] := hl
  have hx := hC.x
  have hb := hC.b
  have hS : va_S (gA G) s.heap s.heap [] := va_S.rf
  have hE : Ex S S := Ex.rf S
  unfold f_X5_joined at hf
  refine lv_iload_n hx hb dX5_joined_0 rfl (lv_at hl 0 rfl) ?_
  by_cases hc0 : a1 = (12 : Int32)
  · replace hf := if_t hf hc0
    rw [hc0]
    refine lv_tableIn (tgt := 120) hx hb dX5_joined_1 (by decide) (by decide) rfl (by decide) ?_
    refine lv_iload_n hx hb dX5_joined_120 rfl (lv_at hl 1 rfl) ?_
    refine lv_iload_n hx hb dX5_joined_121 rfl (lv_at hl 2 rfl) ?_
    refine r_imin (v := (imin a2 a3)) hC hl.1 (bg31 _ (List.mem_of_getElem? (i := 18) rfl)) rfl (Nat.le_of_ble_eq_true rfl) (Nat.le_of_ble_eq_true rfl) (Nat.zero_le _) (Nat.zero_le _) dX5_joined_122 ?_
    exact r_iret hC hR hS hE hf dX5_joined_125
  · replace hf := if_f hf hc0
    by_cases hc1 : a1 = (13 : Int32)
    · replace hf := if_t hf hc1
      rw [hc1]
      refine lv_tableIn (tgt := 126) hx hb dX5_joined_1 (by decide) (by decide) rfl (by decide) ?_
      refine lv_iload_n hx hb dX5_joined_126 rfl (lv_at hl 1 rfl) ?_
      refine lv_iload_n hx hb dX5_joined_127 rfl (lv_at hl 2 rfl) ?_
      refine r_imax (v := (imax a2 a3)) hC hl.1 (bg32 _ (List.mem_of_getElem? (i := 17) rfl)) rfl (Nat.le_of_ble_eq_true rfl) (Nat.le_of_ble_eq_true rfl) (Nat.zero_le _) (Nat.zero_le _) dX5_joined_128 ?_
      exact r_iret hC hR hS hE hf dX5_joined_131
    · replace hf := if_f hf hc1
      by_cases hc2 : a1 = (14 : Int32)
      · replace hf := if_t hf hc2
        rw [hc2]
        refine lv_tableIn (tgt := 206) hx hb dX5_joined_1 (by decide) (by decide) rfl (by decide) ?_
        refine lv_iconst (v := 0) hx hb dX5_joined_206 (by decide) ?_
        exact r_iret hC hR hS hE hf dX5_joined_207
      · replace hf := if_f hf hc2
        by_cases hc3 : a1 = (15 : Int32)
        · replace hf := if_t hf hc3
          rw [hc3]
          refine lv_tableIn (tgt := 198) hx hb dX5_joined_1 (by decide) (by decide) rfl (by decide) ?_
          refine lv_iload_n hx hb dX5_joined_198 rfl (lv_at hl 1 rfl) ?_
          refine lv_iload_n hx hb dX5_joined_199 rfl (lv_at hl 2 rfl) ?_
          refine lv_iand hx hb dX5_joined_200 ?_
          exact r_iret hC hR hS hE hf dX5_joined_201
        · replace hf := if_f hf hc3
          by_cases hc4 : a1 = (16 : Int32)
          · replace hf := if_t hf hc4
            rw [hc4]
            refine lv_tableIn (tgt := 202) hx hb dX5_joined_1 (by decide) (by decide) rfl (by decide) ?_
            refine lv_iload_n hx hb dX5_joined_202 rfl (lv_at hl 1 rfl) ?_
            refine lv_iload_n hx hb dX5_joined_203 rfl (lv_at hl 2 rfl) ?_
            refine lv_ior hx hb dX5_joined_204 ?_
            exact r_iret hC hR hS hE hf dX5_joined_205
          · replace hf := if_f hf hc4
            by_cases hc5 : a1 = (17 : Int32)
            · replace hf := if_t hf hc5
              rw [hc5]
              refine lv_tableIn (tgt := 206) hx hb dX5_joined_1 (by decide) (by decide) rfl (by decide) ?_
              refine lv_iconst (v := 0) hx hb dX5_joined_206 (by decide) ?_
              exact r_iret hC hR hS hE hf dX5_joined_207
            · replace hf := if_f hf hc5
              by_cases hc6 : a1 = (18 : Int32)
              · replace hf := if_t hf hc6
                rw [hc6]
                refine lv_tableIn (tgt := 206) hx hb dX5_joined_1 (by decide) (by decide) rfl (by decide) ?_
                refine lv_iconst (v := 0) hx hb dX5_joined_206 (by decide) ?_
                exact r_iret hC hR hS hE hf dX5_joined_207
              · replace hf := if_f hf hc6
                by_cases hc7 : a1 = (19 : Int32)
                · replace hf := if_t hf hc7
                  rw [hc7]
                  refine lv_tableIn (tgt := 206) hx hb dX5_joined_1 (by decide) (by decide) rfl (by decide) ?_
                  refine lv_iconst (v := 0) hx hb dX5_joined_206 (by decide) ?_
                  exact r_iret hC hR hS hE hf dX5_joined_207
                · replace hf := if_f hf hc7
                  by_cases hc8 : a1 = (20 : Int32)
                  · replace hf := if_t hf hc8
                    rw [hc8]
                    refine lv_tableIn (tgt := 206) hx hb dX5_joined_1 (by decide) (by decide) rfl (by decide) ?_
                    refine lv_iconst (v := 0) hx hb dX5_joined_206 (by decide) ?_
                    exact r_iret hC hR hS hE hf dX5_joined_207
                  · replace hf := if_f hf hc8
                    by_cases hc9 : a1 = (21 : Int32)
                    · replace hf := if_t hf hc9
                      rw [hc9]
                      refine lv_tableIn (tgt := 206) hx hb dX5_joined_1 (by decide) (by decide) rfl (by decide) ?_
                      refine lv_iconst (v := 0) hx hb dX5_joined_206 (by decide) ?_
                      exact r_iret hC hR hS hE hf dX5_joined_207
                    · replace hf := if_f hf hc9
                      by_cases hc10 : a1 = (22 : Int32)
                      · replace hf := if_t hf hc10
                        rw [hc10]
                        refine lv_tableIn (tgt := 206) hx hb dX5_joined_1 (by decide) (by decide) rfl (by decide) ?_
                        refine lv_iconst (v := 0) hx hb dX5_joined_206 (by decide) ?_
                        exact r_iret hC hR hS hE hf dX5_joined_207
                      · replace hf := if_f hf hc10
                        by_cases hc11 : a1 = (23 : Int32)
                        · replace hf := if_t hf hc11
                          rw [hc11]
                          refine lv_tableIn (tgt := 206) hx hb dX5_joined_1 (by decide) (by decide) rfl (by decide) ?_
                          refine lv_iconst (v := 0) hx hb dX5_joined_206 (by decide) ?_
                          exact r_iret hC hR hS hE hf dX5_joined_207
                        · replace hf := if_f hf hc11
                          by_cases hc12 : a1 = (24 : Int32)
                          · replace hf := if_t hf hc12
                            rw [hc12]
                            refine lv_tableIn (tgt := 132) hx hb dX5_joined_1 (by decide) (by decide) rfl (by decide) ?_
                            refine lv_iload_n hx hb dX5_joined_132 rfl (lv_at hl 1 rfl) ?_
                            refine lv_iload_n hx hb dX5_joined_133 rfl (lv_at hl 2 rfl) ?_
                            refine lv_icmp_ge (tgt := 141) hx hb dX5_joined_134 (by decide) (fun hc => ?_) (fun hc => ?_)
                            · replace hf := if_t hf hc
                              refine lv_iconst (v := 0) hx hb dX5_joined_141 (by decide) ?_
                              exact r_iret hC hR hS hE hf dX5_joined_142
                            · replace hf := if_f hf hc
                              refine lv_iconst (v := 1) hx hb dX5_joined_137 (by decide) ?_
                              refine lv_goto (tgt := 142) hx hb dX5_joined_138 (by decide) ?_
                              exact r_iret hC hR hS hE hf dX5_joined_142
                          · replace hf := if_f hf hc12
                            by_cases hc13 : a1 = (25 : Int32)
                            · replace hf := if_t hf hc13
                              rw [hc13]
                              refine lv_tableIn (tgt := 154) hx hb dX5_joined_1 (by decide) (by decide) rfl (by decide) ?_
                              refine lv_iload_n hx hb dX5_joined_154 rfl (lv_at hl 1 rfl) ?_
                              refine lv_iload_n hx hb dX5_joined_155 rfl (lv_at hl 2 rfl) ?_
                              refine lv_icmp_le (tgt := 163) hx hb dX5_joined_156 (by decide) (fun hc => ?_) (fun hc => ?_)
                              · replace hf := if_t hf hc
                                refine lv_iconst (v := 0) hx hb dX5_joined_163 (by decide) ?_
                                exact r_iret hC hR hS hE hf dX5_joined_164
                              · replace hf := if_f hf hc
                                refine lv_iconst (v := 1) hx hb dX5_joined_159 (by decide) ?_
                                refine lv_goto (tgt := 164) hx hb dX5_joined_160 (by decide) ?_
                                exact r_iret hC hR hS hE hf dX5_joined_164
                            · replace hf := if_f hf hc13
                              by_cases hc14 : a1 = (26 : Int32)
                              · replace hf := if_t hf hc14
                                rw [hc14]
                                refine lv_tableIn (tgt := 176) hx hb dX5_joined_1 (by decide) (by decide) rfl (by decide) ?_
                                refine lv_iload_n hx hb dX5_joined_176 rfl (lv_at hl 1 rfl) ?_
                                refine lv_iload_n hx hb dX5_joined_177 rfl (lv_at hl 2 rfl) ?_
                                refine lv_icmp_ne (tgt := 185) hx hb dX5_joined_178 (by decide) (fun hc => ?_) (fun hc => ?_)
                                · replace hf := if_f hf hc
                                  refine lv_iconst (v := 0) hx hb dX5_joined_185 (by decide) ?_
                                  exact r_iret hC hR hS hE hf dX5_joined_186
                                · replace hf := if_t hf hc
                                  refine lv_iconst (v := 1) hx hb dX5_joined_181 (by decide) ?_
                                  refine lv_goto (tgt := 186) hx hb dX5_joined_182 (by decide) ?_
                                  exact r_iret hC hR hS hE hf dX5_joined_186
                              · replace hf := if_f hf hc14
                                by_cases hc15 : a1 = (27 : Int32)
                                · replace hf := if_t hf hc15
                                  rw [hc15]
                                  refine lv_tableIn (tgt := 187) hx hb dX5_joined_1 (by decide) (by decide) rfl (by decide) ?_
                                  refine lv_iload_n hx hb dX5_joined_187 rfl (lv_at hl 1 rfl) ?_
                                  refine lv_iload_n hx hb dX5_joined_188 rfl (lv_at hl 2 rfl) ?_
                                  refine lv_icmp_eq (tgt := 196) hx hb dX5_joined_189 (by decide) (fun hc => ?_) (fun hc => ?_)
                                  · replace hf := if_t hf hc
                                    refine lv_iconst (v := 0) hx hb dX5_joined_196 (by decide) ?_
                                    exact r_iret hC hR hS hE hf dX5_joined_197
                                  · replace hf := if_f hf hc
                                    refine lv_iconst (v := 1) hx hb dX5_joined_192 (by decide) ?_
                                    refine lv_goto (tgt := 197) hx hb dX5_joined_193 (by decide) ?_
                                    exact r_iret hC hR hS hE hf dX5_joined_197
                                · replace hf := if_f hf hc15
                                  by_cases hc16 : a1 = (28 : Int32)
                                  · replace hf := if_t hf hc16
                                    rw [hc16]
                                    refine lv_tableIn (tgt := 206) hx hb dX5_joined_1 (by decide) (by decide) rfl (by decide) ?_
                                    refine lv_iconst (v := 0) hx hb dX5_joined_206 (by decide) ?_
                                    exact r_iret hC hR hS hE hf dX5_joined_207
                                  · replace hf := if_f hf hc16
                                    by_cases hc17 : a1 = (29 : Int32)
                                    · replace hf := if_t hf hc17
                                      rw [hc17]
                                      refine lv_tableIn (tgt := 206) hx hb dX5_joined_1 (by decide) (by decide) rfl (by decide) ?_
                                      refine lv_iconst (v := 0) hx hb dX5_joined_206 (by decide) ?_
                                      exact r_iret hC hR hS hE hf dX5_joined_207
                                    · replace hf := if_f hf hc17
                                      by_cases hc18 : a1 = (30 : Int32)
                                      · replace hf := if_t hf hc18
                                        rw [hc18]
                                        refine lv_tableIn (tgt := 206) hx hb dX5_joined_1 (by decide) (by decide) rfl (by decide) ?_
                                        refine lv_iconst (v := 0) hx hb dX5_joined_206 (by decide) ?_
                                        exact r_iret hC hR hS hE hf dX5_joined_207
                                      · replace hf := if_f hf hc18
                                        by_cases hc19 : a1 = (31 : Int32)
                                        · replace hf := if_t hf hc19
                                          rw [hc19]
                                          refine lv_tableIn (tgt := 206) hx hb dX5_joined_1 (by decide) (by decide) rfl (by decide) ?_
                                          refine lv_iconst (v := 0) hx hb dX5_joined_206 (by decide) ?_
                                          exact r_iret hC hR hS hE hf dX5_joined_207
                                        · replace hf := if_f hf hc19
                                          by_cases hc20 : a1 = (32 : Int32)
                                          · replace hf := if_t hf hc20
                                            rw [hc20]
                                            refine lv_tableIn (tgt := 206) hx hb dX5_joined_1 (by decide) (by decide) rfl (by decide) ?_
                                            refine lv_iconst (v := 0) hx hb dX5_joined_206 (by decide) ?_
                                            exact r_iret hC hR hS hE hf dX5_joined_207
                                          · replace hf := if_f hf hc20
                                            by_cases hc21 : a1 = (33 : Int32)
                                            · replace hf := if_t hf hc21
                                              rw [hc21]
                                              refine lv_tableIn (tgt := 206) hx hb dX5_joined_1 (by decide) (by decide) rfl (by decide) ?_
                                              refine lv_iconst (v := 0) hx hb dX5_joined_206 (by decide) ?_
                                              exact r_iret hC hR hS hE hf dX5_joined_207
                                            · replace hf := if_f hf hc21
                                              by_cases hc22 : a1 = (34 : Int32)
                                              · replace hf := if_t hf hc22
                                                rw [hc22]
                                                refine lv_tableIn (tgt := 206) hx hb dX5_joined_1 (by decide) (by decide) rfl (by decide) ?_
                                                refine lv_iconst (v := 0) hx hb dX5_joined_206 (by decide) ?_
                                                exact r_iret hC hR hS hE hf dX5_joined_207
                                              · replace hf := if_f hf hc22
                                                by_cases hc23 : a1 = (35 : Int32)
                                                · replace hf := if_t hf hc23
                                                  rw [hc23]
                                                  refine lv_tableIn (tgt := 206) hx hb dX5_joined_1 (by decide) (by decide) rfl (by decide) ?_
                                                  refine lv_iconst (v := 0) hx hb dX5_joined_206 (by decide) ?_
                                                  exact r_iret hC hR hS hE hf dX5_joined_207
                                                · replace hf := if_f hf hc23
                                                  by_cases hc24 : a1 = (36 : Int32)
                                                  · replace hf := if_t hf hc24
                                                    rw [hc24]
                                                    refine lv_tableIn (tgt := 143) hx hb dX5_joined_1 (by decide) (by decide) rfl (by decide) ?_
                                                    refine lv_iload_n hx hb dX5_joined_143 rfl (lv_at hl 1 rfl) ?_
                                                    refine lv_iload_n hx hb dX5_joined_144 rfl (lv_at hl 2 rfl) ?_
                                                    refine lv_icmp_gt (tgt := 152) hx hb dX5_joined_145 (by decide) (fun hc => ?_) (fun hc => ?_)
                                                    · replace hf := if_t hf hc
                                                      refine lv_iconst (v := 0) hx hb dX5_joined_152 (by decide) ?_
                                                      exact r_iret hC hR hS hE hf dX5_joined_153
                                                    · replace hf := if_f hf hc
                                                      refine lv_iconst (v := 1) hx hb dX5_joined_148 (by decide) ?_
                                                      refine lv_goto (tgt := 153) hx hb dX5_joined_149 (by decide) ?_
                                                      exact r_iret hC hR hS hE hf dX5_joined_153
                                                  · replace hf := if_f hf hc24
                                                    by_cases hc25 : a1 = (37 : Int32)
                                                    · replace hf := if_t hf hc25
                                                      rw [hc25]
                                                      refine lv_tableIn (tgt := 165) hx hb dX5_joined_1 (by decide) (by decide) rfl (by decide) ?_
                                                      refine lv_iload_n hx hb dX5_joined_165 rfl (lv_at hl 1 rfl) ?_
                                                      refine lv_iload_n hx hb dX5_joined_166 rfl (lv_at hl 2 rfl) ?_
                                                      refine lv_icmp_lt (tgt := 174) hx hb dX5_joined_167 (by decide) (fun hc => ?_) (fun hc => ?_)
                                                      · replace hf := if_t hf hc
                                                        refine lv_iconst (v := 0) hx hb dX5_joined_174 (by decide) ?_
                                                        exact r_iret hC hR hS hE hf dX5_joined_175
                                                      · replace hf := if_f hf hc
                                                        refine lv_iconst (v := 1) hx hb dX5_joined_170 (by decide) ?_
                                                        refine lv_goto (tgt := 175) hx hb dX5_joined_171 (by decide) ?_
                                                        exact r_iret hC hR hS hE hf dX5_joined_175
                                                    · replace hf := if_f hf hc25
                                                      refine lv_tableOut (tgt := 206) hx hb dX5_joined_1 (by have := ne_toInt hc0 (z := 12) (by decide); have := ne_toInt hc1 (z := 13) (by decide); have := ne_toInt hc2 (z := 14) (by decide); have := ne_toInt hc3 (z := 15) (by decide); have := ne_toInt hc4 (z := 16) (by decide); have := ne_toInt hc5 (z := 17) (by decide); have := ne_toInt hc6 (z := 18) (by decide); have := ne_toInt hc7 (z := 19) (by decide); have := ne_toInt hc8 (z := 20) (by decide); have := ne_toInt hc9 (z := 21) (by decide); have := ne_toInt hc10 (z := 22) (by decide); have := ne_toInt hc11 (z := 23) (by decide); have := ne_toInt hc12 (z := 24) (by decide); have := ne_toInt hc13 (z := 25) (by decide); have := ne_toInt hc14 (z := 26) (by decide); have := ne_toInt hc15 (z := 27) (by decide); have := ne_toInt hc16 (z := 28) (by decide); have := ne_toInt hc17 (z := 29) (by decide); have := ne_toInt hc18 (z := 30) (by decide); have := ne_toInt hc19 (z := 31) (by decide); have := ne_toInt hc20 (z := 32) (by decide); have := ne_toInt hc21 (z := 33) (by decide); have := ne_toInt hc22 (z := 34) (by decide); have := ne_toInt hc23 (z := 35) (by decide); have := ne_toInt hc24 (z := 36) (by decide); have := ne_toInt hc25 (z := 37) (by decide); omega) (by decide) ?_
                                                      refine lv_iconst (v := 0) hx hb dX5_joined_206 (by decide) ?_
                                                      exact r_iret hC hR hS hE hf dX5_joined_207
abbrev rX5_stepped : Room := { frames := 0, cells := 0, slots := 0, locals := 0 }
def f_X5_stepped (_n : Nat) (a1 : Int32) (a2 : Int64) (a3 : Int64) (S : MS) : Option (Int64 × MS) :=
  (if a1 = (28 : Int32) then some ((a2 + a3), S) else (if a1 = (29 : Int32) then some ((a2 - a3), S) else (if a1 = (30 : Int32) then some ((a2 * a3), S) else (if (lg_cmp a3 (0 : Int64)) = 0 then some ((0 : Int64), S) else dvl a3 (some ((a2 / a3), S))))))
set_option maxRecDepth 100000 in
set_option maxHeartbeats 4000000 in
theorem c_X5_stepped (l : Launch) (G : Gx) (n : Nat) (a1 : Int32) (a2 : Int64) (a3 : Int64) (S : MS) (ro : Int64) (So : MS) (hf : f_X5_stepped n a1 a2 a3 S = some (ro, So)) : Cn G l yX5_stepped cX5_stepped 5 (some .long) rX5_stepped [.int a1, .long a2, .long a3] S (some (.long ro)) So := by
  refine Cn.of (by decide) (Nat.le_of_ble_eq_true rfl) ?_
  intro p e s m args below meth c hC hname hR ls hl
  have hC : Cx G RX5 cX5_stepped 5 (some .long) p s m args meth c := hC
  have hl : lv_has ls 5 [(0, .int a1), (1, .long a2), (3, .long a3)] := hl
  have hx := hC.x
  have hb := hC.b
  have hS : va_S (gA G) s.heap s.heap [] := va_S.rf
  have hE : Ex S S := Ex.rf S
  unfold f_X5_stepped at hf
  refine lv_iload_n hx hb dX5_stepped_0 rfl (lv_at hl 0 rfl) ?_
  by_cases hc0 : a1 = (28 : Int32)
  · replace hf := if_t hf hc0
    rw [hc0]
    refine lv_tableIn (tgt := 28) hx hb dX5_stepped_1 (by decide) (by decide) rfl (by decide) ?_
    refine lv_lload_n hx hb dX5_stepped_28 rfl (lv_at hl 1 rfl) ?_
    refine lv_lload_n hx hb dX5_stepped_29 rfl (lv_at hl 2 rfl) ?_
    refine lv_ladd hx hb dX5_stepped_30 ?_
    exact r_lret hC hR hS hE hf dX5_stepped_31
  · replace hf := if_f hf hc0
    by_cases hc1 : a1 = (29 : Int32)
    · replace hf := if_t hf hc1
      rw [hc1]
      refine lv_tableIn (tgt := 32) hx hb dX5_stepped_1 (by decide) (by decide) rfl (by decide) ?_
      refine lv_lload_n hx hb dX5_stepped_32 rfl (lv_at hl 1 rfl) ?_
      refine lv_lload_n hx hb dX5_stepped_33 rfl (lv_at hl 2 rfl) ?_
      refine lv_lsub hx hb dX5_stepped_34 ?_
      exact r_lret hC hR hS hE hf dX5_stepped_35
    · replace hf := if_f hf hc1
      by_cases hc2 : a1 = (30 : Int32)
      · replace hf := if_t hf hc2
        rw [hc2]
        refine lv_tableIn (tgt := 36) hx hb dX5_stepped_1 (by decide) (by decide) rfl (by decide) ?_
        refine lv_lload_n hx hb dX5_stepped_36 rfl (lv_at hl 1 rfl) ?_
        refine lv_lload_n hx hb dX5_stepped_37 rfl (lv_at hl 2 rfl) ?_
        refine lv_lmul hx hb dX5_stepped_38 ?_
        exact r_lret hC hR hS hE hf dX5_stepped_39
      · replace hf := if_f hf hc2
        refine lv_tableOut (tgt := 40) hx hb dX5_stepped_1 (by have := ne_toInt hc0 (z := 28) (by decide); have := ne_toInt hc1 (z := 29) (by decide); have := ne_toInt hc2 (z := 30) (by decide); omega) (by decide) ?_
        refine lv_lload_n hx hb dX5_stepped_40 rfl (lv_at hl 2 rfl) ?_
        refine lv_lconst (v := 0) hx hb dX5_stepped_41 (by decide) ?_
        refine W.lcmp hx hb dX5_stepped_42 ?_
        refine lv_if_ne (tgt := 50) hx hb dX5_stepped_43 (by decide) (fun hc => ?_) (fun hc => ?_)
        · replace hf := if_f hf hc
          refine lv_lload_n hx hb dX5_stepped_50 rfl (lv_at hl 1 rfl) ?_
          refine lv_lload_n hx hb dX5_stepped_51 rfl (lv_at hl 2 rfl) ?_
          obtain ⟨hn1, hf⟩ := dvl_of hf
          refine lv_ldiv hx hb dX5_stepped_52 hn1 ?_
          exact r_lret hC hR hS hE hf dX5_stepped_53
        · replace hf := if_t hf hc
          refine lv_lconst (v := 0) hx hb dX5_stepped_46 (by decide) ?_
          refine lv_goto (tgt := 53) hx hb dX5_stepped_47 (by decide) ?_
          exact r_lret hC hR hS hE hf dX5_stepped_53
abbrev rX5_value : Room := { frames := 2, cells := 0, slots := 0, locals := 52 }
def f_X5_value_L25 (n : Nat) (this : Nat) (a1 : Option Nat) (x8 : Int32) (j253_16 : Int32 → MS → Option (Int32 × MS)) : Nat → Int32 → Int32 → MS → Option (Int32 × MS)
  | 0, _, _, _ => none
  | k + 1, x24, x25, S26 => jn (f_X5_value_L25 n this a1 x8 j253_16 k) fun rec25_23 => (if x8 ≤ x25 then j253_16 x24 S26 else nn a1 fun q27 => gR S26 (mR S26 q27 4) 12 fun q29 => ck (inb x25 (mN S26 q29)) (bd ((mI S26 q29 x25.toNatClampNeg) &&& (63 : Int32)) fun x32 => nn a1 fun q33 => gR S26 (mR S26 q33 4) 12 fun q35 => ck (inb x25 (mN S26 q35)) (bd (iush (mI S26 q35 x25.toNatClampNeg) (6 : Int32)) fun x38 => jn (fun (x41 : Int32) (S42 : MS) => bd (x25 + (1 : Int32)) fun x43 => rec25_23 x41 x43 S42) fun j247_40 => jn (fun (S46 : MS) => (if (64 : Int32) ≤ x24 then j247_40 x24 S46 else gR S46 (mR S46 this 1) 12 fun q47 => jn (fun (q51 : Nat) (x52 : Int32) (x53 : Int32) (S54 : MS) => ck (inb x52 (mN S54 q51)) (bd (sI S54 q51 x52.toNatClampNeg x53) fun S56 => bd (x24 + (1 : Int32)) fun x58 => j247_40 x58 S56)) fun j111_50 => (if x32 = (38 : Int32) then j111_50 q47 x24 x38 S46 else (if (12 : Int32) ≤ x38 then j111_50 q47 x24 (0 : Int32) S46 else gR S46 (mR S46 this 0) 12 fun q59 => ck (inb x38 (mN S46 q59)) (j111_50 q47 x24 (mI S46 q59 x38.toNatClampNeg) S46))))) fun j70_45 => (if x32 = (38 : Int32) then j70_45 S26 else (if x32 = (41 : Int32) then j70_45 S26 else jn (fun (S68 : MS) => (if x24 < (1 : Int32) then j247_40 x24 S68 else gR S68 (mR S68 this 1) 12 fun q69 => jn (fun (q73 : Nat) (x74 : Int32) (x75 : Int32) (S76 : MS) => ck (inb x74 (mN S76 q73)) (bd (sI S76 q73 x74.toNatClampNeg x75) fun S78 => j247_40 x24 S78)) fun j173_72 => (if x32 = (42 : Int32) then gR S68 (mR S68 this 1) 12 fun q83 => ck (inb (x24 - (1 : Int32)) (mN S68 q83)) (j173_72 q69 (x24 - (1 : Int32)) (-(mI S68 q83 (x24 - (1 : Int32)).toNatClampNeg)) S68) else gR S68 (mR S68 this 1) 12 fun q80 => ck (inb (x24 - (1 : Int32)) (mN S68 q80)) (j173_72 q69 (x24 - (1 : Int32)) ((1 : Int32) - (mI S68 q80 (x24 - (1 : Int32)).toNatClampNeg)) S68)))) fun j132_67 => (if x32 = (42 : Int32) then j132_67 S26 else (if x32 = (14 : Int32) then j132_67 S26 else (if x24 < (2 : Int32) then j247_40 x24 S26 else bd (x24 + (-1 : Int32)) fun x90 => gR S26 (mR S26 this 1) 12 fun q91 => cl (f_X5_isStep n x32 S26) fun x96 S93 => jn (fun (q99 : Nat) (x100 : Int32) (x101 : Int32) (S102 : MS) => ck (inb x100 (mN S102 q99)) (bd (sI S102 q99 x100.toNatClampNeg x101) fun S104 => j247_40 x90 S104)) fun j246_98 => (if x96 = 0 then gR S93 (mR S93 this 1) 12 fun q106 => ck (inb (x90 - (1 : Int32)) (mN S93 q106)) (gR S93 (mR S93 this 1) 12 fun q109 => ck (inb x90 (mN S93 q109)) (cl (f_X5_joined n x32 (mI S93 q106 (x90 - (1 : Int32)).toNatClampNeg) (mI S93 q109 x90.toNatClampNeg) S93) fun x115 S112 => j246_98 q91 (x90 - (1 : Int32)) x115 S112)) else gR S93 (mR S93 this 1) 12 fun q116 => ck (inb (x90 - (1 : Int32)) (mN S93 q116)) (gR S93 (mR S93 this 1) 12 fun q119 => ck (inb x90 (mN S93 q119)) (cl (f_X5_stepped n x32 ((mI S93 q116 (x90 - (1 : Int32)).toNatClampNeg).toInt64) ((mI S93 q119 x90.toNatClampNeg).toInt64) S93) fun x125 S122 => cl (f_X5_cut n x125 S122) fun x129 S126 => j246_98 q91 (x90 - (1 : Int32)) x129 S126)))))))))))
def f_X5_value (n : Nat) (this : Nat) (a1 : Option Nat) (a2 : Int32) (S : MS) : Option (Int32 × MS) :=
  nn a1 fun q1 => nn a1 fun q3 => gR S (mR S q3 2) 12 fun q5 => ck (inb a2 (mN S q5)) (bd (imin (mI S q1 6) (mI S q5 a2.toNatClampNeg)) fun x8 => nn a1 fun q9 => gR S (mR S q9 1) 12 fun q11 => ck (inb a2 (mN S q11)) (bd (mI S q11 a2.toNatClampNeg) fun x14 => jn (fun (x17 : Int32) (S18 : MS) => (if x17 ≤ 0 then some ((0 : Int32), S18) else gR S18 (mR S18 this 1) 12 fun q19 => ck (inb (0 : Int32) (mN S18 q19)) (some ((mI S18 q19 (0 : Int32).toNatClampNeg), S18)))) fun j253_16 => f_X5_value_L25 n this a1 x8 j253_16 n (0 : Int32) x14 S))
set_option maxRecDepth 100000 in
set_option maxHeartbeats 4000000 in
theorem c_X5_value (l : Launch) (G : Gx) (n : Nat) (this : Nat) (a1 : Option Nat) (a2 : Int32) (S : MS) (ro : Int32) (So : MS) (hf : f_X5_value n this a1 a2 S = some (ro, So)) (ok_this : Ok S this 5) (ok_a1 : ∀ q, a1 = some q → Ok S q 7) : Cn G l yX5_value cX5_value 8 (some .int) rX5_value [.ref this, va_rf a1, .int a2] S (some (.int ro)) So := by
  refine Cn.of (by decide) (by cases a1 <;> exact Nat.le_of_ble_eq_true rfl) ?_
  intro p e s m args below meth c hC hname hR ls hl
  have hC : Cx G RX5 cX5_value 8 (some .int) p s m args meth c := hC
  have hl : lv_has ls 8 [(0, .ref this), (1, va_rf a1), (2, .int a2)] := by cases a1 <;> exact hl
  have hx := hC.x
  have hb := hC.b
  have hS : va_S (gA G) s.heap s.heap [] := va_S.rf
  have hE : Ex S S := Ex.rf S
  unfold f_X5_value at hf
  refine lv_iconst (v := 0) hx hb dX5_value_0 (by decide) ?_
  refine lv_istore_n (lv' := [(3, .int (0 : Int32)), (0, .ref this), (1, va_rf a1), (2, .int a2)]) hx hb dX5_value_1 rfl hl (by decide) rfl (fun ls hl => ?_)
  refine r_aload_nO hx hb dX5_value_2 rfl (lv_at hl 2 rfl) ?_
  obtain ⟨q1, hq2, hf⟩ := nn_of hf
  have ok_q1 := ok_a1 q1 hq2
  refine W.eq (g2 := F0 m 3 ls [.ref q1]) (by rw [hq2]; rfl) ?_
  refine gf_RX5_96 hC hR ok_q1 dX5_value_3 ?_
  refine r_aload_nO hx hb dX5_value_6 rfl (lv_at hl 2 rfl) ?_
  obtain ⟨q3, hq4, hf⟩ := nn_of hf
  have ok_q3 := ok_a1 q3 hq4
  refine W.eq (g2 := F0 m 7 ls [.ref q3, .int (mI S q1 6)]) (by rw [hq4]; rfl) ?_
  obtain ⟨q5, hq6, ok_q5, hf⟩ := gR_of hf
  refine gf_RX5_99 hC hR ok_q3 hq6 dX5_value_7 ?_
  refine lv_iload_n hx hb dX5_value_10 rfl (lv_at hl 3 rfl) ?_
  obtain ⟨hi7, hf⟩ := ck_of hf
  refine r_iald hC hR ok_q5 hi7 dX5_value_11 ?_
  refine r_imin (v := (imin (mI S q1 6) (mI S q5 a2.toNatClampNeg))) hC hl.1 (bg31 _ (List.mem_of_getElem? (i := 18) rfl)) rfl (Nat.le_of_ble_eq_true rfl) (Nat.le_of_ble_eq_true rfl) (Nat.zero_le _) (Nat.zero_le _) dX5_value_12 ?_
  refine bdi hf (fun x8 hf => ?_)
  refine lv_istore (lv' := [(4, .int x8), (3, .int (0 : Int32)), (0, .ref this), (1, va_rf a1), (2, .int a2)]) hx hb dX5_value_15 hl (by decide) rfl (fun ls hl => ?_)
  refine r_aload_nO hx hb dX5_value_17 rfl (lv_at hl 3 rfl) ?_
  obtain ⟨q9, hq10, hf⟩ := nn_of hf
  have ok_q9 := ok_a1 q9 hq10
  refine W.eq (g2 := F0 m 18 ls [.ref q9]) (by rw [hq10]; rfl) ?_
  obtain ⟨q11, hq12, ok_q11, hf⟩ := gR_of hf
  refine gf_RX5_102 hC hR ok_q9 hq12 dX5_value_18 ?_
  refine lv_iload_n hx hb dX5_value_21 rfl (lv_at hl 4 rfl) ?_
  obtain ⟨hi13, hf⟩ := ck_of hf
  refine r_iald hC hR ok_q11 hi13 dX5_value_22 ?_
  refine bdi hf (fun x14 hf => ?_)
  refine lv_istore (lv' := [(5, .int x14), (4, .int x8), (3, .int (0 : Int32)), (0, .ref this), (1, va_rf a1), (2, .int a2)]) hx hb dX5_value_23 hl (by decide) rfl (fun ls hl => ?_)
  obtain ⟨j253_16, ej253_16, hf⟩ := jn_of2 hf
  have hj253_15 : ∀ (x17 : Int32) (S18 : MS) (H : Heap) (locs : List Loc) (ls : Array Slot), j253_16 x17 S18 = some (ro, So) → Rp G S18 H → va_S (gA G) s.heap H locs → Ex S S18 → Ok S18 this 5 → lv_has ls 8 [(0, .ref this), (3, .int x17)] → W p l e rX5_value s m args below meth c H locs 0 0 (MQ below (Qn G S (some (.int ro)) So) args s 0 0 (gA G)) (F0 m 253 ls []) := by
    intro x17 S18 H locs ls hf hR hS hE ok_this hl
    rw [ej253_16] at hf
    refine lv_iload_n hx hb dX5_value_253 rfl (lv_at hl 1 rfl) ?_
    refine lv_if_le (tgt := 266) hx hb dX5_value_254 (by decide) (fun hc => ?_) (fun hc => ?_)
    · replace hf := if_t hf hc
      refine lv_iconst (v := 0) hx hb dX5_value_266 (by decide) ?_
      exact r_iret hC hR hS hE hf dX5_value_267
    · replace hf := if_f hf hc
      refine lv_aload_n hx hb dX5_value_257 rfl (lv_at hl 0 rfl) ?_
      obtain ⟨q19, hq20, ok_q19, hf⟩ := gR_of hf
      refine gf_RX5_15 hC hR ok_this hq20 dX5_value_258 ?_
      refine lv_iconst (v := 0) hx hb dX5_value_261 (by decide) ?_
      obtain ⟨hi21, hf⟩ := ck_of hf
      refine r_iald hC hR ok_q19 hi21 dX5_value_262 ?_
      refine lv_goto (tgt := 267) hx hb dX5_value_263 (by decide) ?_
      exact r_iret hC hR hS hE hf dX5_value_267
  have hh138 : ∀ k : Nat, ∀ (x24 : Int32) (x25 : Int32) (S26 : MS) (H : Heap) (locs : List Loc) (ls : Array Slot), f_X5_value_L25 n this a1 x8 j253_16 k x24 x25 S26 = some (ro, So) → Rp G S26 H → va_S (gA G) s.heap H locs → Ex S S26 → Ok S26 this 5 → (∀ q, a1 = some q → Ok S26 q 7) → lv_has ls 8 [(0, .ref this), (1, va_rf a1), (3, .int x24), (4, .int x8), (5, .int x25)] → W p l e rX5_value s m args below meth c H locs 0 0 (MQ below (Qn G S (some (.int ro)) So) args s 0 0 (gA G)) (F0 m 25 ls []) := by
    intro k
    induction k with
    | zero =>
      intro x24 x25 S26 H locs ls hf hR hS hE ok_this ok_a1 hl
      exact absurd hf (by rw [f_X5_value_L25]; exact fun h => by cases h)
    | succ k ih =>
      intro x24 x25 S26 H locs ls hf hR hS hE ok_this ok_a1 hl
      rw [f_X5_value_L25] at hf
      obtain ⟨rec25_23, erec25_23, hf⟩ := jn_of3 hf
      have hL25_22 : ∀ (x24 : Int32) (x25 : Int32) (S26 : MS) (H : Heap) (locs : List Loc) (ls : Array Slot), rec25_23 x24 x25 S26 = some (ro, So) → Rp G S26 H → va_S (gA G) s.heap H locs → Ex S S26 → Ok S26 this 5 → (∀ q, a1 = some q → Ok S26 q 7) → lv_has ls 8 [(0, .ref this), (1, va_rf a1), (3, .int x24), (4, .int x8), (5, .int x25)] → W p l e rX5_value s m args below meth c H locs 0 0 (MQ below (Qn G S (some (.int ro)) So) args s 0 0 (gA G)) (F0 m 25 ls []) := by
        intro x24 x25 S26 H locs ls hf hR hS hE ok_this ok_a1 hl
        rw [erec25_23] at hf
        exact ih x24 x25 S26 _ _ _ hf hR hS hE ok_this ok_a1 hl
      refine lv_iload hx hb dX5_value_25 (lv_at hl 4 rfl) ?_
      refine lv_iload hx hb dX5_value_27 (lv_at hl 3 rfl) ?_
      refine lv_icmp_ge (tgt := 253) hx hb dX5_value_29 (by decide) (fun hc => ?_) (fun hc => ?_)
      · replace hf := if_t hf hc
        exact hj253_15 x24 S26 _ _ _ hf hR hS hE ok_this (lv_sub hl [0, 2] rfl)
      · replace hf := if_f hf hc
        refine r_aload_nO hx hb dX5_value_32 rfl (lv_at hl 1 rfl) ?_
        obtain ⟨q27, hq28, hf⟩ := nn_of hf
        have ok_q27 := ok_a1 q27 hq28
        refine W.eq (g2 := F0 m 33 ls [.ref q27]) (by rw [hq28]; rfl) ?_
        obtain ⟨q29, hq30, ok_q29, hf⟩ := gR_of hf
        refine gf_RX5_105 hC hR ok_q27 hq30 dX5_value_33 ?_
        refine lv_iload hx hb dX5_value_36 (lv_at hl 4 rfl) ?_
        obtain ⟨hi31, hf⟩ := ck_of hf
        refine r_iald hC hR ok_q29 hi31 dX5_value_38 ?_
        refine lv_bipush (v := 63) hx hb dX5_value_39 (by decide) ?_
        refine lv_iand hx hb dX5_value_41 ?_
        refine bdi hf (fun x32 hf => ?_)
        refine lv_istore (lv' := [(6, .int x32), (0, .ref this), (1, va_rf a1), (3, .int x24), (4, .int x8), (5, .int x25)]) hx hb dX5_value_42 hl (by decide) rfl (fun ls hl => ?_)
        refine r_aload_nO hx hb dX5_value_44 rfl (lv_at hl 2 rfl) ?_
        obtain ⟨q33, hq34, hf⟩ := nn_of hf
        have ok_q33 := ok_a1 q33 hq34
        refine W.eq (g2 := F0 m 45 ls [.ref q33]) (by rw [hq34]; rfl) ?_
        obtain ⟨q35, hq36, ok_q35, hf⟩ := gR_of hf
        refine gf_RX5_105 hC hR ok_q33 hq36 dX5_value_45 ?_
        refine lv_iload hx hb dX5_value_48 (lv_at hl 5 rfl) ?_
        obtain ⟨hi37, hf⟩ := ck_of hf
        refine r_iald hC hR ok_q35 hi37 dX5_value_50 ?_
        refine lv_bipush (v := 6) hx hb dX5_value_51 (by decide) ?_
        refine lv_iushr (v := (iush (mI S26 q35 x25.toNatClampNeg) (6 : Int32))) hx hb dX5_value_53 rfl ?_
        refine bdi hf (fun x38 hf => ?_)
        refine lv_istore (lv' := [(7, .int x38), (6, .int x32), (0, .ref this), (1, va_rf a1), (3, .int x24), (4, .int x8), (5, .int x25)]) hx hb dX5_value_54 hl (by decide) rfl (fun ls hl => ?_)
        refine lv_iload hx hb dX5_value_56 (lv_at hl 1 rfl) ?_
        refine lv_bipush (v := 38) hx hb dX5_value_58 (by decide) ?_
        obtain ⟨j247_40, ej247_40, hf⟩ := jn_of2 hf
        have hj247_39 : ∀ (x41 : Int32) (S42 : MS) (H : Heap) (locs : List Loc) (ls : Array Slot), j247_40 x41 S42 = some (ro, So) → Rp G S42 H → va_S (gA G) s.heap H locs → Ex S S42 → Ok S42 this 5 → (∀ q, a1 = some q → Ok S42 q 7) → lv_has ls 8 [(0, .ref this), (1, va_rf a1), (3, .int x41), (4, .int x8), (5, .int x25)] → W p l e rX5_value s m args below meth c H locs 0 0 (MQ below (Qn G S (some (.int ro)) So) args s 0 0 (gA G)) (F0 m 247 ls []) := by
          intro x41 S42 H locs ls hf hR hS hE ok_this ok_a1 hl
          rw [ej247_40] at hf
          refine r_iinc (n := 1) (z := 1) (lv' := fun x43 => [(5, .int x43), (0, .ref this), (1, va_rf a1), (3, .int x41), (4, .int x8)]) hx hb dX5_value_247 hl (k := 4) rfl (by decide) (by decide) (fun _ => rfl) hf (fun x43 ls hf hl => ?_)
          refine lv_goto (tgt := 25) hx hb dX5_value_250 (by decide) ?_
          exact hL25_22 x41 x43 S42 _ _ _ hf hR hS hE ok_this ok_a1 (lv_sub hl [1, 2, 3, 4, 0] rfl)
        obtain ⟨j70_45, ej70_45, hf⟩ := jn_of1 hf
        have hj70_44 : ∀ (S46 : MS) (H : Heap) (locs : List Loc) (ls : Array Slot), j70_45 S46 = some (ro, So) → Rp G S46 H → va_S (gA G) s.heap H locs → Ex S S46 → Ok S46 this 5 → (∀ q, a1 = some q → Ok S46 q 7) → lv_has ls 8 [(0, .ref this), (1, va_rf a1), (3, .int x24), (4, .int x8), (5, .int x25), (6, .int x32), (7, .int x38)] → W p l e rX5_value s m args below meth c H locs 0 0 (MQ below (Qn G S (some (.int ro)) So) args s 0 0 (gA G)) (F0 m 70 ls []) := by
          intro S46 H locs ls hf hR hS hE ok_this ok_a1 hl
          rw [ej70_45] at hf
          refine lv_iload_n hx hb dX5_value_70 rfl (lv_at hl 2 rfl) ?_
          refine lv_bipush (v := 64) hx hb dX5_value_71 (by decide) ?_
          refine lv_icmp_ge (tgt := 247) hx hb dX5_value_73 (by decide) (fun hc => ?_) (fun hc => ?_)
          · replace hf := if_t hf hc
            exact hj247_39 x24 S46 _ _ _ hf hR hS hE ok_this ok_a1 (lv_sub hl [0, 1, 2, 3, 4] rfl)
          · replace hf := if_f hf hc
            refine lv_aload_n hx hb dX5_value_76 rfl (lv_at hl 0 rfl) ?_
            obtain ⟨q47, hq48, ok_q47, hf⟩ := gR_of hf
            refine gf_RX5_15 hC hR ok_this hq48 dX5_value_77 ?_
            refine lv_iload_n hx hb dX5_value_80 rfl (lv_at hl 2 rfl) ?_
            refine lv_iload hx hb dX5_value_81 (lv_at hl 5 rfl) ?_
            refine lv_bipush (v := 38) hx hb dX5_value_83 (by decide) ?_
            obtain ⟨j111_50, ej111_50, hf⟩ := jn_of4 hf
            have hj111_49 : ∀ (q51 : Nat) (x52 : Int32) (x53 : Int32) (S54 : MS) (H : Heap) (locs : List Loc) (ls : Array Slot), j111_50 q51 x52 x53 S54 = some (ro, So) → Rp G S54 H → va_S (gA G) s.heap H locs → Ex S S54 → Ok S54 this 5 → (∀ q, a1 = some q → Ok S54 q 7) → Ok S54 q51 12 → lv_has ls 8 [(0, .ref this), (1, va_rf a1), (3, .int x24), (4, .int x8), (5, .int x25)] → W p l e rX5_value s m args below meth c H locs 0 0 (MQ below (Qn G S (some (.int ro)) So) args s 0 0 (gA G)) (F0 m 111 ls [.int x53, .int x52, .ref q51]) := by
              intro q51 x52 x53 S54 H locs ls hf hR hS hE ok_this ok_a1 ok_q51 hl
              rw [ej111_50] at hf
              obtain ⟨hi55, hf⟩ := ck_of hf
              refine rB_iast hC hR hS ok_q51 hi55 dX5_value_111 hf (fun S56 H locs hf hR hS hE57 => ?_)
              have ok_this := hE57 _ _ ok_this
              have ok_a1 := fun q h => hE57 _ _ (ok_a1 q h)
              have ok_q51 := hE57 _ _ ok_q51
              have hE := hE.tr hE57
              refine r_iinc (n := 1) (z := 1) (lv' := fun x58 => [(3, .int x58), (0, .ref this), (1, va_rf a1), (4, .int x8), (5, .int x25)]) hx hb dX5_value_112 hl (k := 2) rfl (by decide) (by decide) (fun _ => rfl) hf (fun x58 ls hf hl => ?_)
              refine lv_goto (tgt := 247) hx hb dX5_value_115 (by decide) ?_
              exact hj247_39 x58 S56 _ _ _ hf hR hS hE ok_this ok_a1 (lv_sub hl [1, 2, 0, 3, 4] rfl)
            refine lv_icmp_ne (tgt := 93) hx hb dX5_value_85 (by decide) (fun hc => ?_) (fun hc => ?_)
            · replace hf := if_f hf hc
              refine lv_iload hx hb dX5_value_93 (lv_at hl 6 rfl) ?_
              refine lv_bipush (v := 12) hx hb dX5_value_95 (by decide) ?_
              refine lv_icmp_ge (tgt := 110) hx hb dX5_value_97 (by decide) (fun hc => ?_) (fun hc => ?_)
              · replace hf := if_t hf hc
                refine lv_iconst (v := 0) hx hb dX5_value_110 (by decide) ?_
                exact hj111_49 q47 x24 (0 : Int32) S46 _ _ _ hf hR hS hE ok_this ok_a1 ok_q47 (lv_sub hl [0, 1, 2, 3, 4] rfl)
              · replace hf := if_f hf hc
                refine lv_aload_n hx hb dX5_value_100 rfl (lv_at hl 0 rfl) ?_
                obtain ⟨q59, hq60, ok_q59, hf⟩ := gR_of hf
                refine gf_RX5_9 hC hR ok_this hq60 dX5_value_101 ?_
                refine lv_iload hx hb dX5_value_104 (lv_at hl 6 rfl) ?_
                obtain ⟨hi61, hf⟩ := ck_of hf
                refine r_iald hC hR ok_q59 hi61 dX5_value_106 ?_
                refine lv_goto (tgt := 111) hx hb dX5_value_107 (by decide) ?_
                exact hj111_49 q47 x24 (mI S46 q59 x38.toNatClampNeg) S46 _ _ _ hf hR hS hE ok_this ok_a1 ok_q47 (lv_sub hl [0, 1, 2, 3, 4] rfl)
            · replace hf := if_t hf hc
              refine lv_iload hx hb dX5_value_88 (lv_at hl 6 rfl) ?_
              refine lv_goto (tgt := 111) hx hb dX5_value_90 (by decide) ?_
              exact hj111_49 q47 x24 x38 S46 _ _ _ hf hR hS hE ok_this ok_a1 ok_q47 (lv_sub hl [0, 1, 2, 3, 4] rfl)
        refine lv_icmp_eq (tgt := 70) hx hb dX5_value_60 (by decide) (fun hc => ?_) (fun hc => ?_)
        · replace hf := if_t hf hc
          exact hj70_44 S26 _ _ _ hf hR hS hE ok_this ok_a1 (lv_sub hl [2, 3, 4, 5, 6, 1, 0] rfl)
        · replace hf := if_f hf hc
          refine lv_iload hx hb dX5_value_63 (lv_at hl 1 rfl) ?_
          refine lv_bipush (v := 41) hx hb dX5_value_65 (by decide) ?_
          refine lv_icmp_ne (tgt := 118) hx hb dX5_value_67 (by decide) (fun hc => ?_) (fun hc => ?_)
          · replace hf := if_f hf hc
            refine lv_iload hx hb dX5_value_118 (lv_at hl 1 rfl) ?_
            refine lv_bipush (v := 42) hx hb dX5_value_120 (by decide) ?_
            obtain ⟨j132_67, ej132_67, hf⟩ := jn_of1 hf
            have hj132_66 : ∀ (S68 : MS) (H : Heap) (locs : List Loc) (ls : Array Slot), j132_67 S68 = some (ro, So) → Rp G S68 H → va_S (gA G) s.heap H locs → Ex S S68 → Ok S68 this 5 → (∀ q, a1 = some q → Ok S68 q 7) → lv_has ls 8 [(0, .ref this), (1, va_rf a1), (3, .int x24), (4, .int x8), (5, .int x25), (6, .int x32)] → W p l e rX5_value s m args below meth c H locs 0 0 (MQ below (Qn G S (some (.int ro)) So) args s 0 0 (gA G)) (F0 m 132 ls []) := by
              intro S68 H locs ls hf hR hS hE ok_this ok_a1 hl
              rw [ej132_67] at hf
              refine lv_iload_n hx hb dX5_value_132 rfl (lv_at hl 2 rfl) ?_
              refine lv_iconst (v := 1) hx hb dX5_value_133 (by decide) ?_
              refine lv_icmp_lt (tgt := 247) hx hb dX5_value_134 (by decide) (fun hc => ?_) (fun hc => ?_)
              · replace hf := if_t hf hc
                exact hj247_39 x24 S68 _ _ _ hf hR hS hE ok_this ok_a1 (lv_sub hl [0, 1, 2, 3, 4] rfl)
              · replace hf := if_f hf hc
                refine lv_aload_n hx hb dX5_value_137 rfl (lv_at hl 0 rfl) ?_
                obtain ⟨q69, hq70, ok_q69, hf⟩ := gR_of hf
                refine gf_RX5_15 hC hR ok_this hq70 dX5_value_138 ?_
                refine lv_iload_n hx hb dX5_value_141 rfl (lv_at hl 2 rfl) ?_
                refine lv_iconst (v := 1) hx hb dX5_value_142 (by decide) ?_
                refine lv_isub hx hb dX5_value_143 ?_
                refine lv_iload hx hb dX5_value_144 (lv_at hl 5 rfl) ?_
                refine lv_bipush (v := 42) hx hb dX5_value_146 (by decide) ?_
                obtain ⟨j173_72, ej173_72, hf⟩ := jn_of4 hf
                have hj173_71 : ∀ (q73 : Nat) (x74 : Int32) (x75 : Int32) (S76 : MS) (H : Heap) (locs : List Loc) (ls : Array Slot), j173_72 q73 x74 x75 S76 = some (ro, So) → Rp G S76 H → va_S (gA G) s.heap H locs → Ex S S76 → Ok S76 this 5 → (∀ q, a1 = some q → Ok S76 q 7) → Ok S76 q73 12 → lv_has ls 8 [(0, .ref this), (1, va_rf a1), (3, .int x24), (4, .int x8), (5, .int x25)] → W p l e rX5_value s m args below meth c H locs 0 0 (MQ below (Qn G S (some (.int ro)) So) args s 0 0 (gA G)) (F0 m 173 ls [.int x75, .int x74, .ref q73]) := by
                  intro q73 x74 x75 S76 H locs ls hf hR hS hE ok_this ok_a1 ok_q73 hl
                  rw [ej173_72] at hf
                  obtain ⟨hi77, hf⟩ := ck_of hf
                  refine rB_iast hC hR hS ok_q73 hi77 dX5_value_173 hf (fun S78 H locs hf hR hS hE79 => ?_)
                  have ok_this := hE79 _ _ ok_this
                  have ok_a1 := fun q h => hE79 _ _ (ok_a1 q h)
                  have ok_q73 := hE79 _ _ ok_q73
                  have hE := hE.tr hE79
                  refine lv_goto (tgt := 247) hx hb dX5_value_174 (by decide) ?_
                  exact hj247_39 x24 S78 _ _ _ hf hR hS hE ok_this ok_a1 (lv_sub hl [0, 1, 2, 3, 4] rfl)
                refine lv_icmp_ne (tgt := 163) hx hb dX5_value_148 (by decide) (fun hc => ?_) (fun hc => ?_)
                · replace hf := if_f hf hc
                  refine lv_iconst (v := 1) hx hb dX5_value_163 (by decide) ?_
                  refine lv_aload_n hx hb dX5_value_164 rfl (lv_at hl 0 rfl) ?_
                  obtain ⟨q80, hq81, ok_q80, hf⟩ := gR_of hf
                  refine gf_RX5_15 hC hR ok_this hq81 dX5_value_165 ?_
                  refine lv_iload_n hx hb dX5_value_168 rfl (lv_at hl 2 rfl) ?_
                  refine lv_iconst (v := 1) hx hb dX5_value_169 (by decide) ?_
                  refine lv_isub hx hb dX5_value_170 ?_
                  obtain ⟨hi82, hf⟩ := ck_of hf
                  refine r_iald hC hR ok_q80 hi82 dX5_value_171 ?_
                  refine lv_isub hx hb dX5_value_172 ?_
                  exact hj173_71 q69 (x24 - (1 : Int32)) ((1 : Int32) - (mI S68 q80 (x24 - (1 : Int32)).toNatClampNeg)) S68 _ _ _ hf hR hS hE ok_this ok_a1 ok_q69 (lv_sub hl [0, 1, 2, 3, 4] rfl)
                · replace hf := if_t hf hc
                  refine lv_aload_n hx hb dX5_value_151 rfl (lv_at hl 0 rfl) ?_
                  obtain ⟨q83, hq84, ok_q83, hf⟩ := gR_of hf
                  refine gf_RX5_15 hC hR ok_this hq84 dX5_value_152 ?_
                  refine lv_iload_n hx hb dX5_value_155 rfl (lv_at hl 2 rfl) ?_
                  refine lv_iconst (v := 1) hx hb dX5_value_156 (by decide) ?_
                  refine lv_isub hx hb dX5_value_157 ?_
                  obtain ⟨hi85, hf⟩ := ck_of hf
                  refine r_iald hC hR ok_q83 hi85 dX5_value_158 ?_
                  refine lv_ineg hx hb dX5_value_159 ?_
                  refine lv_goto (tgt := 173) hx hb dX5_value_160 (by decide) ?_
                  exact hj173_71 q69 (x24 - (1 : Int32)) (-(mI S68 q83 (x24 - (1 : Int32)).toNatClampNeg)) S68 _ _ _ hf hR hS hE ok_this ok_a1 ok_q69 (lv_sub hl [0, 1, 2, 3, 4] rfl)
            refine lv_icmp_eq (tgt := 132) hx hb dX5_value_122 (by decide) (fun hc => ?_) (fun hc => ?_)
            · replace hf := if_t hf hc
              exact hj132_66 S26 _ _ _ hf hR hS hE ok_this ok_a1 (lv_sub hl [2, 3, 4, 5, 6, 1] rfl)
            · replace hf := if_f hf hc
              refine lv_iload hx hb dX5_value_125 (lv_at hl 1 rfl) ?_
              refine lv_bipush (v := 14) hx hb dX5_value_127 (by decide) ?_
              refine lv_icmp_ne (tgt := 177) hx hb dX5_value_129 (by decide) (fun hc => ?_) (fun hc => ?_)
              · replace hf := if_f hf hc
                refine lv_iload_n hx hb dX5_value_177 rfl (lv_at hl 4 rfl) ?_
                refine lv_iconst (v := 2) hx hb dX5_value_178 (by decide) ?_
                refine lv_icmp_lt (tgt := 247) hx hb dX5_value_179 (by decide) (fun hc => ?_) (fun hc => ?_)
                · replace hf := if_t hf hc
                  exact hj247_39 x24 S26 _ _ _ hf hR hS hE ok_this ok_a1 (lv_sub hl [2, 3, 4, 5, 6] rfl)
                · replace hf := if_f hf hc
                  refine r_iinc (n := -1) (z := -1) (lv' := fun x90 => [(3, .int x90), (7, .int x38), (6, .int x32), (0, .ref this), (1, va_rf a1), (4, .int x8), (5, .int x25)]) hx hb dX5_value_182 hl (k := 4) rfl (by decide) (by decide) (fun _ => rfl) hf (fun x90 ls hf hl => ?_)
                  refine lv_aload_n hx hb dX5_value_185 rfl (lv_at hl 3 rfl) ?_
                  obtain ⟨q91, hq92, ok_q91, hf⟩ := gR_of hf
                  refine gf_RX5_15 hC hR ok_this hq92 dX5_value_186 ?_
                  refine lv_iload_n hx hb dX5_value_189 rfl (lv_at hl 0 rfl) ?_
                  refine lv_iconst (v := 1) hx hb dX5_value_190 (by decide) ?_
                  refine lv_isub hx hb dX5_value_191 ?_
                  refine lv_iload hx hb dX5_value_192 (lv_at hl 2 rfl) ?_
                  obtain ⟨x96, S93, hc94, hf⟩ := cl_of hf
                  refine cl_RX5_108 (As := [.int x32]) (rest := [.int (x90 - (1 : Int32)), .ref q91]) hC hR hS (c_X5_isStep l G n x32 S26 x96 S93 hc94 ) rfl ⟨Nat.le_of_ble_eq_true rfl, Nat.le_of_ble_eq_true rfl⟩ hl.1 rfl (Nat.le_of_ble_eq_true rfl) dX5_value_194 (Nat.zero_le _) (Nat.zero_le _) (fun H locs hR hS hE95 => ?_)
                  have ok_this := hE95 _ _ ok_this
                  have ok_a1 := fun q h => hE95 _ _ (ok_a1 q h)
                  have ok_q27 := hE95 _ _ ok_q27
                  have ok_q29 := hE95 _ _ ok_q29
                  have ok_q33 := hE95 _ _ ok_q33
                  have ok_q35 := hE95 _ _ ok_q35
                  have ok_q91 := hE95 _ _ ok_q91
                  have hE := hE.tr hE95
                  obtain ⟨j246_98, ej246_98, hf⟩ := jn_of4 hf
                  have hj246_97 : ∀ (q99 : Nat) (x100 : Int32) (x101 : Int32) (S102 : MS) (H : Heap) (locs : List Loc) (ls : Array Slot), j246_98 q99 x100 x101 S102 = some (ro, So) → Rp G S102 H → va_S (gA G) s.heap H locs → Ex S S102 → Ok S102 this 5 → (∀ q, a1 = some q → Ok S102 q 7) → Ok S102 q99 12 → lv_has ls 8 [(0, .ref this), (1, va_rf a1), (3, .int x90), (4, .int x8), (5, .int x25)] → W p l e rX5_value s m args below meth c H locs 0 0 (MQ below (Qn G S (some (.int ro)) So) args s 0 0 (gA G)) (F0 m 246 ls [.int x101, .int x100, .ref q99]) := by
                    intro q99 x100 x101 S102 H locs ls hf hR hS hE ok_this ok_a1 ok_q99 hl
                    rw [ej246_98] at hf
                    obtain ⟨hi103, hf⟩ := ck_of hf
                    refine rB_iast hC hR hS ok_q99 hi103 dX5_value_246 hf (fun S104 H locs hf hR hS hE105 => ?_)
                    have ok_this := hE105 _ _ ok_this
                    have ok_a1 := fun q h => hE105 _ _ (ok_a1 q h)
                    have ok_q99 := hE105 _ _ ok_q99
                    have hE := hE.tr hE105
                    exact hj247_39 x90 S104 _ _ _ hf hR hS hE ok_this ok_a1 (lv_sub hl [0, 1, 2, 3, 4] rfl)
                  refine lv_if_eq (tgt := 227) hx hb dX5_value_197 (by decide) (fun hc => ?_) (fun hc => ?_)
                  · replace hf := if_t hf hc
                    refine lv_iload hx hb dX5_value_227 (lv_at hl 2 rfl) ?_
                    refine lv_aload_n hx hb dX5_value_229 rfl (lv_at hl 3 rfl) ?_
                    obtain ⟨q106, hq107, ok_q106, hf⟩ := gR_of hf
                    refine gf_RX5_15 hC hR ok_this hq107 dX5_value_230 ?_
                    refine lv_iload_n hx hb dX5_value_233 rfl (lv_at hl 0 rfl) ?_
                    refine lv_iconst (v := 1) hx hb dX5_value_234 (by decide) ?_
                    refine lv_isub hx hb dX5_value_235 ?_
                    obtain ⟨hi108, hf⟩ := ck_of hf
                    refine r_iald hC hR ok_q106 hi108 dX5_value_236 ?_
                    refine lv_aload_n hx hb dX5_value_237 rfl (lv_at hl 3 rfl) ?_
                    obtain ⟨q109, hq110, ok_q109, hf⟩ := gR_of hf
                    refine gf_RX5_15 hC hR ok_this hq110 dX5_value_238 ?_
                    refine lv_iload_n hx hb dX5_value_241 rfl (lv_at hl 0 rfl) ?_
                    obtain ⟨hi111, hf⟩ := ck_of hf
                    refine r_iald hC hR ok_q109 hi111 dX5_value_242 ?_
                    obtain ⟨x115, S112, hc113, hf⟩ := cl_of hf
                    refine cl_RX5_119 (As := [.int x32, .int (mI S93 q106 (x90 - (1 : Int32)).toNatClampNeg), .int (mI S93 q109 x90.toNatClampNeg)]) (rest := [.int (x90 - (1 : Int32)), .ref q91]) hC hR hS (c_X5_joined l G n x32 (mI S93 q106 (x90 - (1 : Int32)).toNatClampNeg) (mI S93 q109 x90.toNatClampNeg) S93 x115 S112 hc113 ) rfl ⟨Nat.le_of_ble_eq_true rfl, Nat.le_of_ble_eq_true rfl⟩ hl.1 rfl (Nat.le_of_ble_eq_true rfl) dX5_value_243 (Nat.zero_le _) (Nat.zero_le _) (fun H locs hR hS hE114 => ?_)
                    have ok_this := hE114 _ _ ok_this
                    have ok_a1 := fun q h => hE114 _ _ (ok_a1 q h)
                    have ok_q27 := hE114 _ _ ok_q27
                    have ok_q29 := hE114 _ _ ok_q29
                    have ok_q33 := hE114 _ _ ok_q33
                    have ok_q35 := hE114 _ _ ok_q35
                    have ok_q91 := hE114 _ _ ok_q91
                    have ok_q106 := hE114 _ _ ok_q106
                    have ok_q109 := hE114 _ _ ok_q109
                    have hE := hE.tr hE114
                    exact hj246_97 q91 (x90 - (1 : Int32)) x115 S112 _ _ _ hf hR hS hE ok_this ok_a1 ok_q91 (lv_sub hl [3, 4, 0, 5, 6] rfl)
                  · replace hf := if_f hf hc
                    refine lv_iload hx hb dX5_value_200 (lv_at hl 2 rfl) ?_
                    refine lv_aload_n hx hb dX5_value_202 rfl (lv_at hl 3 rfl) ?_
                    obtain ⟨q116, hq117, ok_q116, hf⟩ := gR_of hf
                    refine gf_RX5_15 hC hR ok_this hq117 dX5_value_203 ?_
                    refine lv_iload_n hx hb dX5_value_206 rfl (lv_at hl 0 rfl) ?_
                    refine lv_iconst (v := 1) hx hb dX5_value_207 (by decide) ?_
                    refine lv_isub hx hb dX5_value_208 ?_
                    obtain ⟨hi118, hf⟩ := ck_of hf
                    refine r_iald hC hR ok_q116 hi118 dX5_value_209 ?_
                    refine lv_i2l (v := ((mI S93 q116 (x90 - (1 : Int32)).toNatClampNeg).toInt64)) hx hb dX5_value_210 rfl ?_
                    refine lv_aload_n hx hb dX5_value_211 rfl (lv_at hl 3 rfl) ?_
                    obtain ⟨q119, hq120, ok_q119, hf⟩ := gR_of hf
                    refine gf_RX5_15 hC hR ok_this hq120 dX5_value_212 ?_
                    refine lv_iload_n hx hb dX5_value_215 rfl (lv_at hl 0 rfl) ?_
                    obtain ⟨hi121, hf⟩ := ck_of hf
                    refine r_iald hC hR ok_q119 hi121 dX5_value_216 ?_
                    refine lv_i2l (v := ((mI S93 q119 x90.toNatClampNeg).toInt64)) hx hb dX5_value_217 rfl ?_
                    obtain ⟨x125, S122, hc123, hf⟩ := cl_of hf
                    refine cl_RX5_112 (As := [.int x32, .long ((mI S93 q116 (x90 - (1 : Int32)).toNatClampNeg).toInt64), .long ((mI S93 q119 x90.toNatClampNeg).toInt64)]) (rest := [.int (x90 - (1 : Int32)), .ref q91]) hC hR hS (c_X5_stepped l G n x32 ((mI S93 q116 (x90 - (1 : Int32)).toNatClampNeg).toInt64) ((mI S93 q119 x90.toNatClampNeg).toInt64) S93 x125 S122 hc123 ) rfl ⟨Nat.le_of_ble_eq_true rfl, Nat.le_of_ble_eq_true rfl⟩ hl.1 rfl (Nat.le_of_ble_eq_true rfl) dX5_value_218 (Nat.zero_le _) (Nat.zero_le _) (fun H locs hR hS hE124 => ?_)
                    have ok_this := hE124 _ _ ok_this
                    have ok_a1 := fun q h => hE124 _ _ (ok_a1 q h)
                    have ok_q27 := hE124 _ _ ok_q27
                    have ok_q29 := hE124 _ _ ok_q29
                    have ok_q33 := hE124 _ _ ok_q33
                    have ok_q35 := hE124 _ _ ok_q35
                    have ok_q91 := hE124 _ _ ok_q91
                    have ok_q116 := hE124 _ _ ok_q116
                    have ok_q119 := hE124 _ _ ok_q119
                    have hE := hE.tr hE124
                    obtain ⟨x129, S126, hc127, hf⟩ := cl_of hf
                    refine cl_RX5_116 (As := [.long x125]) (rest := [.int (x90 - (1 : Int32)), .ref q91]) hC hR hS (c_X5_cut l G n x125 S122 x129 S126 hc127 ) rfl ⟨Nat.le_of_ble_eq_true rfl, Nat.le_of_ble_eq_true rfl⟩ hl.1 rfl (Nat.le_of_ble_eq_true rfl) dX5_value_221 (Nat.zero_le _) (Nat.zero_le _) (fun H locs hR hS hE128 => ?_)
                    have ok_this := hE128 _ _ ok_this
                    have ok_a1 := fun q h => hE128 _ _ (ok_a1 q h)
                    have ok_q27 := hE128 _ _ ok_q27
                    have ok_q29 := hE128 _ _ ok_q29
                    have ok_q33 := hE128 _ _ ok_q33
                    have ok_q35 := hE128 _ _ ok_q35
                    have ok_q91 := hE128 _ _ ok_q91
                    have ok_q116 := hE128 _ _ ok_q116
                    have ok_q119 := hE128 _ _ ok_q119
                    have hE := hE.tr hE128
                    refine lv_goto (tgt := 246) hx hb dX5_value_224 (by decide) ?_
                    exact hj246_97 q91 (x90 - (1 : Int32)) x129 S126 _ _ _ hf hR hS hE ok_this ok_a1 ok_q91 (lv_sub hl [3, 4, 0, 5, 6] rfl)
              · replace hf := if_t hf hc
                exact hj132_66 S26 _ _ _ hf hR hS hE ok_this ok_a1 (lv_sub hl [2, 3, 4, 5, 6, 1] rfl)
          · replace hf := if_t hf hc
            exact hj70_44 S26 _ _ _ hf hR hS hE ok_this ok_a1 (lv_sub hl [2, 3, 4, 5, 6, 1, 0] rfl)
  exact hh138 n (0 : Int32) x14 S _ _ _ hf hR hS hE ok_this ok_a1 (lv_sub hl [3, 4, 2, 1, 0] rfl)
