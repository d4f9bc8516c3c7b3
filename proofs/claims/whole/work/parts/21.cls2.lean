abbrev rX2_weightHad : Room := { frames := 41, cells := 0, slots := 0, locals := 1155 }
def f_X2_weightHad (n : Nat) (this : Nat) (a1 : Int32) (a2 : Int32) (a3 : Int32) (S : MS) : Option (Int64 × MS) :=
  gR S (mR S this 6) 15 fun q1 => ck (inb (0 : Int32) (mN S q1)) (gR S (mR S q1 (0 : Int32).toNatClampNeg) 3 fun q4 => gR S (mR S this 3) 3 fun q6 => cv (f_X3_copyFrom n q4 q6 S) fun S8 => cv (f_X2_aim n this a1 a2 S8) fun S11 => cv (f_X2_gather n this (0 : Int32) a3 (1 : Int64) S11) fun S14 => some ((mJ S14 this 9), S14))
set_option maxRecDepth 100000 in
set_option maxHeartbeats 4000000 in
theorem c_X2_weightHad (l : Launch) (G : Gx) (n : Nat) (this : Nat) (a1 : Int32) (a2 : Int32) (a3 : Int32) (S : MS) (ro : Int64) (So : MS) (hf : f_X2_weightHad n this a1 a2 a3 S = some (ro, So)) (ok_this : Ok S this 2) : Cn G l yX2_weightHad cX2_weightHad 4 (some .long) rX2_weightHad [.ref this, .int a1, .int a2, .int a3] S (some (.long ro)) So := by
  refine Cn.of (by decide) (Nat.le_of_ble_eq_true rfl) ?_
  intro p e s m args below meth c hC hname hR ls hl
  have hC : Cx G RX2 cX2_weightHad 4 (some .long) p s m args meth c := hC
  have hl : lv_has ls 4 [(0, .ref this), (1, .int a1), (2, .int a2), (3, .int a3)] := hl
  have hx := hC.x
  have hb := hC.b
  have hS : va_S (gA G) s.heap s.heap [] := va_S.rf
  have hE : Ex S S := Ex.rf S
  unfold f_X2_weightHad at hf
  refine lv_aload_n hx hb dX2_weightHad_0 rfl (lv_at hl 0 rfl) ?_
  obtain ⟨q1, hq2, ok_q1, hf⟩ := gR_of hf
  refine gf_RX2_11 hC hR ok_this hq2 dX2_weightHad_1 ?_
  refine lv_iconst (v := 0) hx hb dX2_weightHad_4 (by decide) ?_
  obtain ⟨hi3, hf⟩ := ck_of hf
  obtain ⟨q4, hq5, ok_q4, hf⟩ := gR_of hf
  refine r_pald (v := .ref q4) hC hR ok_q1 hi3 dX2_weightHad_5 (by rw [hq5]; rfl) ?_
  refine lv_aload_n hx hb dX2_weightHad_6 rfl (lv_at hl 0 rfl) ?_
  obtain ⟨q6, hq7, ok_q6, hf⟩ := gR_of hf
  refine gf_RX2_17 hC hR ok_this hq7 dX2_weightHad_7 ?_
  obtain ⟨S8, hc9, hf⟩ := cv_of hf
  refine cl_RX2_36 (As := [.ref q6]) (rest := []) hC hR hS (c_X3_copyFrom l G n q4 q6 S S8 hc9 ok_q4 ok_q6) ok_q4 rfl ⟨Nat.le_of_ble_eq_true rfl, Nat.le_of_ble_eq_true rfl⟩ hl.1 rfl (Nat.le_of_ble_eq_true rfl) dX2_weightHad_10 (Nat.zero_le _) (Nat.zero_le _) (fun H locs hR hS hE10 => ?_)
  have ok_this := hE10 _ _ ok_this
  have ok_q1 := hE10 _ _ ok_q1
  have ok_q4 := hE10 _ _ ok_q4
  have ok_q6 := hE10 _ _ ok_q6
  have hE := hE.tr hE10
  refine lv_aload_n hx hb dX2_weightHad_13 rfl (lv_at hl 0 rfl) ?_
  refine lv_iload_n hx hb dX2_weightHad_14 rfl (lv_at hl 1 rfl) ?_
  refine lv_iload_n hx hb dX2_weightHad_15 rfl (lv_at hl 2 rfl) ?_
  obtain ⟨S11, hc12, hf⟩ := cv_of hf
  refine cl_RX2_40 (As := [.int a1, .int a2]) (rest := []) hC hR hS (c_X2_aim l G n this a1 a2 S8 S11 hc12 ok_this) ok_this rfl ⟨Nat.le_of_ble_eq_true rfl, Nat.le_of_ble_eq_true rfl⟩ hl.1 rfl (Nat.le_of_ble_eq_true rfl) dX2_weightHad_16 (Nat.zero_le _) (Nat.zero_le _) (fun H locs hR hS hE13 => ?_)
  have ok_this := hE13 _ _ ok_this
  have ok_q1 := hE13 _ _ ok_q1
  have ok_q4 := hE13 _ _ ok_q4
  have ok_q6 := hE13 _ _ ok_q6
  have hE := hE.tr hE13
  refine lv_aload_n hx hb dX2_weightHad_19 rfl (lv_at hl 0 rfl) ?_
  refine lv_iconst (v := 0) hx hb dX2_weightHad_20 (by decide) ?_
  refine lv_iload_n hx hb dX2_weightHad_21 rfl (lv_at hl 3 rfl) ?_
  refine lv_lconst (v := 1) hx hb dX2_weightHad_22 (by decide) ?_
  obtain ⟨S14, hc15, hf⟩ := cv_of hf
  refine cl_RX2_44 (As := [.int (0 : Int32), .int a3, .long (1 : Int64)]) (rest := []) hC hR hS (c_X2_gather l G n this (0 : Int32) a3 (1 : Int64) S11 S14 hc15 ok_this) ok_this rfl ⟨Nat.le_of_ble_eq_true rfl, Nat.le_of_ble_eq_true rfl⟩ hl.1 rfl (Nat.le_of_ble_eq_true rfl) dX2_weightHad_23 (Nat.zero_le _) (Nat.zero_le _) (fun H locs hR hS hE16 => ?_)
  have ok_this := hE16 _ _ ok_this
  have ok_q1 := hE16 _ _ ok_q1
  have ok_q4 := hE16 _ _ ok_q4
  have ok_q6 := hE16 _ _ ok_q6
  have hE := hE.tr hE16
  refine lv_aload_n hx hb dX2_weightHad_26 rfl (lv_at hl 0 rfl) ?_
  refine gf_RX2_48 hC hR ok_this dX2_weightHad_27 ?_
  exact r_lret hC hR hS hE hf dX2_weightHad_30
abbrev rX8_allChances : Room := { frames := 0, cells := 0, slots := 0, locals := 0 }
def f_X8_allChances_L4 (n : Nat) (this : Nat) : Nat → Int32 → Int32 → MS → Option (Int32 × MS)
  | 0, _, _, _ => none
  | k + 1, x3, x4, S5 => jn (f_X8_allChances_L4 n this k) fun rec4_2 => (if (mI S5 this 6) ≤ x4 then some (x3, S5) else gR S5 (mR S5 this 3) 12 fun q6 => ck (inb x4 (mN S5 q6)) (bd (x3 + (mI S5 q6 x4.toNatClampNeg)) fun x9 => bd (x4 + (1 : Int32)) fun x10 => rec4_2 x9 x10 S5))
def f_X8_allChances (n : Nat) (this : Nat) (S : MS) : Option (Int32 × MS) :=
  f_X8_allChances_L4 n this n (0 : Int32) (0 : Int32) S
set_option maxRecDepth 100000 in
set_option maxHeartbeats 4000000 in
theorem c_X8_allChances (l : Launch) (G : Gx) (n : Nat) (this : Nat) (S : MS) (ro : Int32) (So : MS) (hf : f_X8_allChances n this S = some (ro, So)) (ok_this : Ok S this 8) : Cn G l yX8_allChances cX8_allChances 3 (some .int) rX8_allChances [.ref this] S (some (.int ro)) So := by
  refine Cn.of (by decide) (Nat.le_of_ble_eq_true rfl) ?_
  intro p e s m args below meth c hC hname hR ls hl
  have hC : Cx G RX8 cX8_allChances 3 (some .int) p s m args meth c := hC
  have hl : lv_has ls 3 [(0, .ref this)] := hl
  have hx := hC.x
  have hb := hC.b
  have hS : va_S (gA G) s.heap s.heap [] := va_S.rf
  have hE : Ex S S := Ex.rf S
  unfold f_X8_allChances at hf
  refine lv_iconst (v := 0) hx hb dX8_allChances_0 (by decide) ?_
  refine lv_istore_n (lv' := [(1, .int (0 : Int32)), (0, .ref this)]) hx hb dX8_allChances_1 rfl hl (by decide) rfl (fun ls hl => ?_)
  refine lv_iconst (v := 0) hx hb dX8_allChances_2 (by decide) ?_
  refine lv_istore_n (lv' := [(2, .int (0 : Int32)), (1, .int (0 : Int32)), (0, .ref this)]) hx hb dX8_allChances_3 rfl hl (by decide) rfl (fun ls hl => ?_)
  have hh11 : ∀ k : Nat, ∀ (x3 : Int32) (x4 : Int32) (S5 : MS) (H : Heap) (locs : List Loc) (ls : Array Slot), f_X8_allChances_L4 n this k x3 x4 S5 = some (ro, So) → Rp G S5 H → va_S (gA G) s.heap H locs → Ex S S5 → Ok S5 this 8 → lv_has ls 3 [(0, .ref this), (1, .int x3), (2, .int x4)] → W p l e rX8_allChances s m args below meth c H locs 0 0 (MQ below (Qn G S (some (.int ro)) So) args s 0 0 (gA G)) (F0 m 4 ls []) := by
    intro k
    induction k with
    | zero =>
      intro x3 x4 S5 H locs ls hf hR hS hE ok_this hl
      exact absurd hf (by rw [f_X8_allChances_L4]; exact fun h => by cases h)
    | succ k ih =>
      intro x3 x4 S5 H locs ls hf hR hS hE ok_this hl
      rw [f_X8_allChances_L4] at hf
      obtain ⟨rec4_2, erec4_2, hf⟩ := jn_of3 hf
      have hL4_1 : ∀ (x3 : Int32) (x4 : Int32) (S5 : MS) (H : Heap) (locs : List Loc) (ls : Array Slot), rec4_2 x3 x4 S5 = some (ro, So) → Rp G S5 H → va_S (gA G) s.heap H locs → Ex S S5 → Ok S5 this 8 → lv_has ls 3 [(0, .ref this), (1, .int x3), (2, .int x4)] → W p l e rX8_allChances s m args below meth c H locs 0 0 (MQ below (Qn G S (some (.int ro)) So) args s 0 0 (gA G)) (F0 m 4 ls []) := by
        intro x3 x4 S5 H locs ls hf hR hS hE ok_this hl
        rw [erec4_2] at hf
        exact ih x3 x4 S5 _ _ _ hf hR hS hE ok_this hl
      refine lv_iload_n hx hb dX8_allChances_4 rfl (lv_at hl 2 rfl) ?_
      refine lv_aload_n hx hb dX8_allChances_5 rfl (lv_at hl 0 rfl) ?_
      refine gf_RX8_46 hC hR ok_this dX8_allChances_6 ?_
      refine lv_icmp_ge (tgt := 27) hx hb dX8_allChances_9 (by decide) (fun hc => ?_) (fun hc => ?_)
      · replace hf := if_t hf hc
        refine lv_iload_n hx hb dX8_allChances_27 rfl (lv_at hl 1 rfl) ?_
        exact r_iret hC hR hS hE hf dX8_allChances_28
      · replace hf := if_f hf hc
        refine lv_iload_n hx hb dX8_allChances_12 rfl (lv_at hl 1 rfl) ?_
        refine lv_aload_n hx hb dX8_allChances_13 rfl (lv_at hl 0 rfl) ?_
        obtain ⟨q6, hq7, ok_q6, hf⟩ := gR_of hf
        refine gf_RX8_21 hC hR ok_this hq7 dX8_allChances_14 ?_
        refine lv_iload_n hx hb dX8_allChances_17 rfl (lv_at hl 2 rfl) ?_
        obtain ⟨hi8, hf⟩ := ck_of hf
        refine r_iald hC hR ok_q6 hi8 dX8_allChances_18 ?_
        refine lv_iadd hx hb dX8_allChances_19 ?_
        refine bdi hf (fun x9 hf => ?_)
        refine lv_istore_n (lv' := [(1, .int x9), (0, .ref this), (2, .int x4)]) hx hb dX8_allChances_20 rfl hl (by decide) rfl (fun ls hl => ?_)
        refine r_iinc (n := 1) (z := 1) (lv' := fun x10 => [(2, .int x10), (1, .int x9), (0, .ref this)]) hx hb dX8_allChances_21 hl (k := 2) rfl (by decide) (by decide) (fun _ => rfl) hf (fun x10 ls hf hl => ?_)
        refine lv_goto (tgt := 4) hx hb dX8_allChances_24 (by decide) ?_
        exact hL4_1 x9 x10 S5 _ _ _ hf hR hS hE ok_this (lv_sub hl [2, 1, 0] rfl)
  exact hh11 n (0 : Int32) (0 : Int32) S _ _ _ hf hR hS hE ok_this (lv_sub hl [2, 1, 0] rfl)
abbrev rX8_allWeight : Room := { frames := 1, cells := 0, slots := 0, locals := 22 }
def f_X8_allWeight_L5 (n : Nat) (this : Nat) (a1 : Int32) : Nat → Int64 → Int32 → MS → Option (Int64 × MS)
  | 0, _, _, _ => none
  | k + 1, x3, x4, S5 => jn (f_X8_allWeight_L5 n this a1 k) fun rec5_2 => (if a1 ≤ x4 then some (x3, S5) else cl (f_X8_allChances n this S5) fun x9 S6 => bd (x3 * (x9.toInt64)) fun x10 => bd (x4 + (1 : Int32)) fun x11 => rec5_2 x10 x11 S6)
def f_X8_allWeight (n : Nat) (this : Nat) (a1 : Int32) (S : MS) : Option (Int64 × MS) :=
  f_X8_allWeight_L5 n this a1 n (1 : Int64) (0 : Int32) S
set_option maxRecDepth 100000 in
set_option maxHeartbeats 4000000 in
theorem c_X8_allWeight (l : Launch) (G : Gx) (n : Nat) (this : Nat) (a1 : Int32) (S : MS) (ro : Int64) (So : MS) (hf : f_X8_allWeight n this a1 S = some (ro, So)) (ok_this : Ok S this 8) : Cn G l yX8_allWeight cX8_allWeight 5 (some .long) rX8_allWeight [.ref this, .int a1] S (some (.long ro)) So := by
  refine Cn.of (by decide) (Nat.le_of_ble_eq_true rfl) ?_
  intro p e s m args below meth c hC hname hR ls hl
  have hC : Cx G RX8 cX8_allWeight 5 (some .long) p s m args meth c := hC
  have hl : lv_has ls 5 [(0, .ref this), (1, .int a1)] := hl
  have hx := hC.x
  have hb := hC.b
  have hS : va_S (gA G) s.heap s.heap [] := va_S.rf
  have hE : Ex S S := Ex.rf S
  unfold f_X8_allWeight at hf
  refine lv_lconst (v := 1) hx hb dX8_allWeight_0 (by decide) ?_
  refine lv_lstore_n (lv' := [(2, .long (1 : Int64)), (0, .ref this), (1, .int a1)]) hx hb dX8_allWeight_1 rfl hl (by decide) rfl (fun ls hl => ?_)
  refine lv_iconst (v := 0) hx hb dX8_allWeight_2 (by decide) ?_
  refine lv_istore (lv' := [(4, .int (0 : Int32)), (2, .long (1 : Int64)), (0, .ref this), (1, .int a1)]) hx hb dX8_allWeight_3 hl (by decide) rfl (fun ls hl => ?_)
  have hh12 : ∀ k : Nat, ∀ (x3 : Int64) (x4 : Int32) (S5 : MS) (H : Heap) (locs : List Loc) (ls : Array Slot), f_X8_allWeight_L5 n this a1 k x3 x4 S5 = some (ro, So) → Rp G S5 H → va_S (gA G) s.heap H locs → Ex S S5 → Ok S5 this 8 → lv_has ls 5 [(0, .ref this), (1, .int a1), (2, .long x3), (4, .int x4)] → W p l e rX8_allWeight s m args below meth c H locs 0 0 (MQ below (Qn G S (some (.long ro)) So) args s 0 0 (gA G)) (F0 m 5 ls []) := by
    intro k
    induction k with
    | zero =>
      intro x3 x4 S5 H locs ls hf hR hS hE ok_this hl
      exact absurd hf (by rw [f_X8_allWeight_L5]; exact fun h => by cases h)
    | succ k ih =>
      intro x3 x4 S5 H locs ls hf hR hS hE ok_this hl
      rw [f_X8_allWeight_L5] at hf
      obtain ⟨rec5_2, erec5_2, hf⟩ := jn_of3 hf
      have hL5_1 : ∀ (x3 : Int64) (x4 : Int32) (S5 : MS) (H : Heap) (locs : List Loc) (ls : Array Slot), rec5_2 x3 x4 S5 = some (ro, So) → Rp G S5 H → va_S (gA G) s.heap H locs → Ex S S5 → Ok S5 this 8 → lv_has ls 5 [(0, .ref this), (1, .int a1), (2, .long x3), (4, .int x4)] → W p l e rX8_allWeight s m args below meth c H locs 0 0 (MQ below (Qn G S (some (.long ro)) So) args s 0 0 (gA G)) (F0 m 5 ls []) := by
        intro x3 x4 S5 H locs ls hf hR hS hE ok_this hl
        rw [erec5_2] at hf
        exact ih x3 x4 S5 _ _ _ hf hR hS hE ok_this hl
      refine lv_iload hx hb dX8_allWeight_5 (lv_at hl 3 rfl) ?_
      refine lv_iload_n hx hb dX8_allWeight_7 rfl (lv_at hl 1 rfl) ?_
      refine lv_icmp_ge (tgt := 25) hx hb dX8_allWeight_8 (by decide) (fun hc => ?_) (fun hc => ?_)
      · replace hf := if_t hf hc
        refine lv_lload_n hx hb dX8_allWeight_25 rfl (lv_at hl 2 rfl) ?_
        exact r_lret hC hR hS hE hf dX8_allWeight_26
      · replace hf := if_f hf hc
        refine lv_lload_n hx hb dX8_allWeight_11 rfl (lv_at hl 2 rfl) ?_
        refine lv_aload_n hx hb dX8_allWeight_12 rfl (lv_at hl 0 rfl) ?_
        obtain ⟨x9, S6, hc7, hf⟩ := cl_of hf
        refine cl_RX8_52 (As := []) (rest := [.long x3]) hC hR hS (c_X8_allChances l G n this S5 x9 S6 hc7 ok_this) ok_this rfl ⟨Nat.le_of_ble_eq_true rfl, Nat.le_of_ble_eq_true rfl⟩ hl.1 rfl (Nat.le_of_ble_eq_true rfl) dX8_allWeight_13 (Nat.zero_le _) (Nat.zero_le _) (fun H locs hR hS hE8 => ?_)
        have ok_this := hE8 _ _ ok_this
        have hE := hE.tr hE8
        refine lv_i2l (v := (x9.toInt64)) hx hb dX8_allWeight_16 rfl ?_
        refine lv_lmul hx hb dX8_allWeight_17 ?_
        refine bdl hf (fun x10 hf => ?_)
        refine lv_lstore_n (lv' := [(2, .long x10), (0, .ref this), (1, .int a1), (4, .int x4)]) hx hb dX8_allWeight_18 rfl hl (by decide) rfl (fun ls hl => ?_)
        refine r_iinc (n := 1) (z := 1) (lv' := fun x11 => [(4, .int x11), (2, .long x10), (0, .ref this), (1, .int a1)]) hx hb dX8_allWeight_19 hl (k := 3) rfl (by decide) (by decide) (fun _ => rfl) hf (fun x11 ls hf hl => ?_)
        refine lv_goto (tgt := 5) hx hb dX8_allWeight_22 (by decide) ?_
        exact hL5_1 x10 x11 S6 _ _ _ hf hR hS hE ok_this (lv_sub hl [2, 3, 1, 0] rfl)
  exact hh12 n (1 : Int64) (0 : Int32) S _ _ _ hf hR hS hE ok_this (lv_sub hl [2, 3, 1, 0] rfl)
abbrev rX2_meanOfTried : Room := { frames := 41, cells := 0, slots := 0, locals := 1155 }
def f_X2_meanOfTried (n : Nat) (this : Nat) (a1 : Int32) (a2 : Int32) (S : MS) : Option (Int32 × MS) :=
  gR S (mR S this 4) 8 fun q1 => cl (f_X8_allWeight n q1 a2 S) fun x6 S3 => (if (lg_cmp x6 (0 : Int64)) = 0 then some ((0 : Int32), S3) else cv (f_X2_aim n this a1 (0 : Int32) S3) fun S7 => cv (f_X2_gather n this (0 : Int32) a2 (1 : Int64) S7) fun S10 => dvl x6 (some (((((mJ S10 this 10) * (1000 : Int64)) / x6).toInt32), S10)))
set_option maxRecDepth 100000 in
set_option maxHeartbeats 4000000 in
theorem c_X2_meanOfTried (l : Launch) (G : Gx) (n : Nat) (this : Nat) (a1 : Int32) (a2 : Int32) (S : MS) (ro : Int32) (So : MS) (hf : f_X2_meanOfTried n this a1 a2 S = some (ro, So)) (ok_this : Ok S this 2) : Cn G l yX2_meanOfTried cX2_meanOfTried 5 (some .int) rX2_meanOfTried [.ref this, .int a1, .int a2] S (some (.int ro)) So := by
  refine Cn.of (by decide) (Nat.le_of_ble_eq_true rfl) ?_
  intro p e s m args below meth c hC hname hR ls hl
  have hC : Cx G RX2 cX2_meanOfTried 5 (some .int) p s m args meth c := hC
  have hl : lv_has ls 5 [(0, .ref this), (1, .int a1), (2, .int a2)] := hl
  have hx := hC.x
  have hb := hC.b
  have hS : va_S (gA G) s.heap s.heap [] := va_S.rf
  have hE : Ex S S := Ex.rf S
  unfold f_X2_meanOfTried at hf
  refine lv_aload_n hx hb dX2_meanOfTried_0 rfl (lv_at hl 0 rfl) ?_
  obtain ⟨q1, hq2, ok_q1, hf⟩ := gR_of hf
  refine gf_RX2_21 hC hR ok_this hq2 dX2_meanOfTried_1 ?_
  refine lv_iload_n hx hb dX2_meanOfTried_4 rfl (lv_at hl 2 rfl) ?_
  obtain ⟨x6, S3, hc4, hf⟩ := cl_of hf
  refine cl_RX2_79 (As := [.int a2]) (rest := []) hC hR hS (c_X8_allWeight l G n q1 a2 S x6 S3 hc4 ok_q1) ok_q1 rfl ⟨Nat.le_of_ble_eq_true rfl, Nat.le_of_ble_eq_true rfl⟩ hl.1 rfl (Nat.le_of_ble_eq_true rfl) dX2_meanOfTried_5 (Nat.zero_le _) (Nat.zero_le _) (fun H locs hR hS hE5 => ?_)
  have ok_this := hE5 _ _ ok_this
  have ok_q1 := hE5 _ _ ok_q1
  have hE := hE.tr hE5
  refine lv_lstore_n (lv' := [(3, .long x6), (0, .ref this), (1, .int a1), (2, .int a2)]) hx hb dX2_meanOfTried_8 rfl hl (by decide) rfl (fun ls hl => ?_)
  refine lv_lload_n hx hb dX2_meanOfTried_9 rfl (lv_at hl 0 rfl) ?_
  refine lv_lconst (v := 0) hx hb dX2_meanOfTried_10 (by decide) ?_
  refine W.lcmp hx hb dX2_meanOfTried_11 ?_
  refine lv_if_ne (tgt := 17) hx hb dX2_meanOfTried_12 (by decide) (fun hc => ?_) (fun hc => ?_)
  · replace hf := if_f hf hc
    refine lv_aload_n hx hb dX2_meanOfTried_17 rfl (lv_at hl 1 rfl) ?_
    refine lv_iload_n hx hb dX2_meanOfTried_18 rfl (lv_at hl 2 rfl) ?_
    refine lv_iconst (v := 0) hx hb dX2_meanOfTried_19 (by decide) ?_
    obtain ⟨S7, hc8, hf⟩ := cv_of hf
    refine cl_RX2_40 (As := [.int a1, .int (0 : Int32)]) (rest := []) hC hR hS (c_X2_aim l G n this a1 (0 : Int32) S3 S7 hc8 ok_this) ok_this rfl ⟨Nat.le_of_ble_eq_true rfl, Nat.le_of_ble_eq_true rfl⟩ hl.1 rfl (Nat.le_of_ble_eq_true rfl) dX2_meanOfTried_20 (Nat.zero_le _) (Nat.zero_le _) (fun H locs hR hS hE9 => ?_)
    have ok_this := hE9 _ _ ok_this
    have ok_q1 := hE9 _ _ ok_q1
    have hE := hE.tr hE9
    refine lv_aload_n hx hb dX2_meanOfTried_23 rfl (lv_at hl 1 rfl) ?_
    refine lv_iconst (v := 0) hx hb dX2_meanOfTried_24 (by decide) ?_
    refine lv_iload_n hx hb dX2_meanOfTried_25 rfl (lv_at hl 3 rfl) ?_
    refine lv_lconst (v := 1) hx hb dX2_meanOfTried_26 (by decide) ?_
    obtain ⟨S10, hc11, hf⟩ := cv_of hf
    refine cl_RX2_44 (As := [.int (0 : Int32), .int a2, .long (1 : Int64)]) (rest := []) hC hR hS (c_X2_gather l G n this (0 : Int32) a2 (1 : Int64) S7 S10 hc11 ok_this) ok_this rfl ⟨Nat.le_of_ble_eq_true rfl, Nat.le_of_ble_eq_true rfl⟩ hl.1 rfl (Nat.le_of_ble_eq_true rfl) dX2_meanOfTried_27 (Nat.zero_le _) (Nat.zero_le _) (fun H locs hR hS hE12 => ?_)
    have ok_this := hE12 _ _ ok_this
    have ok_q1 := hE12 _ _ ok_q1
    have hE := hE.tr hE12
    refine lv_aload_n hx hb dX2_meanOfTried_30 rfl (lv_at hl 1 rfl) ?_
    refine gf_RX2_85 hC hR ok_this dX2_meanOfTried_31 ?_
    refine lv_ldc2 (v := 1000) hx hb hC.ow (hC.ts _ (bg47 _ (List.mem_of_getElem? (i := 22) rfl))) dX2_meanOfTried_34 ?_
    refine lv_lmul hx hb dX2_meanOfTried_37 ?_
    refine lv_lload_n hx hb dX2_meanOfTried_38 rfl (lv_at hl 0 rfl) ?_
    obtain ⟨hn13, hf⟩ := dvl_of hf
    refine lv_ldiv hx hb dX2_meanOfTried_39 hn13 ?_
    refine lv_l2i (v := ((((mJ S10 this 10) * (1000 : Int64)) / x6).toInt32)) hx hb dX2_meanOfTried_40 rfl ?_
    exact r_iret hC hR hS hE hf dX2_meanOfTried_41
  · replace hf := if_t hf hc
    refine lv_iconst (v := 0) hx hb dX2_meanOfTried_15 (by decide) ?_
    exact r_iret hC hR hS hE hf dX2_meanOfTried_16
abbrev rX2_meanNow : Room := { frames := 42, cells := 0, slots := 0, locals := 1179 }
def f_X2_meanNow (n : Nat) (this : Nat) (a1 : Int32) (a2 : Int32) (S : MS) : Option (Int32 × MS) :=
  gR S (mR S this 6) 15 fun q1 => ck (inb (0 : Int32) (mN S q1)) (gR S (mR S q1 (0 : Int32).toNatClampNeg) 3 fun q4 => gR S (mR S this 3) 3 fun q6 => cv (f_X3_copyFrom n q4 q6 S) fun S8 => cl (f_X2_meanOfTried n this a1 a2 S8) fun x14 S11 => some (x14, S11))
set_option maxRecDepth 100000 in
set_option maxHeartbeats 4000000 in
theorem c_X2_meanNow (l : Launch) (G : Gx) (n : Nat) (this : Nat) (a1 : Int32) (a2 : Int32) (S : MS) (ro : Int32) (So : MS) (hf : f_X2_meanNow n this a1 a2 S = some (ro, So)) (ok_this : Ok S this 2) : Cn G l yX2_meanNow cX2_meanNow 3 (some .int) rX2_meanNow [.ref this, .int a1, .int a2] S (some (.int ro)) So := by
  refine Cn.of (by decide) (Nat.le_of_ble_eq_true rfl) ?_
  intro p e s m args below meth c hC hname hR ls hl
  have hC : Cx G RX2 cX2_meanNow 3 (some .int) p s m args meth c := hC
  have hl : lv_has ls 3 [(0, .ref this), (1, .int a1), (2, .int a2)] := hl
  have hx := hC.x
  have hb := hC.b
  have hS : va_S (gA G) s.heap s.heap [] := va_S.rf
  have hE : Ex S S := Ex.rf S
  unfold f_X2_meanNow at hf
  refine lv_aload_n hx hb dX2_meanNow_0 rfl (lv_at hl 0 rfl) ?_
  obtain ⟨q1, hq2, ok_q1, hf⟩ := gR_of hf
  refine gf_RX2_11 hC hR ok_this hq2 dX2_meanNow_1 ?_
  refine lv_iconst (v := 0) hx hb dX2_meanNow_4 (by decide) ?_
  obtain ⟨hi3, hf⟩ := ck_of hf
  obtain ⟨q4, hq5, ok_q4, hf⟩ := gR_of hf
  refine r_pald (v := .ref q4) hC hR ok_q1 hi3 dX2_meanNow_5 (by rw [hq5]; rfl) ?_
  refine lv_aload_n hx hb dX2_meanNow_6 rfl (lv_at hl 0 rfl) ?_
  obtain ⟨q6, hq7, ok_q6, hf⟩ := gR_of hf
  refine gf_RX2_17 hC hR ok_this hq7 dX2_meanNow_7 ?_
  obtain ⟨S8, hc9, hf⟩ := cv_of hf
  refine cl_RX2_36 (As := [.ref q6]) (rest := []) hC hR hS (c_X3_copyFrom l G n q4 q6 S S8 hc9 ok_q4 ok_q6) ok_q4 rfl ⟨Nat.le_of_ble_eq_true rfl, Nat.le_of_ble_eq_true rfl⟩ hl.1 rfl (Nat.le_of_ble_eq_true rfl) dX2_meanNow_10 (Nat.zero_le _) (Nat.zero_le _) (fun H locs hR hS hE10 => ?_)
  have ok_this := hE10 _ _ ok_this
  have ok_q1 := hE10 _ _ ok_q1
  have ok_q4 := hE10 _ _ ok_q4
  have ok_q6 := hE10 _ _ ok_q6
  have hE := hE.tr hE10
  refine lv_aload_n hx hb dX2_meanNow_13 rfl (lv_at hl 0 rfl) ?_
  refine lv_iload_n hx hb dX2_meanNow_14 rfl (lv_at hl 1 rfl) ?_
  refine lv_iload_n hx hb dX2_meanNow_15 rfl (lv_at hl 2 rfl) ?_
  obtain ⟨x14, S11, hc12, hf⟩ := cl_of hf
  refine cl_RX2_52 (As := [.int a1, .int a2]) (rest := []) hC hR hS (c_X2_meanOfTried l G n this a1 a2 S8 x14 S11 hc12 ok_this) ok_this rfl ⟨Nat.le_of_ble_eq_true rfl, Nat.le_of_ble_eq_true rfl⟩ hl.1 rfl (Nat.le_of_ble_eq_true rfl) dX2_meanNow_16 (Nat.zero_le _) (Nat.zero_le _) (fun H locs hR hS hE13 => ?_)
  have ok_this := hE13 _ _ ok_this
  have ok_q1 := hE13 _ _ ok_q1
  have ok_q4 := hE13 _ _ ok_q4
  have ok_q6 := hE13 _ _ ok_q6
  have hE := hE.tr hE13
  exact r_iret hC hR hS hE hf dX2_meanNow_19
abbrev rX2_keepIfBetter : Room := { frames := 0, cells := 0, slots := 0, locals := 0 }
def f_X2_keepIfBetter (_n : Nat) (this : Nat) (a1 : Int32) (a2 : Int32) (a3 : Int32) (S : MS) : Option (MS) :=
  (if a3 ≤ (mI S this 2) then some S else bd (sI S this 0 a1) fun S1 => bd (sI S1 this 1 a2) fun S3 => bd (sI S3 this 2 a3) fun S5 => some S5)
set_option maxRecDepth 100000 in
set_option maxHeartbeats 4000000 in
theorem c_X2_keepIfBetter (l : Launch) (G : Gx) (n : Nat) (this : Nat) (a1 : Int32) (a2 : Int32) (a3 : Int32) (S : MS) (So : MS) (hf : f_X2_keepIfBetter n this a1 a2 a3 S = some So) (ok_this : Ok S this 2) : Cn G l yX2_keepIfBetter cX2_keepIfBetter 4 none rX2_keepIfBetter [.ref this, .int a1, .int a2, .int a3] S none So := by
  refine Cn.of (by decide) (Nat.le_of_ble_eq_true rfl) ?_
  intro p e s m args below meth c hC hname hR ls hl
  have hC : Cx G RX2 cX2_keepIfBetter 4 none p s m args meth c := hC
  have hl : lv_has ls 4 [(0, .ref this), (1, .int a1), (2, .int a2), (3, .int a3)] := hl
  have hx := hC.x
  have hb := hC.b
  have hS : va_S (gA G) s.heap s.heap [] := va_S.rf
  have hE : Ex S S := Ex.rf S
  unfold f_X2_keepIfBetter at hf
  refine lv_iload_n hx hb dX2_keepIfBetter_0 rfl (lv_at hl 3 rfl) ?_
  refine lv_aload_n hx hb dX2_keepIfBetter_1 rfl (lv_at hl 0 rfl) ?_
  refine gf_RX2_63 hC hR ok_this dX2_keepIfBetter_2 ?_
  refine lv_icmp_le (tgt := 23) hx hb dX2_keepIfBetter_5 (by decide) (fun hc => ?_) (fun hc => ?_)
  · replace hf := if_t hf hc
    exact r_vret hC hR hS hE hf dX2_keepIfBetter_23
  · replace hf := if_f hf hc
    refine lv_aload_n hx hb dX2_keepIfBetter_8 rfl (lv_at hl 0 rfl) ?_
    refine lv_iload_n hx hb dX2_keepIfBetter_9 rfl (lv_at hl 1 rfl) ?_
    refine pf_RX2_56 hC hR hS ok_this dX2_keepIfBetter_10 hf (fun S1 H locs hf hR hS hE2 => ?_)
    have ok_this := hE2 _ _ ok_this
    have hE := hE.tr hE2
    refine lv_aload_n hx hb dX2_keepIfBetter_13 rfl (lv_at hl 0 rfl) ?_
    refine lv_iload_n hx hb dX2_keepIfBetter_14 rfl (lv_at hl 2 rfl) ?_
    refine pf_RX2_60 hC hR hS ok_this dX2_keepIfBetter_15 hf (fun S3 H locs hf hR hS hE4 => ?_)
    have ok_this := hE4 _ _ ok_this
    have hE := hE.tr hE4
    refine lv_aload_n hx hb dX2_keepIfBetter_18 rfl (lv_at hl 0 rfl) ?_
    refine lv_iload_n hx hb dX2_keepIfBetter_19 rfl (lv_at hl 3 rfl) ?_
    refine pf_RX2_63 hC hR hS ok_this dX2_keepIfBetter_20 hf (fun S5 H locs hf hR hS hE6 => ?_)
    have ok_this := hE6 _ _ ok_this
    have hE := hE.tr hE6
    exact r_vret hC hR hS hE hf dX2_keepIfBetter_23
abbrev rX3_isBone : Room := { frames := 0, cells := 0, slots := 0, locals := 0 }
def f_X3_isBone (_n : Nat) (this : Nat) (a1 : Int32) (S : MS) : Option (Int32 × MS) :=
  (if a1 < 0 then zb (0 : Int32) (some ((0 : Int32), S)) else (if (mI S this 7) ≤ a1 then zb (0 : Int32) (some ((0 : Int32), S)) else zb (1 : Int32) (some ((1 : Int32), S))))
set_option maxRecDepth 100000 in
set_option maxHeartbeats 4000000 in
theorem c_X3_isBone (l : Launch) (G : Gx) (n : Nat) (this : Nat) (a1 : Int32) (S : MS) (ro : Int32) (So : MS) (hf : f_X3_isBone n this a1 S = some (ro, So)) (ok_this : Ok S this 3) : Cn G l yX3_isBone cX3_isBone 2 (some .boolean) rX3_isBone [.ref this, .int a1] S (some (.int ro)) So := by
  refine Cn.of (by decide) (Nat.le_of_ble_eq_true rfl) ?_
  intro p e s m args below meth c hC hname hR ls hl
  have hC : Cx G RX3 cX3_isBone 2 (some .boolean) p s m args meth c := hC
  have hl : lv_has ls 2 [(0, .ref this), (1, .int a1)] := hl
  have hx := hC.x
  have hb := hC.b
  have hS : va_S (gA G) s.heap s.heap [] := va_S.rf
  have hE : Ex S S := Ex.rf S
  unfold f_X3_isBone at hf
  refine lv_iload_n hx hb dX3_isBone_0 rfl (lv_at hl 1 rfl) ?_
  refine lv_if_lt (tgt := 16) hx hb dX3_isBone_1 (by decide) (fun hc => ?_) (fun hc => ?_)
  · replace hf := if_t hf hc
    refine lv_iconst (v := 0) hx hb dX3_isBone_16 (by decide) ?_
    exact r_zret hC hR hS hE hf dX3_isBone_17
  · replace hf := if_f hf hc
    refine lv_iload_n hx hb dX3_isBone_4 rfl (lv_at hl 1 rfl) ?_
    refine lv_aload_n hx hb dX3_isBone_5 rfl (lv_at hl 0 rfl) ?_
    refine gf_RX3_57 hC hR ok_this dX3_isBone_6 ?_
    refine lv_icmp_ge (tgt := 16) hx hb dX3_isBone_9 (by decide) (fun hc => ?_) (fun hc => ?_)
    · replace hf := if_t hf hc
      refine lv_iconst (v := 0) hx hb dX3_isBone_16 (by decide) ?_
      exact r_zret hC hR hS hE hf dX3_isBone_17
    · replace hf := if_f hf hc
      refine lv_iconst (v := 1) hx hb dX3_isBone_12 (by decide) ?_
      refine lv_goto (tgt := 17) hx hb dX3_isBone_13 (by decide) ?_
      exact r_zret hC hR hS hE hf dX3_isBone_17
abbrev rX3_nightCell : Room := { frames := 2, cells := 0, slots := 0, locals := 45 }
def f_X3_nightCell (n : Nat) (this : Nat) (a1 : Int32) (a2 : Int32) (S : MS) : Option (Int32 × MS) :=
  cl (f_X3_isBone n this a1 S) fun x4 S1 => (if x4 = 0 then some ((-1 : Int32), S1) else (if a2 < 0 then some ((-1 : Int32), S1) else (if a2 ≤ (3 : Int32) then jn (fun (x7 : Int32) (S8 : MS) => jn (fun (x11 : Int32) (S12 : MS) => gR S12 (mR S12 this 0) 1 fun q13 => gR S12 (mR S12 this 1) 12 fun q15 => ck (inb a1 (mN S12 q15)) (cl (f_X1_cellBeside n q13 (mI S12 q15 a1.toNatClampNeg) x7 x11 S12) fun x21 S18 => cl (f_X3_isOpen n this x21 S18) fun x25 S22 => (if x25 = 0 then some ((-1 : Int32), S22) else some (x21, S22)))) fun j57_10 => (if a2 = (2 : Int32) then j57_10 (1 : Int32) S8 else (if a2 = 0 then j57_10 (-1 : Int32) S8 else j57_10 (0 : Int32) S8))) fun j38_6 => (if a2 = (1 : Int32) then j38_6 (1 : Int32) S1 else (if a2 = (3 : Int32) then j38_6 (-1 : Int32) S1 else j38_6 (0 : Int32) S1)) else some ((-1 : Int32), S1))))
set_option maxRecDepth 100000 in
set_option maxHeartbeats 4000000 in
theorem c_X3_nightCell (l : Launch) (G : Gx) (n : Nat) (this : Nat) (a1 : Int32) (a2 : Int32) (S : MS) (ro : Int32) (So : MS) (hf : f_X3_nightCell n this a1 a2 S = some (ro, So)) (ok_this : Ok S this 3) : Cn G l yX3_nightCell cX3_nightCell 6 (some .int) rX3_nightCell [.ref this, .int a1, .int a2] S (some (.int ro)) So := by
  refine Cn.of (by decide) (Nat.le_of_ble_eq_true rfl) ?_
  intro p e s m args below meth c hC hname hR ls hl
  have hC : Cx G RX3 cX3_nightCell 6 (some .int) p s m args meth c := hC
  have hl : lv_has ls 6 [(0, .ref this), (1, .int a1), (2, .int a2)] := hl
  have hx := hC.x
  have hb := hC.b
  have hS : va_S (gA G) s.heap s.heap [] := va_S.rf
  have hE : Ex S S := Ex.rf S
  unfold f_X3_nightCell at hf
  refine lv_aload_n hx hb dX3_nightCell_0 rfl (lv_at hl 0 rfl) ?_
  refine lv_iload_n hx hb dX3_nightCell_1 rfl (lv_at hl 1 rfl) ?_
  obtain ⟨x4, S1, hc2, hf⟩ := cl_of hf
  refine cl_RX3_110 (As := [.int a1]) (rest := []) hC hR hS (c_X3_isBone l G n this a1 S x4 S1 hc2 ok_this) ok_this rfl ⟨Nat.le_of_ble_eq_true rfl, Nat.le_of_ble_eq_true rfl⟩ hl.1 rfl (Nat.le_of_ble_eq_true rfl) dX3_nightCell_2 (Nat.zero_le _) (Nat.zero_le _) (fun H locs hR hS hE3 => ?_)
  have ok_this := hE3 _ _ ok_this
  have hE := hE.tr hE3
  refine lv_if_eq (tgt := 17) hx hb dX3_nightCell_5 (by decide) (fun hc => ?_) (fun hc => ?_)
  · replace hf := if_t hf hc
    refine lv_iconst (v := -1) hx hb dX3_nightCell_17 (by decide) ?_
    exact r_iret hC hR hS hE hf dX3_nightCell_18
  · replace hf := if_f hf hc
    refine lv_iload_n hx hb dX3_nightCell_8 rfl (lv_at hl 2 rfl) ?_
    refine lv_if_lt (tgt := 17) hx hb dX3_nightCell_9 (by decide) (fun hc => ?_) (fun hc => ?_)
    · replace hf := if_t hf hc
      refine lv_iconst (v := -1) hx hb dX3_nightCell_17 (by decide) ?_
      exact r_iret hC hR hS hE hf dX3_nightCell_18
    · replace hf := if_f hf hc
      refine lv_iload_n hx hb dX3_nightCell_12 rfl (lv_at hl 2 rfl) ?_
      refine lv_iconst (v := 3) hx hb dX3_nightCell_13 (by decide) ?_
      refine lv_icmp_le (tgt := 19) hx hb dX3_nightCell_14 (by decide) (fun hc => ?_) (fun hc => ?_)
      · replace hf := if_t hf hc
        refine lv_iload_n hx hb dX3_nightCell_19 rfl (lv_at hl 2 rfl) ?_
        refine lv_iconst (v := 1) hx hb dX3_nightCell_20 (by decide) ?_
        obtain ⟨j38_6, ej38_6, hf⟩ := jn_of2 hf
        have hj38_5 : ∀ (x7 : Int32) (S8 : MS) (H : Heap) (locs : List Loc) (ls : Array Slot), j38_6 x7 S8 = some (ro, So) → Rp G S8 H → va_S (gA G) s.heap H locs → Ex S S8 → Ok S8 this 3 → lv_has ls 6 [(0, .ref this), (1, .int a1), (2, .int a2)] → W p l e rX3_nightCell s m args below meth c H locs 0 0 (MQ below (Qn G S (some (.int ro)) So) args s 0 0 (gA G)) (F0 m 38 ls [.int x7]) := by
          intro x7 S8 H locs ls hf hR hS hE ok_this hl
          rw [ej38_6] at hf
          refine lv_istore_n (lv' := [(3, .int x7), (0, .ref this), (1, .int a1), (2, .int a2)]) hx hb dX3_nightCell_38 rfl hl (by decide) rfl (fun ls hl => ?_)
          refine lv_iload_n hx hb dX3_nightCell_39 rfl (lv_at hl 3 rfl) ?_
          refine lv_iconst (v := 2) hx hb dX3_nightCell_40 (by decide) ?_
          obtain ⟨j57_10, ej57_10, hf⟩ := jn_of2 hf
          have hj57_9 : ∀ (x11 : Int32) (S12 : MS) (H : Heap) (locs : List Loc) (ls : Array Slot), j57_10 x11 S12 = some (ro, So) → Rp G S12 H → va_S (gA G) s.heap H locs → Ex S S12 → Ok S12 this 3 → lv_has ls 6 [(0, .ref this), (1, .int a1), (3, .int x7)] → W p l e rX3_nightCell s m args below meth c H locs 0 0 (MQ below (Qn G S (some (.int ro)) So) args s 0 0 (gA G)) (F0 m 57 ls [.int x11]) := by
            intro x11 S12 H locs ls hf hR hS hE ok_this hl
            rw [ej57_10] at hf
            refine lv_istore (lv' := [(4, .int x11), (0, .ref this), (1, .int a1), (3, .int x7)]) hx hb dX3_nightCell_57 hl (by decide) rfl (fun ls hl => ?_)
            refine lv_aload_n hx hb dX3_nightCell_59 rfl (lv_at hl 1 rfl) ?_
            obtain ⟨q13, hq14, ok_q13, hf⟩ := gR_of hf
            refine gf_RX3_27 hC hR ok_this hq14 dX3_nightCell_60 ?_
            refine lv_aload_n hx hb dX3_nightCell_63 rfl (lv_at hl 1 rfl) ?_
            obtain ⟨q15, hq16, ok_q15, hf⟩ := gR_of hf
            refine gf_RX3_9 hC hR ok_this hq16 dX3_nightCell_64 ?_
            refine lv_iload_n hx hb dX3_nightCell_67 rfl (lv_at hl 2 rfl) ?_
            obtain ⟨hi17, hf⟩ := ck_of hf
            refine r_iald hC hR ok_q15 hi17 dX3_nightCell_68 ?_
            refine lv_iload_n hx hb dX3_nightCell_69 rfl (lv_at hl 3 rfl) ?_
            refine lv_iload hx hb dX3_nightCell_70 (lv_at hl 0 rfl) ?_
            obtain ⟨x21, S18, hc19, hf⟩ := cl_of hf
            refine cl_RX3_113 (As := [.int (mI S12 q15 a1.toNatClampNeg), .int x7, .int x11]) (rest := []) hC hR hS (c_X1_cellBeside l G n q13 (mI S12 q15 a1.toNatClampNeg) x7 x11 S12 x21 S18 hc19 ok_q13) ok_q13 rfl ⟨Nat.le_of_ble_eq_true rfl, Nat.le_of_ble_eq_true rfl⟩ hl.1 rfl (Nat.le_of_ble_eq_true rfl) dX3_nightCell_72 (Nat.zero_le _) (Nat.zero_le _) (fun H locs hR hS hE20 => ?_)
            have ok_this := hE20 _ _ ok_this
            have ok_q13 := hE20 _ _ ok_q13
            have ok_q15 := hE20 _ _ ok_q15
            have hE := hE.tr hE20
            refine lv_istore (lv' := [(5, .int x21), (4, .int x11), (0, .ref this), (1, .int a1), (3, .int x7)]) hx hb dX3_nightCell_75 hl (by decide) rfl (fun ls hl => ?_)
            refine lv_aload_n hx hb dX3_nightCell_77 rfl (lv_at hl 2 rfl) ?_
            refine lv_iload hx hb dX3_nightCell_78 (lv_at hl 0 rfl) ?_
            obtain ⟨x25, S22, hc23, hf⟩ := cl_of hf
            refine cl_RX3_77 (As := [.int x21]) (rest := []) hC hR hS (c_X3_isOpen l G n this x21 S18 x25 S22 hc23 ok_this) ok_this rfl ⟨Nat.le_of_ble_eq_true rfl, Nat.le_of_ble_eq_true rfl⟩ hl.1 rfl (Nat.le_of_ble_eq_true rfl) dX3_nightCell_80 (Nat.zero_le _) (Nat.zero_le _) (fun H locs hR hS hE24 => ?_)
            have ok_this := hE24 _ _ ok_this
            have ok_q13 := hE24 _ _ ok_q13
            have ok_q15 := hE24 _ _ ok_q15
            have hE := hE.tr hE24
            refine lv_if_eq (tgt := 91) hx hb dX3_nightCell_83 (by decide) (fun hc => ?_) (fun hc => ?_)
            · replace hf := if_t hf hc
              refine lv_iconst (v := -1) hx hb dX3_nightCell_91 (by decide) ?_
              exact r_iret hC hR hS hE hf dX3_nightCell_92
            · replace hf := if_f hf hc
              refine lv_iload hx hb dX3_nightCell_86 (lv_at hl 0 rfl) ?_
              refine lv_goto (tgt := 92) hx hb dX3_nightCell_88 (by decide) ?_
              exact r_iret hC hR hS hE hf dX3_nightCell_92
          refine lv_icmp_ne (tgt := 48) hx hb dX3_nightCell_41 (by decide) (fun hc => ?_) (fun hc => ?_)
          · replace hf := if_f hf hc
            refine lv_iload_n hx hb dX3_nightCell_48 rfl (lv_at hl 3 rfl) ?_
            refine lv_if_ne (tgt := 56) hx hb dX3_nightCell_49 (by decide) (fun hc => ?_) (fun hc => ?_)
            · replace hf := if_f hf hc
              refine lv_iconst (v := 0) hx hb dX3_nightCell_56 (by decide) ?_
              exact hj57_9 (0 : Int32) S8 _ _ _ hf hR hS hE ok_this (lv_sub hl [1, 2, 0] rfl)
            · replace hf := if_t hf hc
              refine lv_iconst (v := -1) hx hb dX3_nightCell_52 (by decide) ?_
              refine lv_goto (tgt := 57) hx hb dX3_nightCell_53 (by decide) ?_
              exact hj57_9 (-1 : Int32) S8 _ _ _ hf hR hS hE ok_this (lv_sub hl [1, 2, 0] rfl)
          · replace hf := if_t hf hc
            refine lv_iconst (v := 1) hx hb dX3_nightCell_44 (by decide) ?_
            refine lv_goto (tgt := 57) hx hb dX3_nightCell_45 (by decide) ?_
            exact hj57_9 (1 : Int32) S8 _ _ _ hf hR hS hE ok_this (lv_sub hl [1, 2, 0] rfl)
        refine lv_icmp_ne (tgt := 28) hx hb dX3_nightCell_21 (by decide) (fun hc => ?_) (fun hc => ?_)
        · replace hf := if_f hf hc
          refine lv_iload_n hx hb dX3_nightCell_28 rfl (lv_at hl 2 rfl) ?_
          refine lv_iconst (v := 3) hx hb dX3_nightCell_29 (by decide) ?_
          refine lv_icmp_ne (tgt := 37) hx hb dX3_nightCell_30 (by decide) (fun hc => ?_) (fun hc => ?_)
          · replace hf := if_f hf hc
            refine lv_iconst (v := 0) hx hb dX3_nightCell_37 (by decide) ?_
            exact hj38_5 (0 : Int32) S1 _ _ _ hf hR hS hE ok_this (lv_sub hl [0, 1, 2] rfl)
          · replace hf := if_t hf hc
            refine lv_iconst (v := -1) hx hb dX3_nightCell_33 (by decide) ?_
            refine lv_goto (tgt := 38) hx hb dX3_nightCell_34 (by decide) ?_
            exact hj38_5 (-1 : Int32) S1 _ _ _ hf hR hS hE ok_this (lv_sub hl [0, 1, 2] rfl)
        · replace hf := if_t hf hc
          refine lv_iconst (v := 1) hx hb dX3_nightCell_24 (by decide) ?_
          refine lv_goto (tgt := 38) hx hb dX3_nightCell_25 (by decide) ?_
          exact hj38_5 (1 : Int32) S1 _ _ _ hf hR hS hE ok_this (lv_sub hl [0, 1, 2] rfl)
      · replace hf := if_f hf hc
        refine lv_iconst (v := -1) hx hb dX3_nightCell_17 (by decide) ?_
        exact r_iret hC hR hS hE hf dX3_nightCell_18
abbrev rX2_seekNight : Room := { frames := 42, cells := 0, slots := 0, locals := 1179 }
def f_X2_seekNight_L49 (n : Nat) (this : Nat) (a1 : Int32) (a2 : Int32) (x23 : Int32) (j117_28 : MS → Option (MS)) : Nat → Int32 → MS → Option (MS)
  | 0, _, _ => none
  | k + 1, x33, S34 => jn (f_X2_seekNight_L49 n this a1 a2 x23 j117_28 k) fun rec49_32 => (if (4 : Int32) ≤ x33 then j117_28 S34 else gR S34 (mR S34 this 3) 3 fun q35 => cl (f_X3_nightCell n q35 x23 x33 S34) fun x40 S37 => jn (fun (S43 : MS) => bd (x33 + (1 : Int32)) fun x44 => rec49_32 x44 S43) fun j111_42 => (if x40 = (-1 : Int32) then j111_42 S37 else gR S37 (mR S37 this 6) 15 fun q45 => ck (inb (0 : Int32) (mN S37 q45)) (gR S37 (mR S37 q45 (0 : Int32).toNatClampNeg) 3 fun q48 => gR S37 (mR S37 this 3) 3 fun q50 => cv (f_X3_copyFrom n q48 q50 S37) fun S52 => gR S52 (mR S52 this 6) 15 fun q55 => ck (inb (0 : Int32) (mN S52 q55)) (gR S52 (mR S52 q55 (0 : Int32).toNatClampNeg) 3 fun q58 => cv (f_X3_shift n q58 x23 x40 S52) fun S60 => cl (f_X2_meanOfTried n this a1 a2 S60) fun x66 S63 => cv (f_X2_keepIfBetter n this x23 x33 x66 S63) fun S67 => j111_42 S67))))
def f_X2_seekNight_L35 (n : Nat) (this : Nat) (a1 : Int32) (a2 : Int32) : Nat → Int32 → MS → Option (MS)
  | 0, _, _ => none
  | k + 1, x23, S24 => jn (f_X2_seekNight_L35 n this a1 a2 k) fun rec35_22 => gR S24 (mR S24 this 3) 3 fun q25 => (if (mI S24 q25 7) ≤ x23 then some S24 else jn (fun (S29 : MS) => bd (x23 + (1 : Int32)) fun x30 => rec35_22 x30 S29) fun j117_28 => f_X2_seekNight_L49 n this a1 a2 x23 j117_28 n (0 : Int32) S24)
def f_X2_seekNight (n : Nat) (this : Nat) (a1 : Int32) (a2 : Int32) (S : MS) : Option (MS) :=
  bd (sI S this 0 (-1 : Int32)) fun S1 => bd (sI S1 this 1 (-1 : Int32)) fun S3 => gR S3 (mR S3 this 6) 15 fun q5 => ck (inb (0 : Int32) (mN S3 q5)) (gR S3 (mR S3 q5 (0 : Int32).toNatClampNeg) 3 fun q8 => gR S3 (mR S3 this 3) 3 fun q10 => cv (f_X3_copyFrom n q8 q10 S3) fun S12 => cl (f_X2_meanOfTried n this a1 a2 S12) fun x18 S15 => bd (sI S15 this 2 x18) fun S19 => f_X2_seekNight_L35 n this a1 a2 n (0 : Int32) S19)
set_option maxRecDepth 100000 in
set_option maxHeartbeats 4000000 in
theorem c_X2_seekNight (l : Launch) (G : Gx) (n : Nat) (this : Nat) (a1 : Int32) (a2 : Int32) (S : MS) (So : MS) (hf : f_X2_seekNight n this a1 a2 S = some So) (ok_this : Ok S this 2) : Cn G l yX2_seekNight cX2_seekNight 6 none rX2_seekNight [.ref this, .int a1, .int a2] S none So := by
  refine Cn.of (by decide) (Nat.le_of_ble_eq_true rfl) ?_
  intro p e s m args below meth c hC hname hR ls hl
  have hC : Cx G RX2 cX2_seekNight 6 none p s m args meth c := hC
  have hl : lv_has ls 6 [(0, .ref this), (1, .int a1), (2, .int a2)] := hl
  have hx := hC.x
  have hb := hC.b
  have hS : va_S (gA G) s.heap s.heap [] := va_S.rf
  have hE : Ex S S := Ex.rf S
  unfold f_X2_seekNight at hf
  refine lv_aload_n hx hb dX2_seekNight_0 rfl (lv_at hl 0 rfl) ?_
  refine lv_iconst (v := -1) hx hb dX2_seekNight_1 (by decide) ?_
  refine pf_RX2_56 hC hR hS ok_this dX2_seekNight_2 hf (fun S1 H locs hf hR hS hE2 => ?_)
  have ok_this := hE2 _ _ ok_this
  have hE := hE.tr hE2
  refine lv_aload_n hx hb dX2_seekNight_5 rfl (lv_at hl 0 rfl) ?_
  refine lv_iconst (v := -1) hx hb dX2_seekNight_6 (by decide) ?_
  refine pf_RX2_60 hC hR hS ok_this dX2_seekNight_7 hf (fun S3 H locs hf hR hS hE4 => ?_)
  have ok_this := hE4 _ _ ok_this
  have hE := hE.tr hE4
  refine lv_aload_n hx hb dX2_seekNight_10 rfl (lv_at hl 0 rfl) ?_
  obtain ⟨q5, hq6, ok_q5, hf⟩ := gR_of hf
  refine gf_RX2_11 hC hR ok_this hq6 dX2_seekNight_11 ?_
  refine lv_iconst (v := 0) hx hb dX2_seekNight_14 (by decide) ?_
  obtain ⟨hi7, hf⟩ := ck_of hf
  obtain ⟨q8, hq9, ok_q8, hf⟩ := gR_of hf
  refine r_pald (v := .ref q8) hC hR ok_q5 hi7 dX2_seekNight_15 (by rw [hq9]; rfl) ?_
  refine lv_aload_n hx hb dX2_seekNight_16 rfl (lv_at hl 0 rfl) ?_
  obtain ⟨q10, hq11, ok_q10, hf⟩ := gR_of hf
  refine gf_RX2_17 hC hR ok_this hq11 dX2_seekNight_17 ?_
  obtain ⟨S12, hc13, hf⟩ := cv_of hf
  refine cl_RX2_36 (As := [.ref q10]) (rest := []) hC hR hS (c_X3_copyFrom l G n q8 q10 S3 S12 hc13 ok_q8 ok_q10) ok_q8 rfl ⟨Nat.le_of_ble_eq_true rfl, Nat.le_of_ble_eq_true rfl⟩ hl.1 rfl (Nat.le_of_ble_eq_true rfl) dX2_seekNight_20 (Nat.zero_le _) (Nat.zero_le _) (fun H locs hR hS hE14 => ?_)
  have ok_this := hE14 _ _ ok_this
  have ok_q5 := hE14 _ _ ok_q5
  have ok_q8 := hE14 _ _ ok_q8
  have ok_q10 := hE14 _ _ ok_q10
  have hE := hE.tr hE14
  refine lv_aload_n hx hb dX2_seekNight_23 rfl (lv_at hl 0 rfl) ?_
  refine lv_aload_n hx hb dX2_seekNight_24 rfl (lv_at hl 0 rfl) ?_
  refine lv_iload_n hx hb dX2_seekNight_25 rfl (lv_at hl 1 rfl) ?_
  refine lv_iload_n hx hb dX2_seekNight_26 rfl (lv_at hl 2 rfl) ?_
  obtain ⟨x18, S15, hc16, hf⟩ := cl_of hf
  refine cl_RX2_52 (As := [.int a1, .int a2]) (rest := [.ref this]) hC hR hS (c_X2_meanOfTried l G n this a1 a2 S12 x18 S15 hc16 ok_this) ok_this rfl ⟨Nat.le_of_ble_eq_true rfl, Nat.le_of_ble_eq_true rfl⟩ hl.1 rfl (Nat.le_of_ble_eq_true rfl) dX2_seekNight_27 (Nat.zero_le _) (Nat.zero_le _) (fun H locs hR hS hE17 => ?_)
  have ok_this := hE17 _ _ ok_this
  have ok_q5 := hE17 _ _ ok_q5
  have ok_q8 := hE17 _ _ ok_q8
  have ok_q10 := hE17 _ _ ok_q10
  have hE := hE.tr hE17
  refine pf_RX2_63 hC hR hS ok_this dX2_seekNight_30 hf (fun S19 H locs hf hR hS hE20 => ?_)
  have ok_this := hE20 _ _ ok_this
  have ok_q5 := hE20 _ _ ok_q5
  have ok_q8 := hE20 _ _ ok_q8
  have ok_q10 := hE20 _ _ ok_q10
  have hE := hE.tr hE20
  refine lv_iconst (v := 0) hx hb dX2_seekNight_33 (by decide) ?_
  refine lv_istore_n (lv' := [(3, .int (0 : Int32)), (0, .ref this), (1, .int a1), (2, .int a2)]) hx hb dX2_seekNight_34 rfl hl (by decide) rfl (fun ls hl => ?_)
  have hh73 : ∀ k : Nat, ∀ (x23 : Int32) (S24 : MS) (H : Heap) (locs : List Loc) (ls : Array Slot), f_X2_seekNight_L35 n this a1 a2 k x23 S24 = some So → Rp G S24 H → va_S (gA G) s.heap H locs → Ex S S24 → Ok S24 this 2 → lv_has ls 6 [(0, .ref this), (1, .int a1), (2, .int a2), (3, .int x23)] → W p l e rX2_seekNight s m args below meth c H locs 0 0 (MQ below (Qn G S none So) args s 0 0 (gA G)) (F0 m 35 ls []) := by
    intro k
    induction k with
    | zero =>
      intro x23 S24 H locs ls hf hR hS hE ok_this hl
      exact absurd hf (by rw [f_X2_seekNight_L35]; exact fun h => by cases h)
    | succ k ih =>
      intro x23 S24 H locs ls hf hR hS hE ok_this hl
      rw [f_X2_seekNight_L35] at hf
      obtain ⟨rec35_22, erec35_22, hf⟩ := jn_of2 hf
      have hL35_21 : ∀ (x23 : Int32) (S24 : MS) (H : Heap) (locs : List Loc) (ls : Array Slot), rec35_22 x23 S24 = some So → Rp G S24 H → va_S (gA G) s.heap H locs → Ex S S24 → Ok S24 this 2 → lv_has ls 6 [(0, .ref this), (1, .int a1), (2, .int a2), (3, .int x23)] → W p l e rX2_seekNight s m args below meth c H locs 0 0 (MQ below (Qn G S none So) args s 0 0 (gA G)) (F0 m 35 ls []) := by
        intro x23 S24 H locs ls hf hR hS hE ok_this hl
        rw [erec35_22] at hf
        exact ih x23 S24 _ _ _ hf hR hS hE ok_this hl
      refine lv_iload_n hx hb dX2_seekNight_35 rfl (lv_at hl 3 rfl) ?_
      refine lv_aload_n hx hb dX2_seekNight_36 rfl (lv_at hl 0 rfl) ?_
      obtain ⟨q25, hq26, ok_q25, hf⟩ := gR_of hf
      refine gf_RX2_17 hC hR ok_this hq26 dX2_seekNight_37 ?_
      refine gf_RX2_66 hC hR ok_q25 dX2_seekNight_40 ?_
      refine lv_icmp_ge (tgt := 123) hx hb dX2_seekNight_43 (by decide) (fun hc => ?_) (fun hc => ?_)
      · replace hf := if_t hf hc
        exact r_vret hC hR hS hE hf dX2_seekNight_123
      · replace hf := if_f hf hc
        refine lv_iconst (v := 0) hx hb dX2_seekNight_46 (by decide) ?_
        refine lv_istore (lv' := [(4, .int (0 : Int32)), (0, .ref this), (1, .int a1), (2, .int a2), (3, .int x23)]) hx hb dX2_seekNight_47 hl (by decide) rfl (fun ls hl => ?_)
        obtain ⟨j117_28, ej117_28, hf⟩ := jn_of1 hf
        have hj117_27 : ∀ (S29 : MS) (H : Heap) (locs : List Loc) (ls : Array Slot), j117_28 S29 = some So → Rp G S29 H → va_S (gA G) s.heap H locs → Ex S S29 → Ok S29 this 2 → lv_has ls 6 [(0, .ref this), (1, .int a1), (2, .int a2), (3, .int x23)] → W p l e rX2_seekNight s m args below meth c H locs 0 0 (MQ below (Qn G S none So) args s 0 0 (gA G)) (F0 m 117 ls []) := by
          intro S29 H locs ls hf hR hS hE ok_this hl
          rw [ej117_28] at hf
          refine r_iinc (n := 1) (z := 1) (lv' := fun x30 => [(3, .int x30), (0, .ref this), (1, .int a1), (2, .int a2)]) hx hb dX2_seekNight_117 hl (k := 3) rfl (by decide) (by decide) (fun _ => rfl) hf (fun x30 ls hf hl => ?_)
          refine lv_goto (tgt := 35) hx hb dX2_seekNight_120 (by decide) ?_
          exact hL35_21 x30 S29 _ _ _ hf hR hS hE ok_this (lv_sub hl [1, 2, 3, 0] rfl)
        have hh71 : ∀ k : Nat, ∀ (x33 : Int32) (S34 : MS) (H : Heap) (locs : List Loc) (ls : Array Slot), f_X2_seekNight_L49 n this a1 a2 x23 j117_28 k x33 S34 = some So → Rp G S34 H → va_S (gA G) s.heap H locs → Ex S S34 → Ok S34 this 2 → lv_has ls 6 [(0, .ref this), (1, .int a1), (2, .int a2), (3, .int x23), (4, .int x33)] → W p l e rX2_seekNight s m args below meth c H locs 0 0 (MQ below (Qn G S none So) args s 0 0 (gA G)) (F0 m 49 ls []) := by
          intro k
          induction k with
          | zero =>
            intro x33 S34 H locs ls hf hR hS hE ok_this hl
            exact absurd hf (by rw [f_X2_seekNight_L49]; exact fun h => by cases h)
          | succ k ih =>
            intro x33 S34 H locs ls hf hR hS hE ok_this hl
            rw [f_X2_seekNight_L49] at hf
            obtain ⟨rec49_32, erec49_32, hf⟩ := jn_of2 hf
            have hL49_31 : ∀ (x33 : Int32) (S34 : MS) (H : Heap) (locs : List Loc) (ls : Array Slot), rec49_32 x33 S34 = some So → Rp G S34 H → va_S (gA G) s.heap H locs → Ex S S34 → Ok S34 this 2 → lv_has ls 6 [(0, .ref this), (1, .int a1), (2, .int a2), (3, .int x23), (4, .int x33)] → W p l e rX2_seekNight s m args below meth c H locs 0 0 (MQ below (Qn G S none So) args s 0 0 (gA G)) (F0 m 49 ls []) := by
              intro x33 S34 H locs ls hf hR hS hE ok_this hl
              rw [erec49_32] at hf
              exact ih x33 S34 _ _ _ hf hR hS hE ok_this hl
            refine lv_iload hx hb dX2_seekNight_49 (lv_at hl 4 rfl) ?_
            refine lv_iconst (v := 4) hx hb dX2_seekNight_51 (by decide) ?_
            refine lv_icmp_ge (tgt := 117) hx hb dX2_seekNight_52 (by decide) (fun hc => ?_) (fun hc => ?_)
            · replace hf := if_t hf hc
              exact hj117_27 S34 _ _ _ hf hR hS hE ok_this (lv_sub hl [0, 1, 2, 3] rfl)
            · replace hf := if_f hf hc
              refine lv_aload_n hx hb dX2_seekNight_55 rfl (lv_at hl 0 rfl) ?_
              obtain ⟨q35, hq36, ok_q35, hf⟩ := gR_of hf
              refine gf_RX2_17 hC hR ok_this hq36 dX2_seekNight_56 ?_
              refine lv_iload_n hx hb dX2_seekNight_59 rfl (lv_at hl 3 rfl) ?_
              refine lv_iload hx hb dX2_seekNight_60 (lv_at hl 4 rfl) ?_
              obtain ⟨x40, S37, hc38, hf⟩ := cl_of hf
              refine cl_RX2_69 (As := [.int x23, .int x33]) (rest := []) hC hR hS (c_X3_nightCell l G n q35 x23 x33 S34 x40 S37 hc38 ok_q35) ok_q35 rfl ⟨Nat.le_of_ble_eq_true rfl, Nat.le_of_ble_eq_true rfl⟩ hl.1 rfl (Nat.le_of_ble_eq_true rfl) dX2_seekNight_62 (Nat.zero_le _) (Nat.zero_le _) (fun H locs hR hS hE39 => ?_)
              have ok_this := hE39 _ _ ok_this
              have ok_q35 := hE39 _ _ ok_q35
              have hE := hE.tr hE39
              refine lv_istore (lv' := [(5, .int x40), (0, .ref this), (1, .int a1), (2, .int a2), (3, .int x23), (4, .int x33)]) hx hb dX2_seekNight_65 hl (by decide) rfl (fun ls hl => ?_)
              refine lv_iload hx hb dX2_seekNight_67 (lv_at hl 0 rfl) ?_
              refine lv_iconst (v := -1) hx hb dX2_seekNight_69 (by decide) ?_
              obtain ⟨j111_42, ej111_42, hf⟩ := jn_of1 hf
              have hj111_41 : ∀ (S43 : MS) (H : Heap) (locs : List Loc) (ls : Array Slot), j111_42 S43 = some So → Rp G S43 H → va_S (gA G) s.heap H locs → Ex S S43 → Ok S43 this 2 → lv_has ls 6 [(0, .ref this), (1, .int a1), (2, .int a2), (3, .int x23), (4, .int x33)] → W p l e rX2_seekNight s m args below meth c H locs 0 0 (MQ below (Qn G S none So) args s 0 0 (gA G)) (F0 m 111 ls []) := by
                intro S43 H locs ls hf hR hS hE ok_this hl
                rw [ej111_42] at hf
                refine r_iinc (n := 1) (z := 1) (lv' := fun x44 => [(4, .int x44), (0, .ref this), (1, .int a1), (2, .int a2), (3, .int x23)]) hx hb dX2_seekNight_111 hl (k := 4) rfl (by decide) (by decide) (fun _ => rfl) hf (fun x44 ls hf hl => ?_)
                refine lv_goto (tgt := 49) hx hb dX2_seekNight_114 (by decide) ?_
                exact hL49_31 x44 S43 _ _ _ hf hR hS hE ok_this (lv_sub hl [1, 2, 3, 4, 0] rfl)
              refine lv_icmp_eq (tgt := 111) hx hb dX2_seekNight_70 (by decide) (fun hc => ?_) (fun hc => ?_)
              · replace hf := if_t hf hc
                exact hj111_41 S37 _ _ _ hf hR hS hE ok_this (lv_sub hl [1, 2, 3, 4, 5] rfl)
              · replace hf := if_f hf hc
                refine lv_aload_n hx hb dX2_seekNight_73 rfl (lv_at hl 1 rfl) ?_
                obtain ⟨q45, hq46, ok_q45, hf⟩ := gR_of hf
                refine gf_RX2_11 hC hR ok_this hq46 dX2_seekNight_74 ?_
                refine lv_iconst (v := 0) hx hb dX2_seekNight_77 (by decide) ?_
                obtain ⟨hi47, hf⟩ := ck_of hf
                obtain ⟨q48, hq49, ok_q48, hf⟩ := gR_of hf
                refine r_pald (v := .ref q48) hC hR ok_q45 hi47 dX2_seekNight_78 (by rw [hq49]; rfl) ?_
                refine lv_aload_n hx hb dX2_seekNight_79 rfl (lv_at hl 1 rfl) ?_
                obtain ⟨q50, hq51, ok_q50, hf⟩ := gR_of hf
                refine gf_RX2_17 hC hR ok_this hq51 dX2_seekNight_80 ?_
                obtain ⟨S52, hc53, hf⟩ := cv_of hf
                refine cl_RX2_36 (As := [.ref q50]) (rest := []) hC hR hS (c_X3_copyFrom l G n q48 q50 S37 S52 hc53 ok_q48 ok_q50) ok_q48 rfl ⟨Nat.le_of_ble_eq_true rfl, Nat.le_of_ble_eq_true rfl⟩ hl.1 rfl (Nat.le_of_ble_eq_true rfl) dX2_seekNight_83 (Nat.zero_le _) (Nat.zero_le _) (fun H locs hR hS hE54 => ?_)
                have ok_this := hE54 _ _ ok_this
                have ok_q35 := hE54 _ _ ok_q35
                have ok_q45 := hE54 _ _ ok_q45
                have ok_q48 := hE54 _ _ ok_q48
                have ok_q50 := hE54 _ _ ok_q50
                have hE := hE.tr hE54
                refine lv_aload_n hx hb dX2_seekNight_86 rfl (lv_at hl 1 rfl) ?_
                obtain ⟨q55, hq56, ok_q55, hf⟩ := gR_of hf
                refine gf_RX2_11 hC hR ok_this hq56 dX2_seekNight_87 ?_
                refine lv_iconst (v := 0) hx hb dX2_seekNight_90 (by decide) ?_
                obtain ⟨hi57, hf⟩ := ck_of hf
                obtain ⟨q58, hq59, ok_q58, hf⟩ := gR_of hf
                refine r_pald (v := .ref q58) hC hR ok_q55 hi57 dX2_seekNight_91 (by rw [hq59]; rfl) ?_
                refine lv_iload_n hx hb dX2_seekNight_92 rfl (lv_at hl 4 rfl) ?_
                refine lv_iload hx hb dX2_seekNight_93 (lv_at hl 0 rfl) ?_
                obtain ⟨S60, hc61, hf⟩ := cv_of hf
                refine cl_RX2_72 (As := [.int x23, .int x40]) (rest := []) hC hR hS (c_X3_shift l G n q58 x23 x40 S52 S60 hc61 ok_q58) ok_q58 rfl ⟨Nat.le_of_ble_eq_true rfl, Nat.le_of_ble_eq_true rfl⟩ hl.1 rfl (Nat.le_of_ble_eq_true rfl) dX2_seekNight_95 (Nat.zero_le _) (Nat.zero_le _) (fun H locs hR hS hE62 => ?_)
                have ok_this := hE62 _ _ ok_this
                have ok_q35 := hE62 _ _ ok_q35
                have ok_q45 := hE62 _ _ ok_q45
                have ok_q48 := hE62 _ _ ok_q48
                have ok_q50 := hE62 _ _ ok_q50
                have ok_q55 := hE62 _ _ ok_q55
                have ok_q58 := hE62 _ _ ok_q58
                have hE := hE.tr hE62
                refine lv_aload_n hx hb dX2_seekNight_98 rfl (lv_at hl 1 rfl) ?_
                refine lv_iload_n hx hb dX2_seekNight_99 rfl (lv_at hl 4 rfl) ?_
                refine lv_iload hx hb dX2_seekNight_100 (lv_at hl 5 rfl) ?_
                refine lv_aload_n hx hb dX2_seekNight_102 rfl (lv_at hl 1 rfl) ?_
                refine lv_iload_n hx hb dX2_seekNight_103 rfl (lv_at hl 2 rfl) ?_
                refine lv_iload_n hx hb dX2_seekNight_104 rfl (lv_at hl 3 rfl) ?_
                obtain ⟨x66, S63, hc64, hf⟩ := cl_of hf
                refine cl_RX2_52 (As := [.int a1, .int a2]) (rest := [.int x33, .int x23, .ref this]) hC hR hS (c_X2_meanOfTried l G n this a1 a2 S60 x66 S63 hc64 ok_this) ok_this rfl ⟨Nat.le_of_ble_eq_true rfl, Nat.le_of_ble_eq_true rfl⟩ hl.1 rfl (Nat.le_of_ble_eq_true rfl) dX2_seekNight_105 (Nat.zero_le _) (Nat.zero_le _) (fun H locs hR hS hE65 => ?_)
                have ok_this := hE65 _ _ ok_this
                have ok_q35 := hE65 _ _ ok_q35
                have ok_q45 := hE65 _ _ ok_q45
                have ok_q48 := hE65 _ _ ok_q48
                have ok_q50 := hE65 _ _ ok_q50
                have ok_q55 := hE65 _ _ ok_q55
                have ok_q58 := hE65 _ _ ok_q58
                have hE := hE.tr hE65
                obtain ⟨S67, hc68, hf⟩ := cv_of hf
                refine cl_RX2_75 (As := [.int x23, .int x33, .int x66]) (rest := []) hC hR hS (c_X2_keepIfBetter l G n this x23 x33 x66 S63 S67 hc68 ok_this) ok_this rfl ⟨Nat.le_of_ble_eq_true rfl, Nat.le_of_ble_eq_true rfl⟩ hl.1 rfl (Nat.le_of_ble_eq_true rfl) dX2_seekNight_108 (Nat.zero_le _) (Nat.zero_le _) (fun H locs hR hS hE69 => ?_)
                have ok_this := hE69 _ _ ok_this
                have ok_q35 := hE69 _ _ ok_q35
                have ok_q45 := hE69 _ _ ok_q45
                have ok_q48 := hE69 _ _ ok_q48
                have ok_q50 := hE69 _ _ ok_q50
                have ok_q55 := hE69 _ _ ok_q55
                have ok_q58 := hE69 _ _ ok_q58
                have hE := hE.tr hE69
                exact hj111_41 S67 _ _ _ hf hR hS hE ok_this (lv_sub hl [1, 2, 3, 4, 5] rfl)
        exact hh71 n (0 : Int32) S24 _ _ _ hf hR hS hE ok_this (lv_sub hl [1, 2, 3, 4, 0] rfl)
  exact hh73 n (0 : Int32) S19 _ _ _ hf hR hS hE ok_this (lv_sub hl [1, 2, 3, 0] rfl)
abbrev rX8_isWind : Room := { frames := 0, cells := 0, slots := 0, locals := 0 }
def f_X8_isWind (_n : Nat) (this : Nat) (a1 : Int32) (S : MS) : Option (Int32 × MS) :=
  (if a1 < 0 then zb (0 : Int32) (some ((0 : Int32), S)) else (if (mI S this 6) ≤ a1 then zb (0 : Int32) (some ((0 : Int32), S)) else zb (1 : Int32) (some ((1 : Int32), S))))
set_option maxRecDepth 100000 in
set_option maxHeartbeats 4000000 in
theorem c_X8_isWind (l : Launch) (G : Gx) (n : Nat) (this : Nat) (a1 : Int32) (S : MS) (ro : Int32) (So : MS) (hf : f_X8_isWind n this a1 S = some (ro, So)) (ok_this : Ok S this 8) : Cn G l yX8_isWind cX8_isWind 2 (some .boolean) rX8_isWind [.ref this, .int a1] S (some (.int ro)) So := by
  refine Cn.of (by decide) (Nat.le_of_ble_eq_true rfl) ?_
  intro p e s m args below meth c hC hname hR ls hl
  have hC : Cx G RX8 cX8_isWind 2 (some .boolean) p s m args meth c := hC
  have hl : lv_has ls 2 [(0, .ref this), (1, .int a1)] := hl
  have hx := hC.x
  have hb := hC.b
  have hS : va_S (gA G) s.heap s.heap [] := va_S.rf
  have hE : Ex S S := Ex.rf S
  unfold f_X8_isWind at hf
  refine lv_iload_n hx hb dX8_isWind_0 rfl (lv_at hl 1 rfl) ?_
  refine lv_if_lt (tgt := 16) hx hb dX8_isWind_1 (by decide) (fun hc => ?_) (fun hc => ?_)
  · replace hf := if_t hf hc
    refine lv_iconst (v := 0) hx hb dX8_isWind_16 (by decide) ?_
    exact r_zret hC hR hS hE hf dX8_isWind_17
  · replace hf := if_f hf hc
    refine lv_iload_n hx hb dX8_isWind_4 rfl (lv_at hl 1 rfl) ?_
    refine lv_aload_n hx hb dX8_isWind_5 rfl (lv_at hl 0 rfl) ?_
    refine gf_RX8_46 hC hR ok_this dX8_isWind_6 ?_
    refine lv_icmp_ge (tgt := 16) hx hb dX8_isWind_9 (by decide) (fun hc => ?_) (fun hc => ?_)
    · replace hf := if_t hf hc
      refine lv_iconst (v := 0) hx hb dX8_isWind_16 (by decide) ?_
      exact r_zret hC hR hS hE hf dX8_isWind_17
    · replace hf := if_f hf hc
      refine lv_iconst (v := 1) hx hb dX8_isWind_12 (by decide) ?_
      refine lv_goto (tgt := 17) hx hb dX8_isWind_13 (by decide) ?_
      exact r_zret hC hR hS hE hf dX8_isWind_17
abbrev rX2_goOn : Room := { frames := 5, cells := 0, slots := 0, locals := 139 }
def f_X2_goOn (n : Nat) (this : Nat) (a1 : Int32) (S : MS) : Option (Int32 × MS) :=
  gR S (mR S this 4) 8 fun q1 => gR S (mR S this 4) 8 fun q3 => gR S (mR S q3 4) 12 fun q5 => ck (inb a1 (mN S q5)) (cl (f_X8_isWind n q1 (mI S q5 a1.toNatClampNeg) S) fun x11 S8 => (if x11 = 0 then some ((0 : Int32), S8) else gR S8 (mR S8 this 5) 9 fun q12 => gR S8 (mR S8 this 6) 15 fun q14 => ck (inb (0 : Int32) (mN S8 q14)) (gR S8 (mR S8 q14 (0 : Int32).toNatClampNeg) 3 fun q17 => gR S8 (mR S8 this 4) 8 fun q19 => gR S8 (mR S8 q19 4) 12 fun q21 => ck (inb a1 (mN S8 q21)) (cl (f_X9_blow n q12 q17 (mI S8 q21 a1.toNatClampNeg) S8) fun x27 S24 => some (x27, S24)))))
set_option maxRecDepth 100000 in
set_option maxHeartbeats 4000000 in
theorem c_X2_goOn (l : Launch) (G : Gx) (n : Nat) (this : Nat) (a1 : Int32) (S : MS) (ro : Int32) (So : MS) (hf : f_X2_goOn n this a1 S = some (ro, So)) (ok_this : Ok S this 2) : Cn G l yX2_goOn cX2_goOn 2 (some .int) rX2_goOn [.ref this, .int a1] S (some (.int ro)) So := by
  refine Cn.of (by decide) (Nat.le_of_ble_eq_true rfl) ?_
  intro p e s m args below meth c hC hname hR ls hl
  have hC : Cx G RX2 cX2_goOn 2 (some .int) p s m args meth c := hC
  have hl : lv_has ls 2 [(0, .ref this), (1, .int a1)] := hl
  have hx := hC.x
  have hb := hC.b
  have hS : va_S (gA G) s.heap s.heap [] := va_S.rf
  have hE : Ex S S := Ex.rf S
  unfold f_X2_goOn at hf
  refine lv_aload_n hx hb dX2_goOn_0 rfl (lv_at hl 0 rfl) ?_
  obtain ⟨q1, hq2, ok_q1, hf⟩ := gR_of hf
  refine gf_RX2_21 hC hR ok_this hq2 dX2_goOn_1 ?_
  refine lv_aload_n hx hb dX2_goOn_4 rfl (lv_at hl 0 rfl) ?_
  obtain ⟨q3, hq4, ok_q3, hf⟩ := gR_of hf
  refine gf_RX2_21 hC hR ok_this hq4 dX2_goOn_5 ?_
  obtain ⟨q5, hq6, ok_q5, hf⟩ := gR_of hf
  refine gf_RX2_116 hC hR ok_q3 hq6 dX2_goOn_8 ?_
  refine lv_iload_n hx hb dX2_goOn_11 rfl (lv_at hl 1 rfl) ?_
  obtain ⟨hi7, hf⟩ := ck_of hf
  refine r_iald hC hR ok_q5 hi7 dX2_goOn_12 ?_
  obtain ⟨x11, S8, hc9, hf⟩ := cl_of hf
  refine cl_RX2_119 (As := [.int (mI S q5 a1.toNatClampNeg)]) (rest := []) hC hR hS (c_X8_isWind l G n q1 (mI S q5 a1.toNatClampNeg) S x11 S8 hc9 ok_q1) ok_q1 rfl ⟨Nat.le_of_ble_eq_true rfl, Nat.le_of_ble_eq_true rfl⟩ hl.1 rfl (Nat.le_of_ble_eq_true rfl) dX2_goOn_13 (Nat.zero_le _) (Nat.zero_le _) (fun H locs hR hS hE10 => ?_)
  have ok_this := hE10 _ _ ok_this
  have ok_q1 := hE10 _ _ ok_q1
  have ok_q3 := hE10 _ _ ok_q3
  have ok_q5 := hE10 _ _ ok_q5
  have hE := hE.tr hE10
  refine lv_if_eq (tgt := 44) hx hb dX2_goOn_16 (by decide) (fun hc => ?_) (fun hc => ?_)
  · replace hf := if_t hf hc
    refine lv_iconst (v := 0) hx hb dX2_goOn_44 (by decide) ?_
    exact r_iret hC hR hS hE hf dX2_goOn_45
  · replace hf := if_f hf hc
    refine lv_aload_n hx hb dX2_goOn_19 rfl (lv_at hl 0 rfl) ?_
    obtain ⟨q12, hq13, ok_q12, hf⟩ := gR_of hf
    refine gf_RX2_25 hC hR ok_this hq13 dX2_goOn_20 ?_
    refine lv_aload_n hx hb dX2_goOn_23 rfl (lv_at hl 0 rfl) ?_
    obtain ⟨q14, hq15, ok_q14, hf⟩ := gR_of hf
    refine gf_RX2_11 hC hR ok_this hq15 dX2_goOn_24 ?_
    refine lv_iconst (v := 0) hx hb dX2_goOn_27 (by decide) ?_
    obtain ⟨hi16, hf⟩ := ck_of hf
    obtain ⟨q17, hq18, ok_q17, hf⟩ := gR_of hf
    refine r_pald (v := .ref q17) hC hR ok_q14 hi16 dX2_goOn_28 (by rw [hq18]; rfl) ?_
    refine lv_aload_n hx hb dX2_goOn_29 rfl (lv_at hl 0 rfl) ?_
    obtain ⟨q19, hq20, ok_q19, hf⟩ := gR_of hf
    refine gf_RX2_21 hC hR ok_this hq20 dX2_goOn_30 ?_
    obtain ⟨q21, hq22, ok_q21, hf⟩ := gR_of hf
    refine gf_RX2_116 hC hR ok_q19 hq22 dX2_goOn_33 ?_
    refine lv_iload_n hx hb dX2_goOn_36 rfl (lv_at hl 1 rfl) ?_
    obtain ⟨hi23, hf⟩ := ck_of hf
    refine r_iald hC hR ok_q21 hi23 dX2_goOn_37 ?_
    obtain ⟨x27, S24, hc25, hf⟩ := cl_of hf
    refine cl_RX2_110 (As := [.ref q17, .int (mI S8 q21 a1.toNatClampNeg)]) (rest := []) hC hR hS (c_X9_blow l G n q12 q17 (mI S8 q21 a1.toNatClampNeg) S8 x27 S24 hc25 ok_q12 ok_q17) ok_q12 rfl ⟨Nat.le_of_ble_eq_true rfl, Nat.le_of_ble_eq_true rfl⟩ hl.1 rfl (Nat.le_of_ble_eq_true rfl) dX2_goOn_38 (Nat.zero_le _) (Nat.zero_le _) (fun H locs hR hS hE26 => ?_)
    have ok_this := hE26 _ _ ok_this
    have ok_q1 := hE26 _ _ ok_q1
    have ok_q3 := hE26 _ _ ok_q3
    have ok_q5 := hE26 _ _ ok_q5
    have ok_q12 := hE26 _ _ ok_q12
    have ok_q14 := hE26 _ _ ok_q14
    have ok_q17 := hE26 _ _ ok_q17
    have ok_q19 := hE26 _ _ ok_q19
    have ok_q21 := hE26 _ _ ok_q21
    have hE := hE.tr hE26
    refine lv_goto (tgt := 45) hx hb dX2_goOn_41 (by decide) ?_
    exact r_iret hC hR hS hE hf dX2_goOn_45
abbrev rX3_isHad : Room := { frames := 3, cells := 0, slots := 0, locals := 74 }
def f_X3_isHad (n : Nat) (this : Nat) (a1 : Int32) (a2 : Int32) (S : MS) : Option (Int32 × MS) :=
  cl (f_X3_fieldHad n this a1 S) fun x4 S1 => (if (lg_cmp ((lush x4 a2) &&& (1 : Int64)) (0 : Int64)) = 0 then zb (0 : Int32) (some ((0 : Int32), S1)) else zb (1 : Int32) (some ((1 : Int32), S1)))
set_option maxRecDepth 100000 in
set_option maxHeartbeats 4000000 in
theorem c_X3_isHad (l : Launch) (G : Gx) (n : Nat) (this : Nat) (a1 : Int32) (a2 : Int32) (S : MS) (ro : Int32) (So : MS) (hf : f_X3_isHad n this a1 a2 S = some (ro, So)) (ok_this : Ok S this 3) : Cn G l yX3_isHad cX3_isHad 3 (some .boolean) rX3_isHad [.ref this, .int a1, .int a2] S (some (.int ro)) So := by
  refine Cn.of (by decide) (Nat.le_of_ble_eq_true rfl) ?_
  intro p e s m args below meth c hC hname hR ls hl
  have hC : Cx G RX3 cX3_isHad 3 (some .boolean) p s m args meth c := hC
  have hl : lv_has ls 3 [(0, .ref this), (1, .int a1), (2, .int a2)] := hl
  have hx := hC.x
  have hb := hC.b
  have hS : va_S (gA G) s.heap s.heap [] := va_S.rf
  have hE : Ex S S := Ex.rf S
  unfold f_X3_isHad at hf
  refine lv_aload_n hx hb dX3_isHad_0 rfl (lv_at hl 0 rfl) ?_
  refine lv_iload_n hx hb dX3_isHad_1 rfl (lv_at hl 1 rfl) ?_
  obtain ⟨x4, S1, hc2, hf⟩ := cl_of hf
  refine cl_RX3_123 (As := [.int a1]) (rest := []) hC hR hS (c_X3_fieldHad l G n this a1 S x4 S1 hc2 ok_this) ok_this rfl ⟨Nat.le_of_ble_eq_true rfl, Nat.le_of_ble_eq_true rfl⟩ hl.1 rfl (Nat.le_of_ble_eq_true rfl) dX3_isHad_2 (Nat.zero_le _) (Nat.zero_le _) (fun H locs hR hS hE3 => ?_)
  have ok_this := hE3 _ _ ok_this
  have hE := hE.tr hE3
  refine lv_iload_n hx hb dX3_isHad_5 rfl (lv_at hl 2 rfl) ?_
  refine lv_lushr (v := (lush x4 a2)) hx hb dX3_isHad_6 rfl ?_
  refine lv_lconst (v := 1) hx hb dX3_isHad_7 (by decide) ?_
  refine lv_land hx hb dX3_isHad_8 ?_
  refine lv_lconst (v := 0) hx hb dX3_isHad_9 (by decide) ?_
  refine W.lcmp hx hb dX3_isHad_10 ?_
  refine lv_if_eq (tgt := 18) hx hb dX3_isHad_11 (by decide) (fun hc => ?_) (fun hc => ?_)
  · replace hf := if_t hf hc
    refine lv_iconst (v := 0) hx hb dX3_isHad_18 (by decide) ?_
    exact r_zret hC hR hS hE hf dX3_isHad_19
  · replace hf := if_f hf hc
    refine lv_iconst (v := 1) hx hb dX3_isHad_14 (by decide) ?_
    refine lv_goto (tgt := 19) hx hb dX3_isHad_15 (by decide) ?_
    exact r_zret hC hR hS hE hf dX3_isHad_19
abbrev rX2_firstSowing : Room := { frames := 6, cells := 0, slots := 0, locals := 160 }
def f_X2_firstSowing_L87 (n : Nat) (a3 : Int32) (x23 : Int64) : Nat → Int32 → MS → Option (Int32 × MS)
  | 0, _, _ => none
  | k + 1, x27, S28 => jn (f_X2_firstSowing_L87 n a3 x23 k) fun rec87_26 => (if (40 : Int32) < (x27 + a3) then some ((-1 : Int32), S28) else (if (lg_cmp (((lush x23 x27) &&& (lush x23 (x27 + a3))) &&& (1 : Int64)) (0 : Int64)) = 0 then bd (x27 + (1 : Int32)) fun x29 => rec87_26 x29 S28 else some (x27, S28)))
def f_X2_firstSowing_L35 (n : Nat) (this : Nat) (a1 : Int32) (a2 : Int32) (a3 : Int32) (j84_22 : Int64 → MS → Option (Int32 × MS)) : Nat → Int64 → Int32 → MS → Option (Int32 × MS)
  | 0, _, _, _ => none
  | k + 1, x33, x34, S35 => jn (f_X2_firstSowing_L35 n this a1 a2 a3 j84_22 k) fun rec35_32 => (if (40 : Int32) ≤ x34 then j84_22 x33 S35 else cl (f_X2_goOn n this x34 S35) fun x39 S36 => gR S36 (mR S36 this 6) 15 fun q40 => ck (inb (0 : Int32) (mN S36 q40)) (gR S36 (mR S36 q40 (0 : Int32).toNatClampNeg) 3 fun q43 => cl (f_X3_isHad n q43 a1 a2 S36) fun x48 S45 => jn (fun (x51 : Int64) (x52 : Int64) (S53 : MS) => bd (x51 ||| x52) fun x54 => bd (x34 + (1 : Int32)) fun x55 => rec35_32 x54 x55 S53) fun j75_50 => (if x48 = 0 then j75_50 x33 (0 : Int64) S45 else j75_50 x33 (lsh (1 : Int64) (x34 + (1 : Int32))) S45)))
def f_X2_firstSowing (n : Nat) (this : Nat) (a1 : Int32) (a2 : Int32) (a3 : Int32) (S : MS) : Option (Int32 × MS) :=
  gR S (mR S this 3) 3 fun q1 => cl (f_X3_isHad n q1 a1 a2 S) fun x6 S3 => jn (fun (x9 : Int64) (S10 : MS) => gR S10 (mR S10 this 6) 15 fun q11 => ck (inb (0 : Int32) (mN S10 q11)) (gR S10 (mR S10 q11 (0 : Int32).toNatClampNeg) 3 fun q14 => gR S10 (mR S10 this 3) 3 fun q16 => cv (f_X3_copyFrom n q14 q16 S10) fun S18 => jn (fun (x23 : Int64) (S24 : MS) => f_X2_firstSowing_L87 n a3 x23 n (0 : Int32) S24) fun j84_22 => f_X2_firstSowing_L35 n this a1 a2 a3 j84_22 n x9 (0 : Int32) S18)) fun j17_8 => (if x6 = 0 then j17_8 (0 : Int64) S3 else j17_8 (1 : Int64) S3)
set_option maxRecDepth 100000 in
set_option maxHeartbeats 4000000 in
theorem c_X2_firstSowing (l : Launch) (G : Gx) (n : Nat) (this : Nat) (a1 : Int32) (a2 : Int32) (a3 : Int32) (S : MS) (ro : Int32) (So : MS) (hf : f_X2_firstSowing n this a1 a2 a3 S = some (ro, So)) (ok_this : Ok S this 2) : Cn G l yX2_firstSowing cX2_firstSowing 7 (some .int) rX2_firstSowing [.ref this, .int a1, .int a2, .int a3] S (some (.int ro)) So := by
  refine Cn.of (by decide) (Nat.le_of_ble_eq_true rfl) ?_
  intro p e s m args below meth c hC hname hR ls hl
  have hC : Cx G RX2 cX2_firstSowing 7 (some .int) p s m args meth c := hC
  have hl : lv_has ls 7 [(0, .ref this), (1, .int a1), (2, .int a2), (3, .int a3)] := hl
  have hx := hC.x
  have hb := hC.b
  have hS : va_S (gA G) s.heap s.heap [] := va_S.rf
  have hE : Ex S S := Ex.rf S
  unfold f_X2_firstSowing at hf
  refine lv_aload_n hx hb dX2_firstSowing_0 rfl (lv_at hl 0 rfl) ?_
  obtain ⟨q1, hq2, ok_q1, hf⟩ := gR_of hf
  refine gf_RX2_17 hC hR ok_this hq2 dX2_firstSowing_1 ?_
  refine lv_iload_n hx hb dX2_firstSowing_4 rfl (lv_at hl 1 rfl) ?_
  refine lv_iload_n hx hb dX2_firstSowing_5 rfl (lv_at hl 2 rfl) ?_
  obtain ⟨x6, S3, hc4, hf⟩ := cl_of hf
  refine cl_RX2_123 (As := [.int a1, .int a2]) (rest := []) hC hR hS (c_X3_isHad l G n q1 a1 a2 S x6 S3 hc4 ok_q1) ok_q1 rfl ⟨Nat.le_of_ble_eq_true rfl, Nat.le_of_ble_eq_true rfl⟩ hl.1 rfl (Nat.le_of_ble_eq_true rfl) dX2_firstSowing_6 (Nat.zero_le _) (Nat.zero_le _) (fun H locs hR hS hE5 => ?_)
  have ok_this := hE5 _ _ ok_this
  have ok_q1 := hE5 _ _ ok_q1
  have hE := hE.tr hE5
  obtain ⟨j17_8, ej17_8, hf⟩ := jn_of2 hf
  have hj17_7 : ∀ (x9 : Int64) (S10 : MS) (H : Heap) (locs : List Loc) (ls : Array Slot), j17_8 x9 S10 = some (ro, So) → Rp G S10 H → va_S (gA G) s.heap H locs → Ex S S10 → Ok S10 this 2 → lv_has ls 7 [(0, .ref this), (1, .int a1), (2, .int a2), (3, .int a3)] → W p l e rX2_firstSowing s m args below meth c H locs 0 0 (MQ below (Qn G S (some (.int ro)) So) args s 0 0 (gA G)) (F0 m 17 ls [.long x9]) := by
    intro x9 S10 H locs ls hf hR hS hE ok_this hl
    rw [ej17_8] at hf
    refine lv_lstore (lv' := [(4, .long x9), (0, .ref this), (1, .int a1), (2, .int a2), (3, .int a3)]) hx hb dX2_firstSowing_17 hl (by decide) rfl (fun ls hl => ?_)
    refine lv_aload_n hx hb dX2_firstSowing_19 rfl (lv_at hl 1 rfl) ?_
    obtain ⟨q11, hq12, ok_q11, hf⟩ := gR_of hf
    refine gf_RX2_11 hC hR ok_this hq12 dX2_firstSowing_20 ?_
    refine lv_iconst (v := 0) hx hb dX2_firstSowing_23 (by decide) ?_
    obtain ⟨hi13, hf⟩ := ck_of hf
    obtain ⟨q14, hq15, ok_q14, hf⟩ := gR_of hf
    refine r_pald (v := .ref q14) hC hR ok_q11 hi13 dX2_firstSowing_24 (by rw [hq15]; rfl) ?_
    refine lv_aload_n hx hb dX2_firstSowing_25 rfl (lv_at hl 1 rfl) ?_
    obtain ⟨q16, hq17, ok_q16, hf⟩ := gR_of hf
    refine gf_RX2_17 hC hR ok_this hq17 dX2_firstSowing_26 ?_
    obtain ⟨S18, hc19, hf⟩ := cv_of hf
    refine cl_RX2_36 (As := [.ref q16]) (rest := []) hC hR hS (c_X3_copyFrom l G n q14 q16 S10 S18 hc19 ok_q14 ok_q16) ok_q14 rfl ⟨Nat.le_of_ble_eq_true rfl, Nat.le_of_ble_eq_true rfl⟩ hl.1 rfl (Nat.le_of_ble_eq_true rfl) dX2_firstSowing_29 (Nat.zero_le _) (Nat.zero_le _) (fun H locs hR hS hE20 => ?_)
    have ok_this := hE20 _ _ ok_this
    have ok_q11 := hE20 _ _ ok_q11
    have ok_q14 := hE20 _ _ ok_q14
    have ok_q16 := hE20 _ _ ok_q16
    have hE := hE.tr hE20
    refine lv_iconst (v := 0) hx hb dX2_firstSowing_32 (by decide) ?_
    refine lv_istore (lv' := [(6, .int (0 : Int32)), (4, .long x9), (0, .ref this), (1, .int a1), (2, .int a2), (3, .int a3)]) hx hb dX2_firstSowing_33 hl (by decide) rfl (fun ls hl => ?_)
    obtain ⟨j84_22, ej84_22, hf⟩ := jn_of2 hf
    have hj84_21 : ∀ (x23 : Int64) (S24 : MS) (H : Heap) (locs : List Loc) (ls : Array Slot), j84_22 x23 S24 = some (ro, So) → Rp G S24 H → va_S (gA G) s.heap H locs → Ex S S24 → lv_has ls 7 [(3, .int a3), (4, .long x23)] → W p l e rX2_firstSowing s m args below meth c H locs 0 0 (MQ below (Qn G S (some (.int ro)) So) args s 0 0 (gA G)) (F0 m 84 ls []) := by
      intro x23 S24 H locs ls hf hR hS hE  hl
      rw [ej84_22] at hf
      refine lv_iconst (v := 0) hx hb dX2_firstSowing_84 (by decide) ?_
      refine lv_istore (lv' := [(6, .int (0 : Int32)), (3, .int a3), (4, .long x23)]) hx hb dX2_firstSowing_85 hl (by decide) rfl (fun ls hl => ?_)
      have hh30 : ∀ k : Nat, ∀ (x27 : Int32) (S28 : MS) (H : Heap) (locs : List Loc) (ls : Array Slot), f_X2_firstSowing_L87 n a3 x23 k x27 S28 = some (ro, So) → Rp G S28 H → va_S (gA G) s.heap H locs → Ex S S28 → lv_has ls 7 [(3, .int a3), (4, .long x23), (6, .int x27)] → W p l e rX2_firstSowing s m args below meth c H locs 0 0 (MQ below (Qn G S (some (.int ro)) So) args s 0 0 (gA G)) (F0 m 87 ls []) := by
        intro k
        induction k with
        | zero =>
          intro x27 S28 H locs ls hf hR hS hE  hl
          exact absurd hf (by rw [f_X2_firstSowing_L87]; exact fun h => by cases h)
        | succ k ih =>
          intro x27 S28 H locs ls hf hR hS hE  hl
          rw [f_X2_firstSowing_L87] at hf
          obtain ⟨rec87_26, erec87_26, hf⟩ := jn_of2 hf
          have hL87_25 : ∀ (x27 : Int32) (S28 : MS) (H : Heap) (locs : List Loc) (ls : Array Slot), rec87_26 x27 S28 = some (ro, So) → Rp G S28 H → va_S (gA G) s.heap H locs → Ex S S28 → lv_has ls 7 [(3, .int a3), (4, .long x23), (6, .int x27)] → W p l e rX2_firstSowing s m args below meth c H locs 0 0 (MQ below (Qn G S (some (.int ro)) So) args s 0 0 (gA G)) (F0 m 87 ls []) := by
            intro x27 S28 H locs ls hf hR hS hE  hl
            rw [erec87_26] at hf
            exact ih x27 S28 _ _ _ hf hR hS hE  hl
          refine lv_iload hx hb dX2_firstSowing_87 (lv_at hl 2 rfl) ?_
          refine lv_iload_n hx hb dX2_firstSowing_89 rfl (lv_at hl 0 rfl) ?_
          refine lv_iadd hx hb dX2_firstSowing_90 ?_
          refine lv_bipush (v := 40) hx hb dX2_firstSowing_91 (by decide) ?_
          refine lv_icmp_gt (tgt := 125) hx hb dX2_firstSowing_93 (by decide) (fun hc => ?_) (fun hc => ?_)
          · replace hf := if_t hf hc
            refine lv_iconst (v := -1) hx hb dX2_firstSowing_125 (by decide) ?_
            exact r_iret hC hR hS hE hf dX2_firstSowing_126
          · replace hf := if_f hf hc
            refine lv_lload hx hb dX2_firstSowing_96 (lv_at hl 1 rfl) ?_
            refine lv_iload hx hb dX2_firstSowing_98 (lv_at hl 2 rfl) ?_
            refine lv_lushr (v := (lush x23 x27)) hx hb dX2_firstSowing_100 rfl ?_
            refine lv_lload hx hb dX2_firstSowing_101 (lv_at hl 1 rfl) ?_
            refine lv_iload hx hb dX2_firstSowing_103 (lv_at hl 2 rfl) ?_
            refine lv_iload_n hx hb dX2_firstSowing_105 rfl (lv_at hl 0 rfl) ?_
            refine lv_iadd hx hb dX2_firstSowing_106 ?_
            refine lv_lushr (v := (lush x23 (x27 + a3))) hx hb dX2_firstSowing_107 rfl ?_
            refine lv_land hx hb dX2_firstSowing_108 ?_
            refine lv_lconst (v := 1) hx hb dX2_firstSowing_109 (by decide) ?_
            refine lv_land hx hb dX2_firstSowing_110 ?_
            refine lv_lconst (v := 0) hx hb dX2_firstSowing_111 (by decide) ?_
            refine W.lcmp hx hb dX2_firstSowing_112 ?_
            refine lv_if_eq (tgt := 119) hx hb dX2_firstSowing_113 (by decide) (fun hc => ?_) (fun hc => ?_)
            · replace hf := if_t hf hc
              refine r_iinc (n := 1) (z := 1) (lv' := fun x29 => [(6, .int x29), (3, .int a3), (4, .long x23)]) hx hb dX2_firstSowing_119 hl (k := 2) rfl (by decide) (by decide) (fun _ => rfl) hf (fun x29 ls hf hl => ?_)
              refine lv_goto (tgt := 87) hx hb dX2_firstSowing_122 (by decide) ?_
              exact hL87_25 x29 S28 _ _ _ hf hR hS hE (lv_sub hl [1, 2, 0] rfl)
            · replace hf := if_f hf hc
              refine lv_iload hx hb dX2_firstSowing_116 (lv_at hl 2 rfl) ?_
              exact r_iret hC hR hS hE hf dX2_firstSowing_118
      exact hh30 n (0 : Int32) S24 _ _ _ hf hR hS hE (lv_sub hl [1, 2, 0] rfl)
    have hh59 : ∀ k : Nat, ∀ (x33 : Int64) (x34 : Int32) (S35 : MS) (H : Heap) (locs : List Loc) (ls : Array Slot), f_X2_firstSowing_L35 n this a1 a2 a3 j84_22 k x33 x34 S35 = some (ro, So) → Rp G S35 H → va_S (gA G) s.heap H locs → Ex S S35 → Ok S35 this 2 → lv_has ls 7 [(0, .ref this), (1, .int a1), (2, .int a2), (3, .int a3), (4, .long x33), (6, .int x34)] → W p l e rX2_firstSowing s m args below meth c H locs 0 0 (MQ below (Qn G S (some (.int ro)) So) args s 0 0 (gA G)) (F0 m 35 ls []) := by
      intro k
      induction k with
      | zero =>
        intro x33 x34 S35 H locs ls hf hR hS hE ok_this hl
        exact absurd hf (by rw [f_X2_firstSowing_L35]; exact fun h => by cases h)
      | succ k ih =>
        intro x33 x34 S35 H locs ls hf hR hS hE ok_this hl
        rw [f_X2_firstSowing_L35] at hf
        obtain ⟨rec35_32, erec35_32, hf⟩ := jn_of3 hf
        have hL35_31 : ∀ (x33 : Int64) (x34 : Int32) (S35 : MS) (H : Heap) (locs : List Loc) (ls : Array Slot), rec35_32 x33 x34 S35 = some (ro, So) → Rp G S35 H → va_S (gA G) s.heap H locs → Ex S S35 → Ok S35 this 2 → lv_has ls 7 [(0, .ref this), (1, .int a1), (2, .int a2), (3, .int a3), (4, .long x33), (6, .int x34)] → W p l e rX2_firstSowing s m args below meth c H locs 0 0 (MQ below (Qn G S (some (.int ro)) So) args s 0 0 (gA G)) (F0 m 35 ls []) := by
          intro x33 x34 S35 H locs ls hf hR hS hE ok_this hl
          rw [erec35_32] at hf
          exact ih x33 x34 S35 _ _ _ hf hR hS hE ok_this hl
        refine lv_iload hx hb dX2_firstSowing_35 (lv_at hl 5 rfl) ?_
        refine lv_bipush (v := 40) hx hb dX2_firstSowing_37 (by decide) ?_
        refine lv_icmp_ge (tgt := 84) hx hb dX2_firstSowing_39 (by decide) (fun hc => ?_) (fun hc => ?_)
        · replace hf := if_t hf hc
          exact hj84_21 x33 S35 _ _ _ hf hR hS hE (lv_sub hl [3, 4] rfl)
        · replace hf := if_f hf hc
          refine lv_aload_n hx hb dX2_firstSowing_42 rfl (lv_at hl 0 rfl) ?_
          refine lv_iload hx hb dX2_firstSowing_43 (lv_at hl 5 rfl) ?_
          obtain ⟨x39, S36, hc37, hf⟩ := cl_of hf
          refine cl_RX2_127 (As := [.int x34]) (rest := []) hC hR hS (c_X2_goOn l G n this x34 S35 x39 S36 hc37 ok_this) ok_this rfl ⟨Nat.le_of_ble_eq_true rfl, Nat.le_of_ble_eq_true rfl⟩ hl.1 rfl (Nat.le_of_ble_eq_true rfl) dX2_firstSowing_45 (Nat.zero_le _) (Nat.zero_le _) (fun H locs hR hS hE38 => ?_)
          have ok_this := hE38 _ _ ok_this
          have hE := hE.tr hE38
          refine lv_pop hx hb dX2_firstSowing_48 rfl ?_
          refine lv_lload hx hb dX2_firstSowing_49 (lv_at hl 4 rfl) ?_
          refine lv_aload_n hx hb dX2_firstSowing_51 rfl (lv_at hl 0 rfl) ?_
          obtain ⟨q40, hq41, ok_q40, hf⟩ := gR_of hf
          refine gf_RX2_11 hC hR ok_this hq41 dX2_firstSowing_52 ?_
          refine lv_iconst (v := 0) hx hb dX2_firstSowing_55 (by decide) ?_
          obtain ⟨hi42, hf⟩ := ck_of hf
          obtain ⟨q43, hq44, ok_q43, hf⟩ := gR_of hf
          refine r_pald (v := .ref q43) hC hR ok_q40 hi42 dX2_firstSowing_56 (by rw [hq44]; rfl) ?_
          refine lv_iload_n hx hb dX2_firstSowing_57 rfl (lv_at hl 1 rfl) ?_
          refine lv_iload_n hx hb dX2_firstSowing_58 rfl (lv_at hl 2 rfl) ?_
          obtain ⟨x48, S45, hc46, hf⟩ := cl_of hf
          refine cl_RX2_123 (As := [.int a1, .int a2]) (rest := [.long x33]) hC hR hS (c_X3_isHad l G n q43 a1 a2 S36 x48 S45 hc46 ok_q43) ok_q43 rfl ⟨Nat.le_of_ble_eq_true rfl, Nat.le_of_ble_eq_true rfl⟩ hl.1 rfl (Nat.le_of_ble_eq_true rfl) dX2_firstSowing_59 (Nat.zero_le _) (Nat.zero_le _) (fun H locs hR hS hE47 => ?_)
          have ok_this := hE47 _ _ ok_this
          have ok_q40 := hE47 _ _ ok_q40
          have ok_q43 := hE47 _ _ ok_q43
          have hE := hE.tr hE47
          obtain ⟨j75_50, ej75_50, hf⟩ := jn_of3 hf
          have hj75_49 : ∀ (x51 : Int64) (x52 : Int64) (S53 : MS) (H : Heap) (locs : List Loc) (ls : Array Slot), j75_50 x51 x52 S53 = some (ro, So) → Rp G S53 H → va_S (gA G) s.heap H locs → Ex S S53 → Ok S53 this 2 → lv_has ls 7 [(0, .ref this), (1, .int a1), (2, .int a2), (3, .int a3), (6, .int x34)] → W p l e rX2_firstSowing s m args below meth c H locs 0 0 (MQ below (Qn G S (some (.int ro)) So) args s 0 0 (gA G)) (F0 m 75 ls [.long x52, .long x51]) := by
            intro x51 x52 S53 H locs ls hf hR hS hE ok_this hl
            rw [ej75_50] at hf
            refine lv_lor hx hb dX2_firstSowing_75 ?_
            refine bdl hf (fun x54 hf => ?_)
            refine lv_lstore (lv' := [(4, .long x54), (0, .ref this), (1, .int a1), (2, .int a2), (3, .int a3), (6, .int x34)]) hx hb dX2_firstSowing_76 hl (by decide) rfl (fun ls hl => ?_)
            refine r_iinc (n := 1) (z := 1) (lv' := fun x55 => [(6, .int x55), (4, .long x54), (0, .ref this), (1, .int a1), (2, .int a2), (3, .int a3)]) hx hb dX2_firstSowing_78 hl (k := 5) rfl (by decide) (by decide) (fun _ => rfl) hf (fun x55 ls hf hl => ?_)
            refine lv_goto (tgt := 35) hx hb dX2_firstSowing_81 (by decide) ?_
            exact hL35_31 x54 x55 S53 _ _ _ hf hR hS hE ok_this (lv_sub hl [2, 3, 4, 5, 1, 0] rfl)
          refine lv_if_eq (tgt := 74) hx hb dX2_firstSowing_62 (by decide) (fun hc => ?_) (fun hc => ?_)
          · replace hf := if_t hf hc
            refine lv_lconst (v := 0) hx hb dX2_firstSowing_74 (by decide) ?_
            exact hj75_49 x33 (0 : Int64) S45 _ _ _ hf hR hS hE ok_this (lv_sub hl [0, 1, 2, 3, 5] rfl)
          · replace hf := if_f hf hc
            refine lv_lconst (v := 1) hx hb dX2_firstSowing_65 (by decide) ?_
            refine lv_iload hx hb dX2_firstSowing_66 (lv_at hl 5 rfl) ?_
            refine lv_iconst (v := 1) hx hb dX2_firstSowing_68 (by decide) ?_
            refine lv_iadd hx hb dX2_firstSowing_69 ?_
            refine lv_lshl (v := (lsh (1 : Int64) (x34 + (1 : Int32)))) hx hb dX2_firstSowing_70 rfl ?_
            refine lv_goto (tgt := 75) hx hb dX2_firstSowing_71 (by decide) ?_
            exact hj75_49 x33 (lsh (1 : Int64) (x34 + (1 : Int32))) S45 _ _ _ hf hR hS hE ok_this (lv_sub hl [0, 1, 2, 3, 5] rfl)
    exact hh59 n x9 (0 : Int32) S18 _ _ _ hf hR hS hE ok_this (lv_sub hl [2, 3, 4, 5, 1, 0] rfl)
  refine lv_if_eq (tgt := 16) hx hb dX2_firstSowing_9 (by decide) (fun hc => ?_) (fun hc => ?_)
  · replace hf := if_t hf hc
    refine lv_lconst (v := 0) hx hb dX2_firstSowing_16 (by decide) ?_
    exact hj17_7 (0 : Int64) S3 _ _ _ hf hR hS hE ok_this (lv_sub hl [0, 1, 2, 3] rfl)
  · replace hf := if_f hf hc
    refine lv_lconst (v := 1) hx hb dX2_firstSowing_12 (by decide) ?_
    refine lv_goto (tgt := 17) hx hb dX2_firstSowing_13 (by decide) ?_
    exact hj17_7 (1 : Int64) S3 _ _ _ hf hR hS hE ok_this (lv_sub hl [0, 1, 2, 3] rfl)
abbrev rX2_isKept : Room := { frames := 6, cells := 0, slots := 0, locals := 160 }
def f_X2_isKept_L3 (n : Nat) (this : Nat) (a1 : Int32) (a2 : Int32) (a3 : Int32) : Nat → Int32 → MS → Option (Int32 × MS)
  | 0, _, _ => none
  | k + 1, x3, S4 => jn (f_X2_isKept_L3 n this a1 a2 a3 k) fun rec3_2 => (if a3 ≤ x3 then zb (1 : Int32) (some ((1 : Int32), S4)) else cl (f_X2_goOn n this x3 S4) fun x8 S5 => gR S5 (mR S5 this 6) 15 fun q9 => ck (inb (0 : Int32) (mN S5 q9)) (gR S5 (mR S5 q9 (0 : Int32).toNatClampNeg) 3 fun q12 => cl (f_X3_isHad n q12 a1 a2 S5) fun x17 S14 => (if x17 = 0 then zb (0 : Int32) (some ((0 : Int32), S14)) else bd (x3 + (1 : Int32)) fun x18 => rec3_2 x18 S14)))
def f_X2_isKept (n : Nat) (this : Nat) (a1 : Int32) (a2 : Int32) (a3 : Int32) (S : MS) : Option (Int32 × MS) :=
  f_X2_isKept_L3 n this a1 a2 a3 n (0 : Int32) S
set_option maxRecDepth 100000 in
set_option maxHeartbeats 4000000 in
theorem c_X2_isKept (l : Launch) (G : Gx) (n : Nat) (this : Nat) (a1 : Int32) (a2 : Int32) (a3 : Int32) (S : MS) (ro : Int32) (So : MS) (hf : f_X2_isKept n this a1 a2 a3 S = some (ro, So)) (ok_this : Ok S this 2) : Cn G l yX2_isKept cX2_isKept 5 (some .boolean) rX2_isKept [.ref this, .int a1, .int a2, .int a3] S (some (.int ro)) So := by
  refine Cn.of (by decide) (Nat.le_of_ble_eq_true rfl) ?_
  intro p e s m args below meth c hC hname hR ls hl
  have hC : Cx G RX2 cX2_isKept 5 (some .boolean) p s m args meth c := hC
  have hl : lv_has ls 5 [(0, .ref this), (1, .int a1), (2, .int a2), (3, .int a3)] := hl
  have hx := hC.x
  have hb := hC.b
  have hS : va_S (gA G) s.heap s.heap [] := va_S.rf
  have hE : Ex S S := Ex.rf S
  unfold f_X2_isKept at hf
  refine lv_iconst (v := 0) hx hb dX2_isKept_0 (by decide) ?_
  refine lv_istore (lv' := [(4, .int (0 : Int32)), (0, .ref this), (1, .int a1), (2, .int a2), (3, .int a3)]) hx hb dX2_isKept_1 hl (by decide) rfl (fun ls hl => ?_)
  have hh19 : ∀ k : Nat, ∀ (x3 : Int32) (S4 : MS) (H : Heap) (locs : List Loc) (ls : Array Slot), f_X2_isKept_L3 n this a1 a2 a3 k x3 S4 = some (ro, So) → Rp G S4 H → va_S (gA G) s.heap H locs → Ex S S4 → Ok S4 this 2 → lv_has ls 5 [(0, .ref this), (1, .int a1), (2, .int a2), (3, .int a3), (4, .int x3)] → W p l e rX2_isKept s m args below meth c H locs 0 0 (MQ below (Qn G S (some (.int ro)) So) args s 0 0 (gA G)) (F0 m 3 ls []) := by
    intro k
    induction k with
    | zero =>
      intro x3 S4 H locs ls hf hR hS hE ok_this hl
      exact absurd hf (by rw [f_X2_isKept_L3]; exact fun h => by cases h)
    | succ k ih =>
      intro x3 S4 H locs ls hf hR hS hE ok_this hl
      rw [f_X2_isKept_L3] at hf
      obtain ⟨rec3_2, erec3_2, hf⟩ := jn_of2 hf
      have hL3_1 : ∀ (x3 : Int32) (S4 : MS) (H : Heap) (locs : List Loc) (ls : Array Slot), rec3_2 x3 S4 = some (ro, So) → Rp G S4 H → va_S (gA G) s.heap H locs → Ex S S4 → Ok S4 this 2 → lv_has ls 5 [(0, .ref this), (1, .int a1), (2, .int a2), (3, .int a3), (4, .int x3)] → W p l e rX2_isKept s m args below meth c H locs 0 0 (MQ below (Qn G S (some (.int ro)) So) args s 0 0 (gA G)) (F0 m 3 ls []) := by
        intro x3 S4 H locs ls hf hR hS hE ok_this hl
        rw [erec3_2] at hf
        exact ih x3 S4 _ _ _ hf hR hS hE ok_this hl
      refine lv_iload hx hb dX2_isKept_3 (lv_at hl 4 rfl) ?_
      refine lv_iload_n hx hb dX2_isKept_5 rfl (lv_at hl 3 rfl) ?_
      refine lv_icmp_ge (tgt := 38) hx hb dX2_isKept_6 (by decide) (fun hc => ?_) (fun hc => ?_)
      · replace hf := if_t hf hc
        refine lv_iconst (v := 1) hx hb dX2_isKept_38 (by decide) ?_
        exact r_zret hC hR hS hE hf dX2_isKept_39
      · replace hf := if_f hf hc
        refine lv_aload_n hx hb dX2_isKept_9 rfl (lv_at hl 0 rfl) ?_
        refine lv_iload hx hb dX2_isKept_10 (lv_at hl 4 rfl) ?_
        obtain ⟨x8, S5, hc6, hf⟩ := cl_of hf
        refine cl_RX2_127 (As := [.int x3]) (rest := []) hC hR hS (c_X2_goOn l G n this x3 S4 x8 S5 hc6 ok_this) ok_this rfl ⟨Nat.le_of_ble_eq_true rfl, Nat.le_of_ble_eq_true rfl⟩ hl.1 rfl (Nat.le_of_ble_eq_true rfl) dX2_isKept_12 (Nat.zero_le _) (Nat.zero_le _) (fun H locs hR hS hE7 => ?_)
        have ok_this := hE7 _ _ ok_this
        have hE := hE.tr hE7
        refine lv_pop hx hb dX2_isKept_15 rfl ?_
        refine lv_aload_n hx hb dX2_isKept_16 rfl (lv_at hl 0 rfl) ?_
        obtain ⟨q9, hq10, ok_q9, hf⟩ := gR_of hf
        refine gf_RX2_11 hC hR ok_this hq10 dX2_isKept_17 ?_
        refine lv_iconst (v := 0) hx hb dX2_isKept_20 (by decide) ?_
        obtain ⟨hi11, hf⟩ := ck_of hf
        obtain ⟨q12, hq13, ok_q12, hf⟩ := gR_of hf
        refine r_pald (v := .ref q12) hC hR ok_q9 hi11 dX2_isKept_21 (by rw [hq13]; rfl) ?_
        refine lv_iload_n hx hb dX2_isKept_22 rfl (lv_at hl 1 rfl) ?_
        refine lv_iload_n hx hb dX2_isKept_23 rfl (lv_at hl 2 rfl) ?_
        obtain ⟨x17, S14, hc15, hf⟩ := cl_of hf
        refine cl_RX2_123 (As := [.int a1, .int a2]) (rest := []) hC hR hS (c_X3_isHad l G n q12 a1 a2 S5 x17 S14 hc15 ok_q12) ok_q12 rfl ⟨Nat.le_of_ble_eq_true rfl, Nat.le_of_ble_eq_true rfl⟩ hl.1 rfl (Nat.le_of_ble_eq_true rfl) dX2_isKept_24 (Nat.zero_le _) (Nat.zero_le _) (fun H locs hR hS hE16 => ?_)
        have ok_this := hE16 _ _ ok_this
        have ok_q9 := hE16 _ _ ok_q9
        have ok_q12 := hE16 _ _ ok_q12
        have hE := hE.tr hE16
        refine lv_if_ne (tgt := 32) hx hb dX2_isKept_27 (by decide) (fun hc => ?_) (fun hc => ?_)
        · replace hf := if_f hf hc
          refine r_iinc (n := 1) (z := 1) (lv' := fun x18 => [(4, .int x18), (0, .ref this), (1, .int a1), (2, .int a2), (3, .int a3)]) hx hb dX2_isKept_32 hl (k := 4) rfl (by decide) (by decide) (fun _ => rfl) hf (fun x18 ls hf hl => ?_)
          refine lv_goto (tgt := 3) hx hb dX2_isKept_35 (by decide) ?_
          exact hL3_1 x18 S14 _ _ _ hf hR hS hE ok_this (lv_sub hl [1, 2, 3, 4, 0] rfl)
        · replace hf := if_t hf hc
          refine lv_iconst (v := 0) hx hb dX2_isKept_30 (by decide) ?_
          exact r_zret hC hR hS hE hf dX2_isKept_31
  exact hh19 n (0 : Int32) S _ _ _ hf hR hS hE ok_this (lv_sub hl [1, 2, 3, 4, 0] rfl)
abbrev rX2_leastMore : Room := { frames := 7, cells := 0, slots := 0, locals := 184 }
def f_X2_leastMore_L11 (n : Nat) (this : Nat) (a1 : Int32) (a2 : Int32) (a3 : Int32) (a4 : Int32) : Nat → Int32 → MS → Option (Int32 × MS)
  | 0, _, _ => none
  | k + 1, x9, S10 => jn (f_X2_leastMore_L11 n this a1 a2 a3 a4 k) fun rec11_8 => (if (99 : Int32) < x9 then some ((-1 : Int32), S10) else gR S10 (mR S10 this 6) 15 fun q11 => ck (inb (0 : Int32) (mN S10 q11)) (gR S10 (mR S10 q11 (0 : Int32).toNatClampNeg) 3 fun q14 => gR S10 (mR S10 this 3) 3 fun q16 => cv (f_X3_copyFrom n q14 q16 S10) fun S18 => gR S18 (mR S18 this 6) 15 fun q21 => ck (inb (0 : Int32) (mN S18 q21)) (gR S18 (mR S18 q21 (0 : Int32).toNatClampNeg) 3 fun q24 => gR S18 (mR S18 q24 2) 12 fun q26 => ck (inb a3 (mN S18 q26)) (bd (sI S18 q26 a3.toNatClampNeg x9) fun S29 => cl (f_X2_isKept n this a1 a2 a4 S29) fun x34 S31 => (if x34 = 0 then bd (x9 + (1 : Int32)) fun x35 => rec11_8 x35 S31 else gR S31 (mR S31 this 3) 3 fun q36 => gR S31 (mR S31 q36 2) 12 fun q38 => ck (inb a3 (mN S31 q38)) (some ((x9 - (mI S31 q38 a3.toNatClampNeg)), S31)))))))
def f_X2_leastMore (n : Nat) (this : Nat) (a1 : Int32) (a2 : Int32) (a3 : Int32) (a4 : Int32) (S : MS) : Option (Int32 × MS) :=
  gR S (mR S this 3) 3 fun q1 => gR S (mR S q1 2) 12 fun q3 => ck (inb a3 (mN S q3)) (bd (mI S q3 a3.toNatClampNeg) fun x6 => f_X2_leastMore_L11 n this a1 a2 a3 a4 n x6 S)
set_option maxRecDepth 100000 in
set_option maxHeartbeats 4000000 in
theorem c_X2_leastMore (l : Launch) (G : Gx) (n : Nat) (this : Nat) (a1 : Int32) (a2 : Int32) (a3 : Int32) (a4 : Int32) (S : MS) (ro : Int32) (So : MS) (hf : f_X2_leastMore n this a1 a2 a3 a4 S = some (ro, So)) (ok_this : Ok S this 2) : Cn G l yX2_leastMore cX2_leastMore 6 (some .int) rX2_leastMore [.ref this, .int a1, .int a2, .int a3, .int a4] S (some (.int ro)) So := by
  refine Cn.of (by decide) (Nat.le_of_ble_eq_true rfl) ?_
  intro p e s m args below meth c hC hname hR ls hl
  have hC : Cx G RX2 cX2_leastMore 6 (some .int) p s m args meth c := hC
  have hl : lv_has ls 6 [(0, .ref this), (1, .int a1), (2, .int a2), (3, .int a3), (4, .int a4)] := hl
  have hx := hC.x
  have hb := hC.b
  have hS : va_S (gA G) s.heap s.heap [] := va_S.rf
  have hE : Ex S S := Ex.rf S
  unfold f_X2_leastMore at hf
  refine lv_aload_n hx hb dX2_leastMore_0 rfl (lv_at hl 0 rfl) ?_
  obtain ⟨q1, hq2, ok_q1, hf⟩ := gR_of hf
  refine gf_RX2_17 hC hR ok_this hq2 dX2_leastMore_1 ?_
  obtain ⟨q3, hq4, ok_q3, hf⟩ := gR_of hf
  refine gf_RX2_131 hC hR ok_q1 hq4 dX2_leastMore_4 ?_
  refine lv_iload_n hx hb dX2_leastMore_7 rfl (lv_at hl 3 rfl) ?_
  obtain ⟨hi5, hf⟩ := ck_of hf
  refine r_iald hC hR ok_q3 hi5 dX2_leastMore_8 ?_
  refine bdi hf (fun x6 hf => ?_)
  refine lv_istore (lv' := [(5, .int x6), (0, .ref this), (1, .int a1), (2, .int a2), (3, .int a3), (4, .int a4)]) hx hb dX2_leastMore_9 hl (by decide) rfl (fun ls hl => ?_)
  have hh41 : ∀ k : Nat, ∀ (x9 : Int32) (S10 : MS) (H : Heap) (locs : List Loc) (ls : Array Slot), f_X2_leastMore_L11 n this a1 a2 a3 a4 k x9 S10 = some (ro, So) → Rp G S10 H → va_S (gA G) s.heap H locs → Ex S S10 → Ok S10 this 2 → lv_has ls 6 [(0, .ref this), (1, .int a1), (2, .int a2), (3, .int a3), (4, .int a4), (5, .int x9)] → W p l e rX2_leastMore s m args below meth c H locs 0 0 (MQ below (Qn G S (some (.int ro)) So) args s 0 0 (gA G)) (F0 m 11 ls []) := by
    intro k
    induction k with
    | zero =>
      intro x9 S10 H locs ls hf hR hS hE ok_this hl
      exact absurd hf (by rw [f_X2_leastMore_L11]; exact fun h => by cases h)
    | succ k ih =>
      intro x9 S10 H locs ls hf hR hS hE ok_this hl
      rw [f_X2_leastMore_L11] at hf
      obtain ⟨rec11_8, erec11_8, hf⟩ := jn_of2 hf
      have hL11_7 : ∀ (x9 : Int32) (S10 : MS) (H : Heap) (locs : List Loc) (ls : Array Slot), rec11_8 x9 S10 = some (ro, So) → Rp G S10 H → va_S (gA G) s.heap H locs → Ex S S10 → Ok S10 this 2 → lv_has ls 6 [(0, .ref this), (1, .int a1), (2, .int a2), (3, .int a3), (4, .int a4), (5, .int x9)] → W p l e rX2_leastMore s m args below meth c H locs 0 0 (MQ below (Qn G S (some (.int ro)) So) args s 0 0 (gA G)) (F0 m 11 ls []) := by
        intro x9 S10 H locs ls hf hR hS hE ok_this hl
        rw [erec11_8] at hf
        exact ih x9 S10 _ _ _ hf hR hS hE ok_this hl
      refine lv_iload hx hb dX2_leastMore_11 (lv_at hl 5 rfl) ?_
      refine lv_bipush (v := 99) hx hb dX2_leastMore_13 (by decide) ?_
      refine lv_icmp_gt (tgt := 74) hx hb dX2_leastMore_15 (by decide) (fun hc => ?_) (fun hc => ?_)
      · replace hf := if_t hf hc
        refine lv_iconst (v := -1) hx hb dX2_leastMore_74 (by decide) ?_
        exact r_iret hC hR hS hE hf dX2_leastMore_75
      · replace hf := if_f hf hc
        refine lv_aload_n hx hb dX2_leastMore_18 rfl (lv_at hl 0 rfl) ?_
        obtain ⟨q11, hq12, ok_q11, hf⟩ := gR_of hf
        refine gf_RX2_11 hC hR ok_this hq12 dX2_leastMore_19 ?_
        refine lv_iconst (v := 0) hx hb dX2_leastMore_22 (by decide) ?_
        obtain ⟨hi13, hf⟩ := ck_of hf
        obtain ⟨q14, hq15, ok_q14, hf⟩ := gR_of hf
        refine r_pald (v := .ref q14) hC hR ok_q11 hi13 dX2_leastMore_23 (by rw [hq15]; rfl) ?_
        refine lv_aload_n hx hb dX2_leastMore_24 rfl (lv_at hl 0 rfl) ?_
        obtain ⟨q16, hq17, ok_q16, hf⟩ := gR_of hf
        refine gf_RX2_17 hC hR ok_this hq17 dX2_leastMore_25 ?_
        obtain ⟨S18, hc19, hf⟩ := cv_of hf
        refine cl_RX2_36 (As := [.ref q16]) (rest := []) hC hR hS (c_X3_copyFrom l G n q14 q16 S10 S18 hc19 ok_q14 ok_q16) ok_q14 rfl ⟨Nat.le_of_ble_eq_true rfl, Nat.le_of_ble_eq_true rfl⟩ hl.1 rfl (Nat.le_of_ble_eq_true rfl) dX2_leastMore_28 (Nat.zero_le _) (Nat.zero_le _) (fun H locs hR hS hE20 => ?_)
        have ok_this := hE20 _ _ ok_this
        have ok_q11 := hE20 _ _ ok_q11
        have ok_q14 := hE20 _ _ ok_q14
        have ok_q16 := hE20 _ _ ok_q16
        have hE := hE.tr hE20
        refine lv_aload_n hx hb dX2_leastMore_31 rfl (lv_at hl 0 rfl) ?_
        obtain ⟨q21, hq22, ok_q21, hf⟩ := gR_of hf
        refine gf_RX2_11 hC hR ok_this hq22 dX2_leastMore_32 ?_
        refine lv_iconst (v := 0) hx hb dX2_leastMore_35 (by decide) ?_
        obtain ⟨hi23, hf⟩ := ck_of hf
        obtain ⟨q24, hq25, ok_q24, hf⟩ := gR_of hf
        refine r_pald (v := .ref q24) hC hR ok_q21 hi23 dX2_leastMore_36 (by rw [hq25]; rfl) ?_
        obtain ⟨q26, hq27, ok_q26, hf⟩ := gR_of hf
        refine gf_RX2_131 hC hR ok_q24 hq27 dX2_leastMore_37 ?_
        refine lv_iload_n hx hb dX2_leastMore_40 rfl (lv_at hl 3 rfl) ?_
        refine lv_iload hx hb dX2_leastMore_41 (lv_at hl 5 rfl) ?_
        obtain ⟨hi28, hf⟩ := ck_of hf
        refine rB_iast hC hR hS ok_q26 hi28 dX2_leastMore_43 hf (fun S29 H locs hf hR hS hE30 => ?_)
        have ok_this := hE30 _ _ ok_this
        have ok_q11 := hE30 _ _ ok_q11
        have ok_q14 := hE30 _ _ ok_q14
        have ok_q16 := hE30 _ _ ok_q16
        have ok_q21 := hE30 _ _ ok_q21
        have ok_q24 := hE30 _ _ ok_q24
        have ok_q26 := hE30 _ _ ok_q26
        have hE := hE.tr hE30
        refine lv_aload_n hx hb dX2_leastMore_44 rfl (lv_at hl 0 rfl) ?_
        refine lv_iload_n hx hb dX2_leastMore_45 rfl (lv_at hl 1 rfl) ?_
        refine lv_iload_n hx hb dX2_leastMore_46 rfl (lv_at hl 2 rfl) ?_
        refine lv_iload hx hb dX2_leastMore_47 (lv_at hl 4 rfl) ?_
        obtain ⟨x34, S31, hc32, hf⟩ := cl_of hf
        refine cl_RX2_134 (As := [.int a1, .int a2, .int a4]) (rest := []) hC hR hS (c_X2_isKept l G n this a1 a2 a4 S29 x34 S31 hc32 ok_this) ok_this rfl ⟨Nat.le_of_ble_eq_true rfl, Nat.le_of_ble_eq_true rfl⟩ hl.1 rfl (Nat.le_of_ble_eq_true rfl) dX2_leastMore_49 (Nat.zero_le _) (Nat.zero_le _) (fun H locs hR hS hE33 => ?_)
        have ok_this := hE33 _ _ ok_this
        have ok_q11 := hE33 _ _ ok_q11
        have ok_q14 := hE33 _ _ ok_q14
        have ok_q16 := hE33 _ _ ok_q16
        have ok_q21 := hE33 _ _ ok_q21
        have ok_q24 := hE33 _ _ ok_q24
        have ok_q26 := hE33 _ _ ok_q26
        have hE := hE.tr hE33
        refine lv_if_eq (tgt := 68) hx hb dX2_leastMore_52 (by decide) (fun hc => ?_) (fun hc => ?_)
        · replace hf := if_t hf hc
          refine r_iinc (n := 1) (z := 1) (lv' := fun x35 => [(5, .int x35), (0, .ref this), (1, .int a1), (2, .int a2), (3, .int a3), (4, .int a4)]) hx hb dX2_leastMore_68 hl (k := 5) rfl (by decide) (by decide) (fun _ => rfl) hf (fun x35 ls hf hl => ?_)
          refine lv_goto (tgt := 11) hx hb dX2_leastMore_71 (by decide) ?_
          exact hL11_7 x35 S31 _ _ _ hf hR hS hE ok_this (lv_sub hl [1, 2, 3, 4, 5, 0] rfl)
        · replace hf := if_f hf hc
          refine lv_iload hx hb dX2_leastMore_55 (lv_at hl 5 rfl) ?_
          refine lv_aload_n hx hb dX2_leastMore_57 rfl (lv_at hl 0 rfl) ?_
          obtain ⟨q36, hq37, ok_q36, hf⟩ := gR_of hf
          refine gf_RX2_17 hC hR ok_this hq37 dX2_leastMore_58 ?_
          obtain ⟨q38, hq39, ok_q38, hf⟩ := gR_of hf
          refine gf_RX2_131 hC hR ok_q36 hq39 dX2_leastMore_61 ?_
          refine lv_iload_n hx hb dX2_leastMore_64 rfl (lv_at hl 3 rfl) ?_
          obtain ⟨hi40, hf⟩ := ck_of hf
          refine r_iald hC hR ok_q38 hi40 dX2_leastMore_65 ?_
          refine lv_isub hx hb dX2_leastMore_66 ?_
          exact r_iret hC hR hS hE hf dX2_leastMore_67
  exact hh41 n x6 S _ _ _ hf hR hS hE ok_this (lv_sub hl [1, 2, 3, 4, 5, 0] rfl)
abbrev rX2_calmHours : Room := { frames := 6, cells := 0, slots := 0, locals := 160 }
def f_X2_calmHours_L15 (n : Nat) (this : Nat) : Nat → Int32 → MS → Option (Int32 × MS)
  | 0, _, _ => none
  | k + 1, x13, S14 => jn (f_X2_calmHours_L15 n this k) fun rec15_12 => (if (40 : Int32) ≤ x13 then some ((40 : Int32), S14) else cl (f_X2_goOn n this x13 S14) fun x18 S15 => (if x18 ≤ 0 then bd (x13 + (1 : Int32)) fun x19 => rec15_12 x19 S15 else some (x13, S15)))
def f_X2_calmHours (n : Nat) (this : Nat) (S : MS) : Option (Int32 × MS) :=
  gR S (mR S this 6) 15 fun q1 => ck (inb (0 : Int32) (mN S q1)) (gR S (mR S q1 (0 : Int32).toNatClampNeg) 3 fun q4 => gR S (mR S this 3) 3 fun q6 => cv (f_X3_copyFrom n q4 q6 S) fun S8 => f_X2_calmHours_L15 n this n (0 : Int32) S8)
set_option maxRecDepth 100000 in
set_option maxHeartbeats 4000000 in
theorem c_X2_calmHours (l : Launch) (G : Gx) (n : Nat) (this : Nat) (S : MS) (ro : Int32) (So : MS) (hf : f_X2_calmHours n this S = some (ro, So)) (ok_this : Ok S this 2) : Cn G l yX2_calmHours cX2_calmHours 2 (some .int) rX2_calmHours [.ref this] S (some (.int ro)) So := by
  refine Cn.of (by decide) (Nat.le_of_ble_eq_true rfl) ?_
  intro p e s m args below meth c hC hname hR ls hl
  have hC : Cx G RX2 cX2_calmHours 2 (some .int) p s m args meth c := hC
  have hl : lv_has ls 2 [(0, .ref this)] := hl
  have hx := hC.x
  have hb := hC.b
  have hS : va_S (gA G) s.heap s.heap [] := va_S.rf
  have hE : Ex S S := Ex.rf S
  unfold f_X2_calmHours at hf
  refine lv_aload_n hx hb dX2_calmHours_0 rfl (lv_at hl 0 rfl) ?_
  obtain ⟨q1, hq2, ok_q1, hf⟩ := gR_of hf
  refine gf_RX2_11 hC hR ok_this hq2 dX2_calmHours_1 ?_
  refine lv_iconst (v := 0) hx hb dX2_calmHours_4 (by decide) ?_
  obtain ⟨hi3, hf⟩ := ck_of hf
  obtain ⟨q4, hq5, ok_q4, hf⟩ := gR_of hf
  refine r_pald (v := .ref q4) hC hR ok_q1 hi3 dX2_calmHours_5 (by rw [hq5]; rfl) ?_
  refine lv_aload_n hx hb dX2_calmHours_6 rfl (lv_at hl 0 rfl) ?_
  obtain ⟨q6, hq7, ok_q6, hf⟩ := gR_of hf
  refine gf_RX2_17 hC hR ok_this hq7 dX2_calmHours_7 ?_
  obtain ⟨S8, hc9, hf⟩ := cv_of hf
  refine cl_RX2_36 (As := [.ref q6]) (rest := []) hC hR hS (c_X3_copyFrom l G n q4 q6 S S8 hc9 ok_q4 ok_q6) ok_q4 rfl ⟨Nat.le_of_ble_eq_true rfl, Nat.le_of_ble_eq_true rfl⟩ hl.1 rfl (Nat.le_of_ble_eq_true rfl) dX2_calmHours_10 (Nat.zero_le _) (Nat.zero_le _) (fun H locs hR hS hE10 => ?_)
  have ok_this := hE10 _ _ ok_this
  have ok_q1 := hE10 _ _ ok_q1
  have ok_q4 := hE10 _ _ ok_q4
  have ok_q6 := hE10 _ _ ok_q6
  have hE := hE.tr hE10
  refine lv_iconst (v := 0) hx hb dX2_calmHours_13 (by decide) ?_
  refine lv_istore_n (lv' := [(1, .int (0 : Int32)), (0, .ref this)]) hx hb dX2_calmHours_14 rfl hl (by decide) rfl (fun ls hl => ?_)
  have hh20 : ∀ k : Nat, ∀ (x13 : Int32) (S14 : MS) (H : Heap) (locs : List Loc) (ls : Array Slot), f_X2_calmHours_L15 n this k x13 S14 = some (ro, So) → Rp G S14 H → va_S (gA G) s.heap H locs → Ex S S14 → Ok S14 this 2 → lv_has ls 2 [(0, .ref this), (1, .int x13)] → W p l e rX2_calmHours s m args below meth c H locs 0 0 (MQ below (Qn G S (some (.int ro)) So) args s 0 0 (gA G)) (F0 m 15 ls []) := by
    intro k
    induction k with
    | zero =>
      intro x13 S14 H locs ls hf hR hS hE ok_this hl
      exact absurd hf (by rw [f_X2_calmHours_L15]; exact fun h => by cases h)
    | succ k ih =>
      intro x13 S14 H locs ls hf hR hS hE ok_this hl
      rw [f_X2_calmHours_L15] at hf
      obtain ⟨rec15_12, erec15_12, hf⟩ := jn_of2 hf
      have hL15_11 : ∀ (x13 : Int32) (S14 : MS) (H : Heap) (locs : List Loc) (ls : Array Slot), rec15_12 x13 S14 = some (ro, So) → Rp G S14 H → va_S (gA G) s.heap H locs → Ex S S14 → Ok S14 this 2 → lv_has ls 2 [(0, .ref this), (1, .int x13)] → W p l e rX2_calmHours s m args below meth c H locs 0 0 (MQ below (Qn G S (some (.int ro)) So) args s 0 0 (gA G)) (F0 m 15 ls []) := by
        intro x13 S14 H locs ls hf hR hS hE ok_this hl
        rw [erec15_12] at hf
        exact ih x13 S14 _ _ _ hf hR hS hE ok_this hl
      refine lv_iload_n hx hb dX2_calmHours_15 rfl (lv_at hl 1 rfl) ?_
      refine lv_bipush (v := 40) hx hb dX2_calmHours_16 (by decide) ?_
      refine lv_icmp_ge (tgt := 37) hx hb dX2_calmHours_18 (by decide) (fun hc => ?_) (fun hc => ?_)
      · replace hf := if_t hf hc
        refine lv_bipush (v := 40) hx hb dX2_calmHours_37 (by decide) ?_
        exact r_iret hC hR hS hE hf dX2_calmHours_39
      · replace hf := if_f hf hc
        refine lv_aload_n hx hb dX2_calmHours_21 rfl (lv_at hl 0 rfl) ?_
        refine lv_iload_n hx hb dX2_calmHours_22 rfl (lv_at hl 1 rfl) ?_
        obtain ⟨x18, S15, hc16, hf⟩ := cl_of hf
        refine cl_RX2_127 (As := [.int x13]) (rest := []) hC hR hS (c_X2_goOn l G n this x13 S14 x18 S15 hc16 ok_this) ok_this rfl ⟨Nat.le_of_ble_eq_true rfl, Nat.le_of_ble_eq_true rfl⟩ hl.1 rfl (Nat.le_of_ble_eq_true rfl) dX2_calmHours_23 (Nat.zero_le _) (Nat.zero_le _) (fun H locs hR hS hE17 => ?_)
        have ok_this := hE17 _ _ ok_this
        have hE := hE.tr hE17
        refine lv_if_le (tgt := 31) hx hb dX2_calmHours_26 (by decide) (fun hc => ?_) (fun hc => ?_)
        · replace hf := if_t hf hc
          refine r_iinc (n := 1) (z := 1) (lv' := fun x19 => [(1, .int x19), (0, .ref this)]) hx hb dX2_calmHours_31 hl (k := 1) rfl (by decide) (by decide) (fun _ => rfl) hf (fun x19 ls hf hl => ?_)
          refine lv_goto (tgt := 15) hx hb dX2_calmHours_34 (by decide) ?_
          exact hL15_11 x19 S15 _ _ _ hf hR hS hE ok_this (lv_sub hl [1, 0] rfl)
        · replace hf := if_f hf hc
          refine lv_iload_n hx hb dX2_calmHours_29 rfl (lv_at hl 1 rfl) ?_
          exact r_iret hC hR hS hE hf dX2_calmHours_30
  exact hh20 n (0 : Int32) S8 _ _ _ hf hR hS hE ok_this (lv_sub hl [1, 0] rfl)
abbrev rX3_disputed : Room := { frames := 3, cells := 0, slots := 0, locals := 74 }
def f_X3_disputed_L4 (n : Nat) (this : Nat) : Nat → Int32 → Int32 → MS → Option (Int32 × MS)
  | 0, _, _, _ => none
  | k + 1, x3, x4, S5 => jn (f_X3_disputed_L4 n this k) fun rec4_2 => (if (6 : Int32) ≤ x4 then some (x3, S5) else cl (f_X3_fieldHad n this x4 S5) fun x9 S6 => cl (f_X3_holders n this x9 S6) fun x13 S10 => cl (f_J6_bitCount_0f7a4 n x13 S10) fun x17 S14 => jn (fun (x20 : Int32) (S21 : MS) => bd (x4 + (1 : Int32)) fun x22 => rec4_2 x20 x22 S21) fun j41_19 => (if x17 ≤ (1 : Int32) then j41_19 x3 S14 else (if (x13 &&& (-x13)) = ((1 : Int32) <<< (x4 &&& 31)) then bd (x3 + (1 : Int32)) fun x23 => j41_19 x23 S14 else j41_19 x3 S14)))
def f_X3_disputed (n : Nat) (this : Nat) (S : MS) : Option (Int32 × MS) :=
  f_X3_disputed_L4 n this n (0 : Int32) (0 : Int32) S
set_option maxRecDepth 100000 in
set_option maxHeartbeats 4000000 in
theorem c_X3_disputed (l : Launch) (G : Gx) (n : Nat) (this : Nat) (S : MS) (ro : Int32) (So : MS) (hf : f_X3_disputed n this S = some (ro, So)) (ok_this : Ok S this 3) : Cn G l yX3_disputed cX3_disputed 4 (some .int) rX3_disputed [.ref this] S (some (.int ro)) So := by
  refine Cn.of (by decide) (Nat.le_of_ble_eq_true rfl) ?_
  intro p e s m args below meth c hC hname hR ls hl
  have hC : Cx G RX3 cX3_disputed 4 (some .int) p s m args meth c := hC
  have hl : lv_has ls 4 [(0, .ref this)] := hl
  have hx := hC.x
  have hb := hC.b
  have hS : va_S (gA G) s.heap s.heap [] := va_S.rf
  have hE : Ex S S := Ex.rf S
  unfold f_X3_disputed at hf
  refine lv_iconst (v := 0) hx hb dX3_disputed_0 (by decide) ?_
  refine lv_istore_n (lv' := [(1, .int (0 : Int32)), (0, .ref this)]) hx hb dX3_disputed_1 rfl hl (by decide) rfl (fun ls hl => ?_)
  refine lv_iconst (v := 0) hx hb dX3_disputed_2 (by decide) ?_
  refine lv_istore_n (lv' := [(2, .int (0 : Int32)), (1, .int (0 : Int32)), (0, .ref this)]) hx hb dX3_disputed_3 rfl hl (by decide) rfl (fun ls hl => ?_)
  have hh26 : ∀ k : Nat, ∀ (x3 : Int32) (x4 : Int32) (S5 : MS) (H : Heap) (locs : List Loc) (ls : Array Slot), f_X3_disputed_L4 n this k x3 x4 S5 = some (ro, So) → Rp G S5 H → va_S (gA G) s.heap H locs → Ex S S5 → Ok S5 this 3 → lv_has ls 4 [(0, .ref this), (1, .int x3), (2, .int x4)] → W p l e rX3_disputed s m args below meth c H locs 0 0 (MQ below (Qn G S (some (.int ro)) So) args s 0 0 (gA G)) (F0 m 4 ls []) := by
    intro k
    induction k with
    | zero =>
      intro x3 x4 S5 H locs ls hf hR hS hE ok_this hl
      exact absurd hf (by rw [f_X3_disputed_L4]; exact fun h => by cases h)
    | succ k ih =>
      intro x3 x4 S5 H locs ls hf hR hS hE ok_this hl
      rw [f_X3_disputed_L4] at hf
      obtain ⟨rec4_2, erec4_2, hf⟩ := jn_of3 hf
      have hL4_1 : ∀ (x3 : Int32) (x4 : Int32) (S5 : MS) (H : Heap) (locs : List Loc) (ls : Array Slot), rec4_2 x3 x4 S5 = some (ro, So) → Rp G S5 H → va_S (gA G) s.heap H locs → Ex S S5 → Ok S5 this 3 → lv_has ls 4 [(0, .ref this), (1, .int x3), (2, .int x4)] → W p l e rX3_disputed s m args below meth c H locs 0 0 (MQ below (Qn G S (some (.int ro)) So) args s 0 0 (gA G)) (F0 m 4 ls []) := by
        intro x3 x4 S5 H locs ls hf hR hS hE ok_this hl
        rw [erec4_2] at hf
        exact ih x3 x4 S5 _ _ _ hf hR hS hE ok_this hl
      refine lv_iload_n hx hb dX3_disputed_4 rfl (lv_at hl 2 rfl) ?_
      refine lv_bipush (v := 6) hx hb dX3_disputed_5 (by decide) ?_
      refine lv_icmp_ge (tgt := 47) hx hb dX3_disputed_7 (by decide) (fun hc => ?_) (fun hc => ?_)
      · replace hf := if_t hf hc
        refine lv_iload_n hx hb dX3_disputed_47 rfl (lv_at hl 1 rfl) ?_
        exact r_iret hC hR hS hE hf dX3_disputed_48
      · replace hf := if_f hf hc
        refine lv_aload_n hx hb dX3_disputed_10 rfl (lv_at hl 0 rfl) ?_
        refine lv_aload_n hx hb dX3_disputed_11 rfl (lv_at hl 0 rfl) ?_
        refine lv_iload_n hx hb dX3_disputed_12 rfl (lv_at hl 2 rfl) ?_
        obtain ⟨x9, S6, hc7, hf⟩ := cl_of hf
        refine cl_RX3_123 (As := [.int x4]) (rest := [.ref this]) hC hR hS (c_X3_fieldHad l G n this x4 S5 x9 S6 hc7 ok_this) ok_this rfl ⟨Nat.le_of_ble_eq_true rfl, Nat.le_of_ble_eq_true rfl⟩ hl.1 rfl (Nat.le_of_ble_eq_true rfl) dX3_disputed_13 (Nat.zero_le _) (Nat.zero_le _) (fun H locs hR hS hE8 => ?_)
        have ok_this := hE8 _ _ ok_this
        have hE := hE.tr hE8
        obtain ⟨x13, S10, hc11, hf⟩ := cl_of hf
        refine cl_RX3_127 (As := [.long x9]) (rest := []) hC hR hS (c_X3_holders l G n this x9 S6 x13 S10 hc11 ok_this) ok_this rfl ⟨Nat.le_of_ble_eq_true rfl, Nat.le_of_ble_eq_true rfl⟩ hl.1 rfl (Nat.le_of_ble_eq_true rfl) dX3_disputed_16 (Nat.zero_le _) (Nat.zero_le _) (fun H locs hR hS hE12 => ?_)
        have ok_this := hE12 _ _ ok_this
        have hE := hE.tr hE12
        refine lv_istore_n (lv' := [(3, .int x13), (0, .ref this), (1, .int x3), (2, .int x4)]) hx hb dX3_disputed_19 rfl hl (by decide) rfl (fun ls hl => ?_)
        refine lv_iload_n hx hb dX3_disputed_20 rfl (lv_at hl 0 rfl) ?_
        obtain ⟨x17, S14, hc15, hf⟩ := cl_of hf
        refine cl_RX3_131 (As := [.int x13]) (rest := []) hC hR hS (c_J6_bitCount_0f7a4 l G n x13 S10 x17 S14 hc15 ) rfl ⟨Nat.le_of_ble_eq_true rfl, Nat.le_of_ble_eq_true rfl⟩ hl.1 rfl (Nat.le_of_ble_eq_true rfl) dX3_disputed_21 (Nat.zero_le _) (Nat.zero_le _) (fun H locs hR hS hE16 => ?_)
        have ok_this := hE16 _ _ ok_this
        have hE := hE.tr hE16
        refine lv_iconst (v := 1) hx hb dX3_disputed_24 (by decide) ?_
        obtain ⟨j41_19, ej41_19, hf⟩ := jn_of2 hf
        have hj41_18 : ∀ (x20 : Int32) (S21 : MS) (H : Heap) (locs : List Loc) (ls : Array Slot), j41_19 x20 S21 = some (ro, So) → Rp G S21 H → va_S (gA G) s.heap H locs → Ex S S21 → Ok S21 this 3 → lv_has ls 4 [(0, .ref this), (1, .int x20), (2, .int x4)] → W p l e rX3_disputed s m args below meth c H locs 0 0 (MQ below (Qn G S (some (.int ro)) So) args s 0 0 (gA G)) (F0 m 41 ls []) := by
          intro x20 S21 H locs ls hf hR hS hE ok_this hl
          rw [ej41_19] at hf
          refine r_iinc (n := 1) (z := 1) (lv' := fun x22 => [(2, .int x22), (0, .ref this), (1, .int x20)]) hx hb dX3_disputed_41 hl (k := 2) rfl (by decide) (by decide) (fun _ => rfl) hf (fun x22 ls hf hl => ?_)
          refine lv_goto (tgt := 4) hx hb dX3_disputed_44 (by decide) ?_
          exact hL4_1 x20 x22 S21 _ _ _ hf hR hS hE ok_this (lv_sub hl [1, 2, 0] rfl)
        refine lv_icmp_le (tgt := 41) hx hb dX3_disputed_25 (by decide) (fun hc => ?_) (fun hc => ?_)
        · replace hf := if_t hf hc
          exact hj41_18 x3 S14 _ _ _ hf hR hS hE ok_this (lv_sub hl [1, 2, 3] rfl)
        · replace hf := if_f hf hc
          refine lv_iload_n hx hb dX3_disputed_28 rfl (lv_at hl 0 rfl) ?_
          refine lv_iload_n hx hb dX3_disputed_29 rfl (lv_at hl 0 rfl) ?_
          refine lv_ineg hx hb dX3_disputed_30 ?_
          refine lv_iand hx hb dX3_disputed_31 ?_
          refine lv_iconst (v := 1) hx hb dX3_disputed_32 (by decide) ?_
          refine lv_iload_n hx hb dX3_disputed_33 rfl (lv_at hl 3 rfl) ?_
          refine lv_ishl hx hb dX3_disputed_34 ?_
          refine lv_icmp_ne (tgt := 41) hx hb dX3_disputed_35 (by decide) (fun hc => ?_) (fun hc => ?_)
          · replace hf := if_f hf hc
            exact hj41_18 x3 S14 _ _ _ hf hR hS hE ok_this (lv_sub hl [1, 2, 3] rfl)
          · replace hf := if_t hf hc
            refine r_iinc (n := 1) (z := 1) (lv' := fun x23 => [(1, .int x23), (3, .int x13), (0, .ref this), (2, .int x4)]) hx hb dX3_disputed_38 hl (k := 2) rfl (by decide) (by decide) (fun _ => rfl) hf (fun x23 ls hf hl => ?_)
            exact hj41_18 x23 S14 _ _ _ hf hR hS hE ok_this (lv_sub hl [2, 0, 3] rfl)
  exact hh26 n (0 : Int32) (0 : Int32) S _ _ _ hf hR hS hE ok_this (lv_sub hl [2, 1, 0] rfl)
abbrev rX2_disputedBehind : Room := { frames := 6, cells := 0, slots := 0, locals := 160 }
def f_X2_disputedBehind_L17 (n : Nat) (this : Nat) (a1 : Int32) : Nat → Int32 → Int32 → MS → Option (Int32 × MS)
  | 0, _, _, _ => none
  | k + 1, x13, x14, S15 => jn (f_X2_disputedBehind_L17 n this a1 k) fun rec17_12 => (if a1 ≤ x14 then some (x13, S15) else cl (f_X2_goOn n this x14 S15) fun x19 S16 => gR S16 (mR S16 this 6) 15 fun q20 => ck (inb (0 : Int32) (mN S16 q20)) (gR S16 (mR S16 q20 (0 : Int32).toNatClampNeg) 3 fun q23 => cl (f_X3_disputed n q23 S16) fun x28 S25 => bd (x13 + x28) fun x29 => bd (x14 + (1 : Int32)) fun x30 => rec17_12 x29 x30 S25))
def f_X2_disputedBehind (n : Nat) (this : Nat) (a1 : Int32) (S : MS) : Option (Int32 × MS) :=
  gR S (mR S this 6) 15 fun q1 => ck (inb (0 : Int32) (mN S q1)) (gR S (mR S q1 (0 : Int32).toNatClampNeg) 3 fun q4 => gR S (mR S this 3) 3 fun q6 => cv (f_X3_copyFrom n q4 q6 S) fun S8 => f_X2_disputedBehind_L17 n this a1 n (0 : Int32) (0 : Int32) S8)
set_option maxRecDepth 100000 in
set_option maxHeartbeats 4000000 in
theorem c_X2_disputedBehind (l : Launch) (G : Gx) (n : Nat) (this : Nat) (a1 : Int32) (S : MS) (ro : Int32) (So : MS) (hf : f_X2_disputedBehind n this a1 S = some (ro, So)) (ok_this : Ok S this 2) : Cn G l yX2_disputedBehind cX2_disputedBehind 4 (some .int) rX2_disputedBehind [.ref this, .int a1] S (some (.int ro)) So := by
  refine Cn.of (by decide) (Nat.le_of_ble_eq_true rfl) ?_
  intro p e s m args below meth c hC hname hR ls hl
  have hC : Cx G RX2 cX2_disputedBehind 4 (some .int) p s m args meth c := hC
  have hl : lv_has ls 4 [(0, .ref this), (1, .int a1)] := hl
  have hx := hC.x
  have hb := hC.b
  have hS : va_S (gA G) s.heap s.heap [] := va_S.rf
  have hE : Ex S S := Ex.rf S
  unfold f_X2_disputedBehind at hf
  refine lv_iconst (v := 0) hx hb dX2_disputedBehind_0 (by decide) ?_
  refine lv_istore_n (lv' := [(2, .int (0 : Int32)), (0, .ref this), (1, .int a1)]) hx hb dX2_disputedBehind_1 rfl hl (by decide) rfl (fun ls hl => ?_)
  refine lv_aload_n hx hb dX2_disputedBehind_2 rfl (lv_at hl 1 rfl) ?_
  obtain ⟨q1, hq2, ok_q1, hf⟩ := gR_of hf
  refine gf_RX2_11 hC hR ok_this hq2 dX2_disputedBehind_3 ?_
  refine lv_iconst (v := 0) hx hb dX2_disputedBehind_6 (by decide) ?_
  obtain ⟨hi3, hf⟩ := ck_of hf
  obtain ⟨q4, hq5, ok_q4, hf⟩ := gR_of hf
  refine r_pald (v := .ref q4) hC hR ok_q1 hi3 dX2_disputedBehind_7 (by rw [hq5]; rfl) ?_
  refine lv_aload_n hx hb dX2_disputedBehind_8 rfl (lv_at hl 1 rfl) ?_
  obtain ⟨q6, hq7, ok_q6, hf⟩ := gR_of hf
  refine gf_RX2_17 hC hR ok_this hq7 dX2_disputedBehind_9 ?_
  obtain ⟨S8, hc9, hf⟩ := cv_of hf
  refine cl_RX2_36 (As := [.ref q6]) (rest := []) hC hR hS (c_X3_copyFrom l G n q4 q6 S S8 hc9 ok_q4 ok_q6) ok_q4 rfl ⟨Nat.le_of_ble_eq_true rfl, Nat.le_of_ble_eq_true rfl⟩ hl.1 rfl (Nat.le_of_ble_eq_true rfl) dX2_disputedBehind_12 (Nat.zero_le _) (Nat.zero_le _) (fun H locs hR hS hE10 => ?_)
  have ok_this := hE10 _ _ ok_this
  have ok_q1 := hE10 _ _ ok_q1
  have ok_q4 := hE10 _ _ ok_q4
  have ok_q6 := hE10 _ _ ok_q6
  have hE := hE.tr hE10
  refine lv_iconst (v := 0) hx hb dX2_disputedBehind_15 (by decide) ?_
  refine lv_istore_n (lv' := [(3, .int (0 : Int32)), (2, .int (0 : Int32)), (0, .ref this), (1, .int a1)]) hx hb dX2_disputedBehind_16 rfl hl (by decide) rfl (fun ls hl => ?_)
  have hh31 : ∀ k : Nat, ∀ (x13 : Int32) (x14 : Int32) (S15 : MS) (H : Heap) (locs : List Loc) (ls : Array Slot), f_X2_disputedBehind_L17 n this a1 k x13 x14 S15 = some (ro, So) → Rp G S15 H → va_S (gA G) s.heap H locs → Ex S S15 → Ok S15 this 2 → lv_has ls 4 [(0, .ref this), (1, .int a1), (2, .int x13), (3, .int x14)] → W p l e rX2_disputedBehind s m args below meth c H locs 0 0 (MQ below (Qn G S (some (.int ro)) So) args s 0 0 (gA G)) (F0 m 17 ls []) := by
    intro k
    induction k with
    | zero =>
      intro x13 x14 S15 H locs ls hf hR hS hE ok_this hl
      exact absurd hf (by rw [f_X2_disputedBehind_L17]; exact fun h => by cases h)
    | succ k ih =>
      intro x13 x14 S15 H locs ls hf hR hS hE ok_this hl
      rw [f_X2_disputedBehind_L17] at hf
      obtain ⟨rec17_12, erec17_12, hf⟩ := jn_of3 hf
      have hL17_11 : ∀ (x13 : Int32) (x14 : Int32) (S15 : MS) (H : Heap) (locs : List Loc) (ls : Array Slot), rec17_12 x13 x14 S15 = some (ro, So) → Rp G S15 H → va_S (gA G) s.heap H locs → Ex S S15 → Ok S15 this 2 → lv_has ls 4 [(0, .ref this), (1, .int a1), (2, .int x13), (3, .int x14)] → W p l e rX2_disputedBehind s m args below meth c H locs 0 0 (MQ below (Qn G S (some (.int ro)) So) args s 0 0 (gA G)) (F0 m 17 ls []) := by
        intro x13 x14 S15 H locs ls hf hR hS hE ok_this hl
        rw [erec17_12] at hf
        exact ih x13 x14 S15 _ _ _ hf hR hS hE ok_this hl
      refine lv_iload_n hx hb dX2_disputedBehind_17 rfl (lv_at hl 3 rfl) ?_
      refine lv_iload_n hx hb dX2_disputedBehind_18 rfl (lv_at hl 1 rfl) ?_
      refine lv_icmp_ge (tgt := 46) hx hb dX2_disputedBehind_19 (by decide) (fun hc => ?_) (fun hc => ?_)
      · replace hf := if_t hf hc
        refine lv_iload_n hx hb dX2_disputedBehind_46 rfl (lv_at hl 2 rfl) ?_
        exact r_iret hC hR hS hE hf dX2_disputedBehind_47
      · replace hf := if_f hf hc
        refine lv_aload_n hx hb dX2_disputedBehind_22 rfl (lv_at hl 0 rfl) ?_
        refine lv_iload_n hx hb dX2_disputedBehind_23 rfl (lv_at hl 3 rfl) ?_
        obtain ⟨x19, S16, hc17, hf⟩ := cl_of hf
        refine cl_RX2_127 (As := [.int x14]) (rest := []) hC hR hS (c_X2_goOn l G n this x14 S15 x19 S16 hc17 ok_this) ok_this rfl ⟨Nat.le_of_ble_eq_true rfl, Nat.le_of_ble_eq_true rfl⟩ hl.1 rfl (Nat.le_of_ble_eq_true rfl) dX2_disputedBehind_24 (Nat.zero_le _) (Nat.zero_le _) (fun H locs hR hS hE18 => ?_)
        have ok_this := hE18 _ _ ok_this
        have hE := hE.tr hE18
        refine lv_pop hx hb dX2_disputedBehind_27 rfl ?_
        refine lv_iload_n hx hb dX2_disputedBehind_28 rfl (lv_at hl 2 rfl) ?_
        refine lv_aload_n hx hb dX2_disputedBehind_29 rfl (lv_at hl 0 rfl) ?_
        obtain ⟨q20, hq21, ok_q20, hf⟩ := gR_of hf
        refine gf_RX2_11 hC hR ok_this hq21 dX2_disputedBehind_30 ?_
        refine lv_iconst (v := 0) hx hb dX2_disputedBehind_33 (by decide) ?_
        obtain ⟨hi22, hf⟩ := ck_of hf
        obtain ⟨q23, hq24, ok_q23, hf⟩ := gR_of hf
        refine r_pald (v := .ref q23) hC hR ok_q20 hi22 dX2_disputedBehind_34 (by rw [hq24]; rfl) ?_
        obtain ⟨x28, S25, hc26, hf⟩ := cl_of hf
        refine cl_RX2_138 (As := []) (rest := [.int x13]) hC hR hS (c_X3_disputed l G n q23 S16 x28 S25 hc26 ok_q23) ok_q23 rfl ⟨Nat.le_of_ble_eq_true rfl, Nat.le_of_ble_eq_true rfl⟩ hl.1 rfl (Nat.le_of_ble_eq_true rfl) dX2_disputedBehind_35 (Nat.zero_le _) (Nat.zero_le _) (fun H locs hR hS hE27 => ?_)
        have ok_this := hE27 _ _ ok_this
        have ok_q20 := hE27 _ _ ok_q20
        have ok_q23 := hE27 _ _ ok_q23
        have hE := hE.tr hE27
        refine lv_iadd hx hb dX2_disputedBehind_38 ?_
        refine bdi hf (fun x29 hf => ?_)
        refine lv_istore_n (lv' := [(2, .int x29), (0, .ref this), (1, .int a1), (3, .int x14)]) hx hb dX2_disputedBehind_39 rfl hl (by decide) rfl (fun ls hl => ?_)
        refine r_iinc (n := 1) (z := 1) (lv' := fun x30 => [(3, .int x30), (2, .int x29), (0, .ref this), (1, .int a1)]) hx hb dX2_disputedBehind_40 hl (k := 3) rfl (by decide) (by decide) (fun _ => rfl) hf (fun x30 ls hf hl => ?_)
        refine lv_goto (tgt := 17) hx hb dX2_disputedBehind_43 (by decide) ?_
        exact hL17_11 x29 x30 S25 _ _ _ hf hR hS hE ok_this (lv_sub hl [2, 3, 1, 0] rfl)
  exact hh31 n (0 : Int32) (0 : Int32) S8 _ _ _ hf hR hS hE ok_this (lv_sub hl [2, 3, 1, 0] rfl)
abbrev rX2_isMapped : Room := { frames := 0, cells := 0, slots := 0, locals := 0 }
def f_X2_isMapped_L2 (n : Nat) (this : Nat) (a1 : Nat) : Nat → Int32 → MS → Option (Int32 × MS)
  | 0, _, _ => none
  | k + 1, x3, S4 => jn (f_X2_isMapped_L2 n this a1 k) fun rec2_2 => (if (mI S4 a1 7) ≤ x3 then zb (1 : Int32) (some ((1 : Int32), S4)) else gR S4 (mR S4 this 4) 8 fun q5 => gR S4 (mR S4 q5 5) 12 fun q7 => ck (inb x3 (mN S4 q7)) (jn (fun (S12 : MS) => bd (x3 + (1 : Int32)) fun x13 => rec2_2 x13 S12) fun j43_11 => (if (mI S4 q7 x3.toNatClampNeg) = (-1 : Int32) then j43_11 S4 else gR S4 (mR S4 this 4) 8 fun q14 => gR S4 (mR S4 q14 5) 12 fun q16 => ck (inb x3 (mN S4 q16)) (gR S4 (mR S4 a1 1) 12 fun q19 => ck (inb x3 (mN S4 q19)) ((if (mI S4 q16 x3.toNatClampNeg) = (mI S4 q19 x3.toNatClampNeg) then j43_11 S4 else zb (0 : Int32) (some ((0 : Int32), S4))))))))
def f_X2_isMapped (n : Nat) (this : Nat) (a1 : Nat) (S : MS) : Option (Int32 × MS) :=
  f_X2_isMapped_L2 n this a1 n (0 : Int32) S
set_option maxRecDepth 100000 in
set_option maxHeartbeats 4000000 in
theorem c_X2_isMapped (l : Launch) (G : Gx) (n : Nat) (this : Nat) (a1 : Nat) (S : MS) (ro : Int32) (So : MS) (hf : f_X2_isMapped n this a1 S = some (ro, So)) (ok_this : Ok S this 2) (ok_a1 : Ok S a1 3) : Cn G l yX2_isMapped cX2_isMapped 3 (some .boolean) rX2_isMapped [.ref this, .ref a1] S (some (.int ro)) So := by
  refine Cn.of (by decide) (Nat.le_of_ble_eq_true rfl) ?_
  intro p e s m args below meth c hC hname hR ls hl
  have hC : Cx G RX2 cX2_isMapped 3 (some .boolean) p s m args meth c := hC
  have hl : lv_has ls 3 [(0, .ref this), (1, .ref a1)] := hl
  have hx := hC.x
  have hb := hC.b
  have hS : va_S (gA G) s.heap s.heap [] := va_S.rf
  have hE : Ex S S := Ex.rf S
  unfold f_X2_isMapped at hf
  refine lv_iconst (v := 0) hx hb dX2_isMapped_0 (by decide) ?_
  refine lv_istore_n (lv' := [(2, .int (0 : Int32)), (0, .ref this), (1, .ref a1)]) hx hb dX2_isMapped_1 rfl hl (by decide) rfl (fun ls hl => ?_)
  have hh23 : ∀ k : Nat, ∀ (x3 : Int32) (S4 : MS) (H : Heap) (locs : List Loc) (ls : Array Slot), f_X2_isMapped_L2 n this a1 k x3 S4 = some (ro, So) → Rp G S4 H → va_S (gA G) s.heap H locs → Ex S S4 → Ok S4 this 2 → Ok S4 a1 3 → lv_has ls 3 [(0, .ref this), (1, .ref a1), (2, .int x3)] → W p l e rX2_isMapped s m args below meth c H locs 0 0 (MQ below (Qn G S (some (.int ro)) So) args s 0 0 (gA G)) (F0 m 2 ls []) := by
    intro k
    induction k with
    | zero =>
      intro x3 S4 H locs ls hf hR hS hE ok_this ok_a1 hl
      exact absurd hf (by rw [f_X2_isMapped_L2]; exact fun h => by cases h)
    | succ k ih =>
      intro x3 S4 H locs ls hf hR hS hE ok_this ok_a1 hl
      rw [f_X2_isMapped_L2] at hf
      obtain ⟨rec2_2, erec2_2, hf⟩ := jn_of2 hf
      have hL2_1 : ∀ (x3 : Int32) (S4 : MS) (H : Heap) (locs : List Loc) (ls : Array Slot), rec2_2 x3 S4 = some (ro, So) → Rp G S4 H → va_S (gA G) s.heap H locs → Ex S S4 → Ok S4 this 2 → Ok S4 a1 3 → lv_has ls 3 [(0, .ref this), (1, .ref a1), (2, .int x3)] → W p l e rX2_isMapped s m args below meth c H locs 0 0 (MQ below (Qn G S (some (.int ro)) So) args s 0 0 (gA G)) (F0 m 2 ls []) := by
        intro x3 S4 H locs ls hf hR hS hE ok_this ok_a1 hl
        rw [erec2_2] at hf
        exact ih x3 S4 _ _ _ hf hR hS hE ok_this ok_a1 hl
      refine lv_iload_n hx hb dX2_isMapped_2 rfl (lv_at hl 2 rfl) ?_
      refine lv_aload_n hx hb dX2_isMapped_3 rfl (lv_at hl 1 rfl) ?_
      refine gf_RX2_66 hC hR ok_a1 dX2_isMapped_4 ?_
      refine lv_icmp_ge (tgt := 49) hx hb dX2_isMapped_7 (by decide) (fun hc => ?_) (fun hc => ?_)
      · replace hf := if_t hf hc
        refine lv_iconst (v := 1) hx hb dX2_isMapped_49 (by decide) ?_
        exact r_zret hC hR hS hE hf dX2_isMapped_50
      · replace hf := if_f hf hc
        refine lv_aload_n hx hb dX2_isMapped_10 rfl (lv_at hl 0 rfl) ?_
        obtain ⟨q5, hq6, ok_q5, hf⟩ := gR_of hf
        refine gf_RX2_21 hC hR ok_this hq6 dX2_isMapped_11 ?_
        obtain ⟨q7, hq8, ok_q7, hf⟩ := gR_of hf
        refine gf_RX2_146 hC hR ok_q5 hq8 dX2_isMapped_14 ?_
        refine lv_iload_n hx hb dX2_isMapped_17 rfl (lv_at hl 2 rfl) ?_
        obtain ⟨hi9, hf⟩ := ck_of hf
        refine r_iald hC hR ok_q7 hi9 dX2_isMapped_18 ?_
        refine lv_iconst (v := -1) hx hb dX2_isMapped_19 (by decide) ?_
        obtain ⟨j43_11, ej43_11, hf⟩ := jn_of1 hf
        have hj43_10 : ∀ (S12 : MS) (H : Heap) (locs : List Loc) (ls : Array Slot), j43_11 S12 = some (ro, So) → Rp G S12 H → va_S (gA G) s.heap H locs → Ex S S12 → Ok S12 this 2 → Ok S12 a1 3 → lv_has ls 3 [(0, .ref this), (1, .ref a1), (2, .int x3)] → W p l e rX2_isMapped s m args below meth c H locs 0 0 (MQ below (Qn G S (some (.int ro)) So) args s 0 0 (gA G)) (F0 m 43 ls []) := by
          intro S12 H locs ls hf hR hS hE ok_this ok_a1 hl
          rw [ej43_11] at hf
          refine r_iinc (n := 1) (z := 1) (lv' := fun x13 => [(2, .int x13), (0, .ref this), (1, .ref a1)]) hx hb dX2_isMapped_43 hl (k := 2) rfl (by decide) (by decide) (fun _ => rfl) hf (fun x13 ls hf hl => ?_)
          refine lv_goto (tgt := 2) hx hb dX2_isMapped_46 (by decide) ?_
          exact hL2_1 x13 S12 _ _ _ hf hR hS hE ok_this ok_a1 (lv_sub hl [1, 2, 0] rfl)
        refine lv_icmp_eq (tgt := 43) hx hb dX2_isMapped_20 (by decide) (fun hc => ?_) (fun hc => ?_)
        · replace hf := if_t hf hc
          exact hj43_10 S4 _ _ _ hf hR hS hE ok_this ok_a1 (lv_sub hl [0, 1, 2] rfl)
        · replace hf := if_f hf hc
          refine lv_aload_n hx hb dX2_isMapped_23 rfl (lv_at hl 0 rfl) ?_
          obtain ⟨q14, hq15, ok_q14, hf⟩ := gR_of hf
          refine gf_RX2_21 hC hR ok_this hq15 dX2_isMapped_24 ?_
          obtain ⟨q16, hq17, ok_q16, hf⟩ := gR_of hf
          refine gf_RX2_146 hC hR ok_q14 hq17 dX2_isMapped_27 ?_
          refine lv_iload_n hx hb dX2_isMapped_30 rfl (lv_at hl 2 rfl) ?_
          obtain ⟨hi18, hf⟩ := ck_of hf
          refine r_iald hC hR ok_q16 hi18 dX2_isMapped_31 ?_
          refine lv_aload_n hx hb dX2_isMapped_32 rfl (lv_at hl 1 rfl) ?_
          obtain ⟨q19, hq20, ok_q19, hf⟩ := gR_of hf
          refine gf_RX2_149 hC hR ok_a1 hq20 dX2_isMapped_33 ?_
          refine lv_iload_n hx hb dX2_isMapped_36 rfl (lv_at hl 2 rfl) ?_
          obtain ⟨hi21, hf⟩ := ck_of hf
          refine r_iald hC hR ok_q19 hi21 dX2_isMapped_37 ?_
          refine lv_icmp_eq (tgt := 43) hx hb dX2_isMapped_38 (by decide) (fun hc => ?_) (fun hc => ?_)
          · replace hf := if_t hf hc
            exact hj43_10 S4 _ _ _ hf hR hS hE ok_this ok_a1 (lv_sub hl [0, 1, 2] rfl)
          · replace hf := if_f hf hc
            refine lv_iconst (v := 0) hx hb dX2_isMapped_41 (by decide) ?_
            exact r_zret hC hR hS hE hf dX2_isMapped_42
  exact hh23 n (0 : Int32) S _ _ _ hf hR hS hE ok_this ok_a1 (lv_sub hl [1, 2, 0] rfl)
abbrev rX2_makers : Room := { frames := 5, cells := 0, slots := 0, locals := 141 }
def f_X2_makers_L4 (n : Nat) (this : Nat) : Nat → Int32 → Int32 → MS → Option (Int32 × MS)
  | 0, _, _, _ => none
  | k + 1, x3, x4, S5 => jn (f_X2_makers_L4 n this k) fun rec4_2 => gR S5 (mR S5 this 4) 8 fun q6 => (if (mI S5 q6 6) ≤ x4 then some (x3, S5) else gR S5 (mR S5 this 6) 15 fun q8 => ck (inb (0 : Int32) (mN S5 q8)) (gR S5 (mR S5 q8 (0 : Int32).toNatClampNeg) 3 fun q11 => gR S5 (mR S5 this 3) 3 fun q13 => cv (f_X3_copyFrom n q11 q13 S5) fun S15 => gR S15 (mR S15 this 5) 9 fun q18 => gR S15 (mR S15 this 6) 15 fun q20 => ck (inb (0 : Int32) (mN S15 q20)) (gR S15 (mR S15 q20 (0 : Int32).toNatClampNeg) 3 fun q23 => cl (f_X9_blow n q18 q23 x4 S15) fun x28 S25 => gR S25 (mR S25 this 6) 15 fun q29 => ck (inb (0 : Int32) (mN S25 q29)) (gR S25 (mR S25 q29 (0 : Int32).toNatClampNeg) 3 fun q32 => cl (f_X2_isMapped n this q32 S25) fun x37 S34 => jn (fun (x40 : Int32) (x41 : Int32) (S42 : MS) => bd (x40 ||| x41) fun x43 => bd (x4 + (1 : Int32)) fun x44 => rec4_2 x43 x44 S42) fun j64_39 => (if x37 = 0 then j64_39 x3 (0 : Int32) S34 else j64_39 x3 ((1 : Int32) <<< (x4 &&& 31)) S34)))))
def f_X2_makers (n : Nat) (this : Nat) (S : MS) : Option (Int32 × MS) :=
  f_X2_makers_L4 n this n (0 : Int32) (0 : Int32) S
set_option maxRecDepth 100000 in
set_option maxHeartbeats 4000000 in
theorem c_X2_makers (l : Launch) (G : Gx) (n : Nat) (this : Nat) (S : MS) (ro : Int32) (So : MS) (hf : f_X2_makers n this S = some (ro, So)) (ok_this : Ok S this 2) : Cn G l yX2_makers cX2_makers 3 (some .int) rX2_makers [.ref this] S (some (.int ro)) So := by
  refine Cn.of (by decide) (Nat.le_of_ble_eq_true rfl) ?_
  intro p e s m args below meth c hC hname hR ls hl
  have hC : Cx G RX2 cX2_makers 3 (some .int) p s m args meth c := hC
  have hl : lv_has ls 3 [(0, .ref this)] := hl
  have hx := hC.x
  have hb := hC.b
  have hS : va_S (gA G) s.heap s.heap [] := va_S.rf
  have hE : Ex S S := Ex.rf S
  unfold f_X2_makers at hf
  refine lv_iconst (v := 0) hx hb dX2_makers_0 (by decide) ?_
  refine lv_istore_n (lv' := [(1, .int (0 : Int32)), (0, .ref this)]) hx hb dX2_makers_1 rfl hl (by decide) rfl (fun ls hl => ?_)
  refine lv_iconst (v := 0) hx hb dX2_makers_2 (by decide) ?_
  refine lv_istore_n (lv' := [(2, .int (0 : Int32)), (1, .int (0 : Int32)), (0, .ref this)]) hx hb dX2_makers_3 rfl hl (by decide) rfl (fun ls hl => ?_)
  have hh48 : ∀ k : Nat, ∀ (x3 : Int32) (x4 : Int32) (S5 : MS) (H : Heap) (locs : List Loc) (ls : Array Slot), f_X2_makers_L4 n this k x3 x4 S5 = some (ro, So) → Rp G S5 H → va_S (gA G) s.heap H locs → Ex S S5 → Ok S5 this 2 → lv_has ls 3 [(0, .ref this), (1, .int x3), (2, .int x4)] → W p l e rX2_makers s m args below meth c H locs 0 0 (MQ below (Qn G S (some (.int ro)) So) args s 0 0 (gA G)) (F0 m 4 ls []) := by
    intro k
    induction k with
    | zero =>
      intro x3 x4 S5 H locs ls hf hR hS hE ok_this hl
      exact absurd hf (by rw [f_X2_makers_L4]; exact fun h => by cases h)
    | succ k ih =>
      intro x3 x4 S5 H locs ls hf hR hS hE ok_this hl
      rw [f_X2_makers_L4] at hf
      obtain ⟨rec4_2, erec4_2, hf⟩ := jn_of3 hf
      have hL4_1 : ∀ (x3 : Int32) (x4 : Int32) (S5 : MS) (H : Heap) (locs : List Loc) (ls : Array Slot), rec4_2 x3 x4 S5 = some (ro, So) → Rp G S5 H → va_S (gA G) s.heap H locs → Ex S S5 → Ok S5 this 2 → lv_has ls 3 [(0, .ref this), (1, .int x3), (2, .int x4)] → W p l e rX2_makers s m args below meth c H locs 0 0 (MQ below (Qn G S (some (.int ro)) So) args s 0 0 (gA G)) (F0 m 4 ls []) := by
        intro x3 x4 S5 H locs ls hf hR hS hE ok_this hl
        rw [erec4_2] at hf
        exact ih x3 x4 S5 _ _ _ hf hR hS hE ok_this hl
      refine lv_iload_n hx hb dX2_makers_4 rfl (lv_at hl 2 rfl) ?_
      refine lv_aload_n hx hb dX2_makers_5 rfl (lv_at hl 0 rfl) ?_
      obtain ⟨q6, hq7, ok_q6, hf⟩ := gR_of hf
      refine gf_RX2_21 hC hR ok_this hq7 dX2_makers_6 ?_
      refine gf_RX2_103 hC hR ok_q6 dX2_makers_9 ?_
      refine lv_icmp_ge (tgt := 72) hx hb dX2_makers_12 (by decide) (fun hc => ?_) (fun hc => ?_)
      · replace hf := if_t hf hc
        refine lv_iload_n hx hb dX2_makers_72 rfl (lv_at hl 1 rfl) ?_
        exact r_iret hC hR hS hE hf dX2_makers_73
      · replace hf := if_f hf hc
        refine lv_aload_n hx hb dX2_makers_15 rfl (lv_at hl 0 rfl) ?_
        obtain ⟨q8, hq9, ok_q8, hf⟩ := gR_of hf
        refine gf_RX2_11 hC hR ok_this hq9 dX2_makers_16 ?_
        refine lv_iconst (v := 0) hx hb dX2_makers_19 (by decide) ?_
        obtain ⟨hi10, hf⟩ := ck_of hf
        obtain ⟨q11, hq12, ok_q11, hf⟩ := gR_of hf
        refine r_pald (v := .ref q11) hC hR ok_q8 hi10 dX2_makers_20 (by rw [hq12]; rfl) ?_
        refine lv_aload_n hx hb dX2_makers_21 rfl (lv_at hl 0 rfl) ?_
        obtain ⟨q13, hq14, ok_q13, hf⟩ := gR_of hf
        refine gf_RX2_17 hC hR ok_this hq14 dX2_makers_22 ?_
        obtain ⟨S15, hc16, hf⟩ := cv_of hf
        refine cl_RX2_36 (As := [.ref q13]) (rest := []) hC hR hS (c_X3_copyFrom l G n q11 q13 S5 S15 hc16 ok_q11 ok_q13) ok_q11 rfl ⟨Nat.le_of_ble_eq_true rfl, Nat.le_of_ble_eq_true rfl⟩ hl.1 rfl (Nat.le_of_ble_eq_true rfl) dX2_makers_25 (Nat.zero_le _) (Nat.zero_le _) (fun H locs hR hS hE17 => ?_)
        have ok_this := hE17 _ _ ok_this
        have ok_q6 := hE17 _ _ ok_q6
        have ok_q8 := hE17 _ _ ok_q8
        have ok_q11 := hE17 _ _ ok_q11
        have ok_q13 := hE17 _ _ ok_q13
        have hE := hE.tr hE17
        refine lv_aload_n hx hb dX2_makers_28 rfl (lv_at hl 0 rfl) ?_
        obtain ⟨q18, hq19, ok_q18, hf⟩ := gR_of hf
        refine gf_RX2_25 hC hR ok_this hq19 dX2_makers_29 ?_
        refine lv_aload_n hx hb dX2_makers_32 rfl (lv_at hl 0 rfl) ?_
        obtain ⟨q20, hq21, ok_q20, hf⟩ := gR_of hf
        refine gf_RX2_11 hC hR ok_this hq21 dX2_makers_33 ?_
        refine lv_iconst (v := 0) hx hb dX2_makers_36 (by decide) ?_
        obtain ⟨hi22, hf⟩ := ck_of hf
        obtain ⟨q23, hq24, ok_q23, hf⟩ := gR_of hf
        refine r_pald (v := .ref q23) hC hR ok_q20 hi22 dX2_makers_37 (by rw [hq24]; rfl) ?_
        refine lv_iload_n hx hb dX2_makers_38 rfl (lv_at hl 2 rfl) ?_
        obtain ⟨x28, S25, hc26, hf⟩ := cl_of hf
        refine cl_RX2_110 (As := [.ref q23, .int x4]) (rest := []) hC hR hS (c_X9_blow l G n q18 q23 x4 S15 x28 S25 hc26 ok_q18 ok_q23) ok_q18 rfl ⟨Nat.le_of_ble_eq_true rfl, Nat.le_of_ble_eq_true rfl⟩ hl.1 rfl (Nat.le_of_ble_eq_true rfl) dX2_makers_39 (Nat.zero_le _) (Nat.zero_le _) (fun H locs hR hS hE27 => ?_)
        have ok_this := hE27 _ _ ok_this
        have ok_q6 := hE27 _ _ ok_q6
        have ok_q8 := hE27 _ _ ok_q8
        have ok_q11 := hE27 _ _ ok_q11
        have ok_q13 := hE27 _ _ ok_q13
        have ok_q18 := hE27 _ _ ok_q18
        have ok_q20 := hE27 _ _ ok_q20
        have ok_q23 := hE27 _ _ ok_q23
        have hE := hE.tr hE27
        refine lv_pop hx hb dX2_makers_42 rfl ?_
        refine lv_iload_n hx hb dX2_makers_43 rfl (lv_at hl 1 rfl) ?_
        refine lv_aload_n hx hb dX2_makers_44 rfl (lv_at hl 0 rfl) ?_
        refine lv_aload_n hx hb dX2_makers_45 rfl (lv_at hl 0 rfl) ?_
        obtain ⟨q29, hq30, ok_q29, hf⟩ := gR_of hf
        refine gf_RX2_11 hC hR ok_this hq30 dX2_makers_46 ?_
        refine lv_iconst (v := 0) hx hb dX2_makers_49 (by decide) ?_
        obtain ⟨hi31, hf⟩ := ck_of hf
        obtain ⟨q32, hq33, ok_q32, hf⟩ := gR_of hf
        refine r_pald (v := .ref q32) hC hR ok_q29 hi31 dX2_makers_50 (by rw [hq33]; rfl) ?_
        obtain ⟨x37, S34, hc35, hf⟩ := cl_of hf
        refine cl_RX2_142 (As := [.ref q32]) (rest := [.int x3]) hC hR hS (c_X2_isMapped l G n this q32 S25 x37 S34 hc35 ok_this ok_q32) ok_this rfl ⟨Nat.le_of_ble_eq_true rfl, Nat.le_of_ble_eq_true rfl⟩ hl.1 rfl (Nat.le_of_ble_eq_true rfl) dX2_makers_51 (Nat.zero_le _) (Nat.zero_le _) (fun H locs hR hS hE36 => ?_)
        have ok_this := hE36 _ _ ok_this
        have ok_q6 := hE36 _ _ ok_q6
        have ok_q8 := hE36 _ _ ok_q8
        have ok_q11 := hE36 _ _ ok_q11
        have ok_q13 := hE36 _ _ ok_q13
        have ok_q18 := hE36 _ _ ok_q18
        have ok_q20 := hE36 _ _ ok_q20
        have ok_q23 := hE36 _ _ ok_q23
        have ok_q29 := hE36 _ _ ok_q29
        have ok_q32 := hE36 _ _ ok_q32
        have hE := hE.tr hE36
        obtain ⟨j64_39, ej64_39, hf⟩ := jn_of3 hf
        have hj64_38 : ∀ (x40 : Int32) (x41 : Int32) (S42 : MS) (H : Heap) (locs : List Loc) (ls : Array Slot), j64_39 x40 x41 S42 = some (ro, So) → Rp G S42 H → va_S (gA G) s.heap H locs → Ex S S42 → Ok S42 this 2 → lv_has ls 3 [(0, .ref this), (2, .int x4)] → W p l e rX2_makers s m args below meth c H locs 0 0 (MQ below (Qn G S (some (.int ro)) So) args s 0 0 (gA G)) (F0 m 64 ls [.int x41, .int x40]) := by
          intro x40 x41 S42 H locs ls hf hR hS hE ok_this hl
          rw [ej64_39] at hf
          refine lv_ior hx hb dX2_makers_64 ?_
          refine bdi hf (fun x43 hf => ?_)
          refine lv_istore_n (lv' := [(1, .int x43), (0, .ref this), (2, .int x4)]) hx hb dX2_makers_65 rfl hl (by decide) rfl (fun ls hl => ?_)
          refine r_iinc (n := 1) (z := 1) (lv' := fun x44 => [(2, .int x44), (1, .int x43), (0, .ref this)]) hx hb dX2_makers_66 hl (k := 2) rfl (by decide) (by decide) (fun _ => rfl) hf (fun x44 ls hf hl => ?_)
          refine lv_goto (tgt := 4) hx hb dX2_makers_69 (by decide) ?_
          exact hL4_1 x43 x44 S42 _ _ _ hf hR hS hE ok_this (lv_sub hl [2, 1, 0] rfl)
        refine lv_if_eq (tgt := 63) hx hb dX2_makers_54 (by decide) (fun hc => ?_) (fun hc => ?_)
        · replace hf := if_t hf hc
          refine lv_iconst (v := 0) hx hb dX2_makers_63 (by decide) ?_
          exact hj64_38 x3 (0 : Int32) S34 _ _ _ hf hR hS hE ok_this (lv_sub hl [0, 2] rfl)
        · replace hf := if_f hf hc
          refine lv_iconst (v := 1) hx hb dX2_makers_57 (by decide) ?_
          refine lv_iload_n hx hb dX2_makers_58 rfl (lv_at hl 2 rfl) ?_
          refine lv_ishl hx hb dX2_makers_59 ?_
          refine lv_goto (tgt := 64) hx hb dX2_makers_60 (by decide) ?_
          exact hj64_38 x3 ((1 : Int32) <<< (x4 &&& 31)) S34 _ _ _ hf hR hS hE ok_this (lv_sub hl [0, 2] rfl)
  exact hh48 n (0 : Int32) (0 : Int32) S _ _ _ hf hR hS hE ok_this (lv_sub hl [2, 1, 0] rfl)
abbrev rX3_addBone : Room := { frames := 2, cells := 0, slots := 0, locals := 42 }
def f_X3_addBone (n : Nat) (this : Nat) (a1 : Int32) (a2 : Int32) (S : MS) : Option (Int32 × MS) :=
  (if a2 < (1 : Int32) then some ((-1 : Int32), S) else (if (99 : Int32) < a2 then some ((-1 : Int32), S) else (if (24 : Int32) ≤ (mI S this 7) then some ((-1 : Int32), S) else cl (f_X3_isOpen n this a1 S) fun x4 S1 => (if x4 = 0 then some ((-1 : Int32), S1) else bd (mI S1 this 7) fun x5 => bd (sI S1 this 7 ((mI S1 this 7) + (1 : Int32))) fun S6 => gR S6 (mR S6 this 1) 12 fun q8 => ck (inb x5 (mN S6 q8)) (bd (sI S6 q8 x5.toNatClampNeg a1) fun S11 => gR S11 (mR S11 this 2) 12 fun q13 => ck (inb x5 (mN S11 q13)) (bd (sI S11 q13 x5.toNatClampNeg a2) fun S16 => gR S16 (mR S16 this 3) 12 fun q18 => ck (inb x5 (mN S16 q18)) (bd (sI S16 q18 x5.toNatClampNeg (0 : Int32)) fun S21 => bd (sJ S21 this 10 ((mJ S21 this 10) ||| (lsh (1 : Int64) a1))) fun S23 => gR S23 (mR S23 this 6) 12 fun q25 => ck (inb a1 (mN S23 q25)) (bd (sI S23 q25 a1.toNatClampNeg (-1 : Int32)) fun S28 => some (x5, S28)))))))))
set_option maxRecDepth 100000 in
set_option maxHeartbeats 4000000 in
theorem c_X3_addBone (l : Launch) (G : Gx) (n : Nat) (this : Nat) (a1 : Int32) (a2 : Int32) (S : MS) (ro : Int32) (So : MS) (hf : f_X3_addBone n this a1 a2 S = some (ro, So)) (ok_this : Ok S this 3) : Cn G l yX3_addBone cX3_addBone 4 (some .int) rX3_addBone [.ref this, .int a1, .int a2] S (some (.int ro)) So := by
  refine Cn.of (by decide) (Nat.le_of_ble_eq_true rfl) ?_
  intro p e s m args below meth c hC hname hR ls hl
  have hC : Cx G RX3 cX3_addBone 4 (some .int) p s m args meth c := hC
  have hl : lv_has ls 4 [(0, .ref this), (1, .int a1), (2, .int a2)] := hl
  have hx := hC.x
  have hb := hC.b
  have hS : va_S (gA G) s.heap s.heap [] := va_S.rf
  have hE : Ex S S := Ex.rf S
  unfold f_X3_addBone at hf
  refine lv_iload_n hx hb dX3_addBone_0 rfl (lv_at hl 2 rfl) ?_
  refine lv_iconst (v := 1) hx hb dX3_addBone_1 (by decide) ?_
  refine lv_icmp_lt (tgt := 28) hx hb dX3_addBone_2 (by decide) (fun hc => ?_) (fun hc => ?_)
  · replace hf := if_t hf hc
    refine lv_iconst (v := -1) hx hb dX3_addBone_28 (by decide) ?_
    exact r_iret hC hR hS hE hf dX3_addBone_29
  · replace hf := if_f hf hc
    refine lv_iload_n hx hb dX3_addBone_5 rfl (lv_at hl 2 rfl) ?_
    refine lv_bipush (v := 99) hx hb dX3_addBone_6 (by decide) ?_
    refine lv_icmp_gt (tgt := 28) hx hb dX3_addBone_8 (by decide) (fun hc => ?_) (fun hc => ?_)
    · replace hf := if_t hf hc
      refine lv_iconst (v := -1) hx hb dX3_addBone_28 (by decide) ?_
      exact r_iret hC hR hS hE hf dX3_addBone_29
    · replace hf := if_f hf hc
      refine lv_aload_n hx hb dX3_addBone_11 rfl (lv_at hl 0 rfl) ?_
      refine gf_RX3_57 hC hR ok_this dX3_addBone_12 ?_
      refine lv_bipush (v := 24) hx hb dX3_addBone_15 (by decide) ?_
      refine lv_icmp_ge (tgt := 28) hx hb dX3_addBone_17 (by decide) (fun hc => ?_) (fun hc => ?_)
      · replace hf := if_t hf hc
        refine lv_iconst (v := -1) hx hb dX3_addBone_28 (by decide) ?_
        exact r_iret hC hR hS hE hf dX3_addBone_29
      · replace hf := if_f hf hc
        refine lv_aload_n hx hb dX3_addBone_20 rfl (lv_at hl 0 rfl) ?_
        refine lv_iload_n hx hb dX3_addBone_21 rfl (lv_at hl 1 rfl) ?_
        obtain ⟨x4, S1, hc2, hf⟩ := cl_of hf
        refine cl_RX3_77 (As := [.int a1]) (rest := []) hC hR hS (c_X3_isOpen l G n this a1 S x4 S1 hc2 ok_this) ok_this rfl ⟨Nat.le_of_ble_eq_true rfl, Nat.le_of_ble_eq_true rfl⟩ hl.1 rfl (Nat.le_of_ble_eq_true rfl) dX3_addBone_22 (Nat.zero_le _) (Nat.zero_le _) (fun H locs hR hS hE3 => ?_)
        have ok_this := hE3 _ _ ok_this
        have hE := hE.tr hE3
        refine lv_if_ne (tgt := 30) hx hb dX3_addBone_25 (by decide) (fun hc => ?_) (fun hc => ?_)
        · replace hf := if_f hf hc
          refine lv_aload_n hx hb dX3_addBone_30 rfl (lv_at hl 0 rfl) ?_
          refine gf_RX3_57 hC hR ok_this dX3_addBone_31 ?_
          refine bdi hf (fun x5 hf => ?_)
          refine lv_istore_n (lv' := [(3, .int x5), (0, .ref this), (1, .int a1), (2, .int a2)]) hx hb dX3_addBone_34 rfl hl (by decide) rfl (fun ls hl => ?_)
          refine lv_aload_n hx hb dX3_addBone_35 rfl (lv_at hl 1 rfl) ?_
          refine lv_dup hx hb dX3_addBone_36 rfl ?_
          refine gf_RX3_57 hC hR ok_this dX3_addBone_37 ?_
          refine lv_iconst (v := 1) hx hb dX3_addBone_40 (by decide) ?_
          refine lv_iadd hx hb dX3_addBone_41 ?_
          refine pf_RX3_57 hC hR hS ok_this dX3_addBone_42 hf (fun S6 H locs hf hR hS hE7 => ?_)
          have ok_this := hE7 _ _ ok_this
          have hE := hE.tr hE7
          refine lv_aload_n hx hb dX3_addBone_45 rfl (lv_at hl 1 rfl) ?_
          obtain ⟨q8, hq9, ok_q8, hf⟩ := gR_of hf
          refine gf_RX3_9 hC hR ok_this hq9 dX3_addBone_46 ?_
          refine lv_iload_n hx hb dX3_addBone_49 rfl (lv_at hl 0 rfl) ?_
          refine lv_iload_n hx hb dX3_addBone_50 rfl (lv_at hl 2 rfl) ?_
          obtain ⟨hi10, hf⟩ := ck_of hf
          refine rB_iast hC hR hS ok_q8 hi10 dX3_addBone_51 hf (fun S11 H locs hf hR hS hE12 => ?_)
          have ok_this := hE12 _ _ ok_this
          have ok_q8 := hE12 _ _ ok_q8
          have hE := hE.tr hE12
          refine lv_aload_n hx hb dX3_addBone_52 rfl (lv_at hl 1 rfl) ?_
          obtain ⟨q13, hq14, ok_q13, hf⟩ := gR_of hf
          refine gf_RX3_15 hC hR ok_this hq14 dX3_addBone_53 ?_
          refine lv_iload_n hx hb dX3_addBone_56 rfl (lv_at hl 0 rfl) ?_
          refine lv_iload_n hx hb dX3_addBone_57 rfl (lv_at hl 3 rfl) ?_
          obtain ⟨hi15, hf⟩ := ck_of hf
          refine rB_iast hC hR hS ok_q13 hi15 dX3_addBone_58 hf (fun S16 H locs hf hR hS hE17 => ?_)
          have ok_this := hE17 _ _ ok_this
          have ok_q8 := hE17 _ _ ok_q8
          have ok_q13 := hE17 _ _ ok_q13
          have hE := hE.tr hE17
          refine lv_aload_n hx hb dX3_addBone_59 rfl (lv_at hl 1 rfl) ?_
          obtain ⟨q18, hq19, ok_q18, hf⟩ := gR_of hf
          refine gf_RX3_18 hC hR ok_this hq19 dX3_addBone_60 ?_
          refine lv_iload_n hx hb dX3_addBone_63 rfl (lv_at hl 0 rfl) ?_
          refine lv_iconst (v := 0) hx hb dX3_addBone_64 (by decide) ?_
          obtain ⟨hi20, hf⟩ := ck_of hf
          refine rB_iast hC hR hS ok_q18 hi20 dX3_addBone_65 hf (fun S21 H locs hf hR hS hE22 => ?_)
          have ok_this := hE22 _ _ ok_this
          have ok_q8 := hE22 _ _ ok_q8
          have ok_q13 := hE22 _ _ ok_q13
          have ok_q18 := hE22 _ _ ok_q18
          have hE := hE.tr hE22
          refine lv_aload_n hx hb dX3_addBone_66 rfl (lv_at hl 1 rfl) ?_
          refine lv_dup hx hb dX3_addBone_67 rfl ?_
          refine gf_RX3_67 hC hR ok_this dX3_addBone_68 ?_
          refine lv_lconst (v := 1) hx hb dX3_addBone_71 (by decide) ?_
          refine lv_iload_n hx hb dX3_addBone_72 rfl (lv_at hl 2 rfl) ?_
          refine lv_lshl (v := (lsh (1 : Int64) a1)) hx hb dX3_addBone_73 rfl ?_
          refine lv_lor hx hb dX3_addBone_74 ?_
          refine pf_RX3_67 hC hR hS ok_this dX3_addBone_75 hf (fun S23 H locs hf hR hS hE24 => ?_)
          have ok_this := hE24 _ _ ok_this
          have ok_q8 := hE24 _ _ ok_q8
          have ok_q13 := hE24 _ _ ok_q13
          have ok_q18 := hE24 _ _ ok_q18
          have hE := hE.tr hE24
          refine lv_aload_n hx hb dX3_addBone_78 rfl (lv_at hl 1 rfl) ?_
          obtain ⟨q25, hq26, ok_q25, hf⟩ := gR_of hf
          refine gf_RX3_36 hC hR ok_this hq26 dX3_addBone_79 ?_
          refine lv_iload_n hx hb dX3_addBone_82 rfl (lv_at hl 2 rfl) ?_
          refine lv_iconst (v := -1) hx hb dX3_addBone_83 (by decide) ?_
          obtain ⟨hi27, hf⟩ := ck_of hf
          refine rB_iast hC hR hS ok_q25 hi27 dX3_addBone_84 hf (fun S28 H locs hf hR hS hE29 => ?_)
          have ok_this := hE29 _ _ ok_this
          have ok_q8 := hE29 _ _ ok_q8
          have ok_q13 := hE29 _ _ ok_q13
          have ok_q18 := hE29 _ _ ok_q18
          have ok_q25 := hE29 _ _ ok_q25
          have hE := hE.tr hE29
          refine lv_iload_n hx hb dX3_addBone_85 rfl (lv_at hl 0 rfl) ?_
          exact r_iret hC hR hS hE hf dX3_addBone_86
        · replace hf := if_t hf hc
          refine lv_iconst (v := -1) hx hb dX3_addBone_28 (by decide) ?_
          exact r_iret hC hR hS hE hf dX3_addBone_29
abbrev rX10_isFarmer : Room := { frames := 0, cells := 0, slots := 0, locals := 0 }
def f_X10_isFarmer (_n : Nat) (a1 : Int32) (S : MS) : Option (Int32 × MS) :=
  (if a1 < 0 then zb (0 : Int32) (some ((0 : Int32), S)) else (if (6 : Int32) ≤ a1 then zb (0 : Int32) (some ((0 : Int32), S)) else zb (1 : Int32) (some ((1 : Int32), S))))
set_option maxRecDepth 100000 in
set_option maxHeartbeats 4000000 in
theorem c_X10_isFarmer (l : Launch) (G : Gx) (n : Nat) (a1 : Int32) (S : MS) (ro : Int32) (So : MS) (hf : f_X10_isFarmer n a1 S = some (ro, So)) : Cn G l yX10_isFarmer cX10_isFarmer 1 (some .boolean) rX10_isFarmer [.int a1] S (some (.int ro)) So := by
  refine Cn.of (by decide) (Nat.le_of_ble_eq_true rfl) ?_
  intro p e s m args below meth c hC hname hR ls hl
  have hC : Cx G RX10 cX10_isFarmer 1 (some .boolean) p s m args meth c := hC
  have hl : lv_has ls 1 [(0, .int a1)] := hl
  have hx := hC.x
  have hb := hC.b
  have hS : va_S (gA G) s.heap s.heap [] := va_S.rf
  have hE : Ex S S := Ex.rf S
  unfold f_X10_isFarmer at hf
  refine lv_iload_n hx hb dX10_isFarmer_0 rfl (lv_at hl 0 rfl) ?_
  refine lv_if_lt (tgt := 14) hx hb dX10_isFarmer_1 (by decide) (fun hc => ?_) (fun hc => ?_)
  · replace hf := if_t hf hc
    refine lv_iconst (v := 0) hx hb dX10_isFarmer_14 (by decide) ?_
    exact r_zret hC hR hS hE hf dX10_isFarmer_15
  · replace hf := if_f hf hc
    refine lv_iload_n hx hb dX10_isFarmer_4 rfl (lv_at hl 0 rfl) ?_
    refine lv_bipush (v := 6) hx hb dX10_isFarmer_5 (by decide) ?_
    refine lv_icmp_ge (tgt := 14) hx hb dX10_isFarmer_7 (by decide) (fun hc => ?_) (fun hc => ?_)
    · replace hf := if_t hf hc
      refine lv_iconst (v := 0) hx hb dX10_isFarmer_14 (by decide) ?_
      exact r_zret hC hR hS hE hf dX10_isFarmer_15
    · replace hf := if_f hf hc
      refine lv_iconst (v := 1) hx hb dX10_isFarmer_10 (by decide) ?_
      refine lv_goto (tgt := 15) hx hb dX10_isFarmer_11 (by decide) ?_
      exact r_zret hC hR hS hE hf dX10_isFarmer_15
abbrev rX3_setStake : Room := { frames := 1, cells := 0, slots := 0, locals := 21 }
def f_X3_setStake_L54 (n : Nat) (this : Nat) : Nat → Int32 → MS → Option (Int32 × MS)
  | 0, _, _ => none
  | k + 1, x17, S18 => jn (f_X3_setStake_L54 n this k) fun rec54_16 => (if (6 : Int32) ≤ x17 then zb (1 : Int32) (some ((1 : Int32), S18)) else gR S18 (mR S18 this 4) 12 fun q19 => ck (inb x17 (mN S18 q19)) (jn (fun (q24 : Nat) (x25 : Int64) (x26 : Int64) (S27 : MS) => bd (sJ S27 q24 11 (x25 ||| x26)) fun S28 => bd (x17 + (1 : Int32)) fun x30 => rec54_16 x30 S28) fun j87_23 => (if (mI S18 q19 x17.toNatClampNeg) = (-1 : Int32) then j87_23 this (mJ S18 this 11) (0 : Int64) S18 else gR S18 (mR S18 this 4) 12 fun q31 => ck (inb x17 (mN S18 q31)) (j87_23 this (mJ S18 this 11) (lsh (1 : Int64) (mI S18 q31 x17.toNatClampNeg)) S18))))
def f_X3_setStake (n : Nat) (this : Nat) (a1 : Int32) (a2 : Int32) (S : MS) : Option (Int32 × MS) :=
  cl (f_X10_isFarmer n a1 S) fun x4 S1 => (if x4 = 0 then zb (0 : Int32) (some ((0 : Int32), S1)) else jn (fun (S7 : MS) => gR S7 (mR S7 this 4) 12 fun q8 => ck (inb a1 (mN S7 q8)) (bd (sI S7 q8 a1.toNatClampNeg a2) fun S11 => bd (sJ S11 this 11 (0 : Int64)) fun S13 => f_X3_setStake_L54 n this n (0 : Int32) S13)) fun j40_6 => (if a2 = (-1 : Int32) then j40_6 S1 else gR S1 (mR S1 this 0) 1 fun q39 => cl (f_X1_holds n q39 a2 S1) fun x44 S41 => (if x44 = 0 then zb (0 : Int32) (some ((0 : Int32), S41)) else (if (lg_cmp ((lush (mJ S41 this 10) a2) &&& (1 : Int64)) (0 : Int64)) = 0 then j40_6 S41 else zb (0 : Int32) (some ((0 : Int32), S41))))))
set_option maxRecDepth 100000 in
set_option maxHeartbeats 4000000 in
theorem c_X3_setStake (l : Launch) (G : Gx) (n : Nat) (this : Nat) (a1 : Int32) (a2 : Int32) (S : MS) (ro : Int32) (So : MS) (hf : f_X3_setStake n this a1 a2 S = some (ro, So)) (ok_this : Ok S this 3) : Cn G l yX3_setStake cX3_setStake 4 (some .boolean) rX3_setStake [.ref this, .int a1, .int a2] S (some (.int ro)) So := by
  refine Cn.of (by decide) (Nat.le_of_ble_eq_true rfl) ?_
  intro p e s m args below meth c hC hname hR ls hl
  have hC : Cx G RX3 cX3_setStake 4 (some .boolean) p s m args meth c := hC
  have hl : lv_has ls 4 [(0, .ref this), (1, .int a1), (2, .int a2)] := hl
  have hx := hC.x
  have hb := hC.b
  have hS : va_S (gA G) s.heap s.heap [] := va_S.rf
  have hE : Ex S S := Ex.rf S
  unfold f_X3_setStake at hf
  refine lv_iload_n hx hb dX3_setStake_0 rfl (lv_at hl 1 rfl) ?_
  obtain ⟨x4, S1, hc2, hf⟩ := cl_of hf
  refine cl_RX3_80 (As := [.int a1]) (rest := []) hC hR hS (c_X10_isFarmer l G n a1 S x4 S1 hc2 ) rfl ⟨Nat.le_of_ble_eq_true rfl, Nat.le_of_ble_eq_true rfl⟩ hl.1 rfl (Nat.le_of_ble_eq_true rfl) dX3_setStake_1 (Nat.zero_le _) (Nat.zero_le _) (fun H locs hR hS hE3 => ?_)
  have ok_this := hE3 _ _ ok_this
  have hE := hE.tr hE3
  refine lv_if_ne (tgt := 9) hx hb dX3_setStake_4 (by decide) (fun hc => ?_) (fun hc => ?_)
  · replace hf := if_f hf hc
    refine lv_iload_n hx hb dX3_setStake_9 rfl (lv_at hl 2 rfl) ?_
    refine lv_iconst (v := -1) hx hb dX3_setStake_10 (by decide) ?_
    obtain ⟨j40_6, ej40_6, hf⟩ := jn_of1 hf
    have hj40_5 : ∀ (S7 : MS) (H : Heap) (locs : List Loc) (ls : Array Slot), j40_6 S7 = some (ro, So) → Rp G S7 H → va_S (gA G) s.heap H locs → Ex S S7 → Ok S7 this 3 → lv_has ls 4 [(0, .ref this), (1, .int a1), (2, .int a2)] → W p l e rX3_setStake s m args below meth c H locs 0 0 (MQ below (Qn G S (some (.int ro)) So) args s 0 0 (gA G)) (F0 m 40 ls []) := by
      intro S7 H locs ls hf hR hS hE ok_this hl
      rw [ej40_6] at hf
      refine lv_aload_n hx hb dX3_setStake_40 rfl (lv_at hl 0 rfl) ?_
      obtain ⟨q8, hq9, ok_q8, hf⟩ := gR_of hf
      refine gf_RX3_21 hC hR ok_this hq9 dX3_setStake_41 ?_
      refine lv_iload_n hx hb dX3_setStake_44 rfl (lv_at hl 1 rfl) ?_
      refine lv_iload_n hx hb dX3_setStake_45 rfl (lv_at hl 2 rfl) ?_
      obtain ⟨hi10, hf⟩ := ck_of hf
      refine rB_iast hC hR hS ok_q8 hi10 dX3_setStake_46 hf (fun S11 H locs hf hR hS hE12 => ?_)
      have ok_this := hE12 _ _ ok_this
      have ok_q8 := hE12 _ _ ok_q8
      have hE := hE.tr hE12
      refine lv_aload_n hx hb dX3_setStake_47 rfl (lv_at hl 0 rfl) ?_
      refine lv_lconst (v := 0) hx hb dX3_setStake_48 (by decide) ?_
      refine pf_RX3_70 hC hR hS ok_this dX3_setStake_49 hf (fun S13 H locs hf hR hS hE14 => ?_)
      have ok_this := hE14 _ _ ok_this
      have ok_q8 := hE14 _ _ ok_q8
      have hE := hE.tr hE14
      refine lv_iconst (v := 0) hx hb dX3_setStake_52 (by decide) ?_
      refine lv_istore_n (lv' := [(3, .int (0 : Int32)), (0, .ref this), (1, .int a1), (2, .int a2)]) hx hb dX3_setStake_53 rfl hl (by decide) rfl (fun ls hl => ?_)
      have hh38 : ∀ k : Nat, ∀ (x17 : Int32) (S18 : MS) (H : Heap) (locs : List Loc) (ls : Array Slot), f_X3_setStake_L54 n this k x17 S18 = some (ro, So) → Rp G S18 H → va_S (gA G) s.heap H locs → Ex S S18 → Ok S18 this 3 → lv_has ls 4 [(0, .ref this), (3, .int x17)] → W p l e rX3_setStake s m args below meth c H locs 0 0 (MQ below (Qn G S (some (.int ro)) So) args s 0 0 (gA G)) (F0 m 54 ls []) := by
        intro k
        induction k with
        | zero =>
          intro x17 S18 H locs ls hf hR hS hE ok_this hl
          exact absurd hf (by rw [f_X3_setStake_L54]; exact fun h => by cases h)
        | succ k ih =>
          intro x17 S18 H locs ls hf hR hS hE ok_this hl
          rw [f_X3_setStake_L54] at hf
          obtain ⟨rec54_16, erec54_16, hf⟩ := jn_of2 hf
          have hL54_15 : ∀ (x17 : Int32) (S18 : MS) (H : Heap) (locs : List Loc) (ls : Array Slot), rec54_16 x17 S18 = some (ro, So) → Rp G S18 H → va_S (gA G) s.heap H locs → Ex S S18 → Ok S18 this 3 → lv_has ls 4 [(0, .ref this), (3, .int x17)] → W p l e rX3_setStake s m args below meth c H locs 0 0 (MQ below (Qn G S (some (.int ro)) So) args s 0 0 (gA G)) (F0 m 54 ls []) := by
            intro x17 S18 H locs ls hf hR hS hE ok_this hl
            rw [erec54_16] at hf
            exact ih x17 S18 _ _ _ hf hR hS hE ok_this hl
          refine lv_iload_n hx hb dX3_setStake_54 rfl (lv_at hl 1 rfl) ?_
          refine lv_bipush (v := 6) hx hb dX3_setStake_55 (by decide) ?_
          refine lv_icmp_ge (tgt := 97) hx hb dX3_setStake_57 (by decide) (fun hc => ?_) (fun hc => ?_)
          · replace hf := if_t hf hc
            refine lv_iconst (v := 1) hx hb dX3_setStake_97 (by decide) ?_
            exact r_zret hC hR hS hE hf dX3_setStake_98
          · replace hf := if_f hf hc
            refine lv_aload_n hx hb dX3_setStake_60 rfl (lv_at hl 0 rfl) ?_
            refine lv_dup hx hb dX3_setStake_61 rfl ?_
            refine gf_RX3_70 hC hR ok_this dX3_setStake_62 ?_
            refine lv_aload_n hx hb dX3_setStake_65 rfl (lv_at hl 0 rfl) ?_
            obtain ⟨q19, hq20, ok_q19, hf⟩ := gR_of hf
            refine gf_RX3_21 hC hR ok_this hq20 dX3_setStake_66 ?_
            refine lv_iload_n hx hb dX3_setStake_69 rfl (lv_at hl 1 rfl) ?_
            obtain ⟨hi21, hf⟩ := ck_of hf
            refine r_iald hC hR ok_q19 hi21 dX3_setStake_70 ?_
            refine lv_iconst (v := -1) hx hb dX3_setStake_71 (by decide) ?_
            obtain ⟨j87_23, ej87_23, hf⟩ := jn_of4 hf
            have hj87_22 : ∀ (q24 : Nat) (x25 : Int64) (x26 : Int64) (S27 : MS) (H : Heap) (locs : List Loc) (ls : Array Slot), j87_23 q24 x25 x26 S27 = some (ro, So) → Rp G S27 H → va_S (gA G) s.heap H locs → Ex S S27 → Ok S27 this 3 → Ok S27 q24 3 → lv_has ls 4 [(0, .ref this), (3, .int x17)] → W p l e rX3_setStake s m args below meth c H locs 0 0 (MQ below (Qn G S (some (.int ro)) So) args s 0 0 (gA G)) (F0 m 87 ls [.long x26, .long x25, .ref q24]) := by
              intro q24 x25 x26 S27 H locs ls hf hR hS hE ok_this ok_q24 hl
              rw [ej87_23] at hf
              refine lv_lor hx hb dX3_setStake_87 ?_
              refine pf_RX3_70 hC hR hS ok_q24 dX3_setStake_88 hf (fun S28 H locs hf hR hS hE29 => ?_)
              have ok_this := hE29 _ _ ok_this
              have ok_q24 := hE29 _ _ ok_q24
              have hE := hE.tr hE29
              refine r_iinc (n := 1) (z := 1) (lv' := fun x30 => [(3, .int x30), (0, .ref this)]) hx hb dX3_setStake_91 hl (k := 1) rfl (by decide) (by decide) (fun _ => rfl) hf (fun x30 ls hf hl => ?_)
              refine lv_goto (tgt := 54) hx hb dX3_setStake_94 (by decide) ?_
              exact hL54_15 x30 S28 _ _ _ hf hR hS hE ok_this (lv_sub hl [1, 0] rfl)
            refine lv_icmp_ne (tgt := 79) hx hb dX3_setStake_72 (by decide) (fun hc => ?_) (fun hc => ?_)
            · replace hf := if_f hf hc
              refine lv_lconst (v := 1) hx hb dX3_setStake_79 (by decide) ?_
              refine lv_aload_n hx hb dX3_setStake_80 rfl (lv_at hl 0 rfl) ?_
              obtain ⟨q31, hq32, ok_q31, hf⟩ := gR_of hf
              refine gf_RX3_21 hC hR ok_this hq32 dX3_setStake_81 ?_
              refine lv_iload_n hx hb dX3_setStake_84 rfl (lv_at hl 1 rfl) ?_
              obtain ⟨hi33, hf⟩ := ck_of hf
              refine r_iald hC hR ok_q31 hi33 dX3_setStake_85 ?_
              refine lv_lshl (v := (lsh (1 : Int64) (mI S18 q31 x17.toNatClampNeg))) hx hb dX3_setStake_86 rfl ?_
              exact hj87_22 this (mJ S18 this 11) (lsh (1 : Int64) (mI S18 q31 x17.toNatClampNeg)) S18 _ _ _ hf hR hS hE ok_this ok_this (lv_sub hl [0, 1] rfl)
            · replace hf := if_t hf hc
              refine lv_lconst (v := 0) hx hb dX3_setStake_75 (by decide) ?_
              refine lv_goto (tgt := 87) hx hb dX3_setStake_76 (by decide) ?_
              exact hj87_22 this (mJ S18 this 11) (0 : Int64) S18 _ _ _ hf hR hS hE ok_this ok_this (lv_sub hl [0, 1] rfl)
      exact hh38 n (0 : Int32) S13 _ _ _ hf hR hS hE ok_this (lv_sub hl [1, 0] rfl)
    refine lv_icmp_eq (tgt := 40) hx hb dX3_setStake_11 (by decide) (fun hc => ?_) (fun hc => ?_)
    · replace hf := if_t hf hc
      exact hj40_5 S1 _ _ _ hf hR hS hE ok_this (lv_sub hl [0, 1, 2] rfl)
    · replace hf := if_f hf hc
      refine lv_aload_n hx hb dX3_setStake_14 rfl (lv_at hl 0 rfl) ?_
      obtain ⟨q39, hq40, ok_q39, hf⟩ := gR_of hf
      refine gf_RX3_27 hC hR ok_this hq40 dX3_setStake_15 ?_
      refine lv_iload_n hx hb dX3_setStake_18 rfl (lv_at hl 2 rfl) ?_
      obtain ⟨x44, S41, hc42, hf⟩ := cl_of hf
      refine cl_RX3_73 (As := [.int a2]) (rest := []) hC hR hS (c_X1_holds l G n q39 a2 S1 x44 S41 hc42 ok_q39) ok_q39 rfl ⟨Nat.le_of_ble_eq_true rfl, Nat.le_of_ble_eq_true rfl⟩ hl.1 rfl (Nat.le_of_ble_eq_true rfl) dX3_setStake_19 (Nat.zero_le _) (Nat.zero_le _) (fun H locs hR hS hE43 => ?_)
      have ok_this := hE43 _ _ ok_this
      have ok_q39 := hE43 _ _ ok_q39
      have hE := hE.tr hE43
      refine lv_if_eq (tgt := 38) hx hb dX3_setStake_22 (by decide) (fun hc => ?_) (fun hc => ?_)
      · replace hf := if_t hf hc
        refine lv_iconst (v := 0) hx hb dX3_setStake_38 (by decide) ?_
        exact r_zret hC hR hS hE hf dX3_setStake_39
      · replace hf := if_f hf hc
        refine lv_aload_n hx hb dX3_setStake_25 rfl (lv_at hl 0 rfl) ?_
        refine gf_RX3_67 hC hR ok_this dX3_setStake_26 ?_
        refine lv_iload_n hx hb dX3_setStake_29 rfl (lv_at hl 2 rfl) ?_
        refine lv_lushr (v := (lush (mJ S41 this 10) a2)) hx hb dX3_setStake_30 rfl ?_
        refine lv_lconst (v := 1) hx hb dX3_setStake_31 (by decide) ?_
        refine lv_land hx hb dX3_setStake_32 ?_
        refine lv_lconst (v := 0) hx hb dX3_setStake_33 (by decide) ?_
        refine W.lcmp hx hb dX3_setStake_34 ?_
        refine lv_if_eq (tgt := 40) hx hb dX3_setStake_35 (by decide) (fun hc => ?_) (fun hc => ?_)
        · replace hf := if_t hf hc
          exact hj40_5 S41 _ _ _ hf hR hS hE ok_this (lv_sub hl [0, 1, 2] rfl)
        · replace hf := if_f hf hc
          refine lv_iconst (v := 0) hx hb dX3_setStake_38 (by decide) ?_
          exact r_zret hC hR hS hE hf dX3_setStake_39
  · replace hf := if_t hf hc
    refine lv_iconst (v := 0) hx hb dX3_setStake_7 (by decide) ?_
    exact r_zret hC hR hS hE hf dX3_setStake_8
abbrev rX3_clearOff : Room := { frames := 1, cells := 0, slots := 0, locals := 23 }
def f_X3_clearOff (n : Nat) (this : Nat) (S : MS) : Option (MS) :=
  bd (sI S this 7 (0 : Int32)) fun S1 => bd (sJ S1 this 10 (0 : Int64)) fun S3 => bd (sJ S3 this 11 (0 : Int64)) fun S5 => gR S5 (mR S5 this 4) 12 fun q7 => cv (f_J7_fill_53178 n q7 (-1 : Int32) S5) fun S9 => gR S9 (mR S9 this 6) 12 fun q12 => cv (f_J7_fill_53178 n q12 (-1 : Int32) S9) fun S14 => some S14
set_option maxRecDepth 100000 in
set_option maxHeartbeats 4000000 in
theorem c_X3_clearOff (l : Launch) (G : Gx) (n : Nat) (this : Nat) (S : MS) (So : MS) (hf : f_X3_clearOff n this S = some So) (ok_this : Ok S this 3) : Cn G l yX3_clearOff cX3_clearOff 1 none rX3_clearOff [.ref this] S none So := by
  refine Cn.of (by decide) (Nat.le_of_ble_eq_true rfl) ?_
  intro p e s m args below meth c hC hname hR ls hl
  have hC : Cx G RX3 cX3_clearOff 1 none p s m args meth c := hC
  have hl : lv_has ls 1 [(0, .ref this)] := hl
  have hx := hC.x
  have hb := hC.b
  have hS : va_S (gA G) s.heap s.heap [] := va_S.rf
  have hE : Ex S S := Ex.rf S
  unfold f_X3_clearOff at hf
  refine lv_aload_n hx hb dX3_clearOff_0 rfl (lv_at hl 0 rfl) ?_
  refine lv_iconst (v := 0) hx hb dX3_clearOff_1 (by decide) ?_
  refine pf_RX3_57 hC hR hS ok_this dX3_clearOff_2 hf (fun S1 H locs hf hR hS hE2 => ?_)
  have ok_this := hE2 _ _ ok_this
  have hE := hE.tr hE2
  refine lv_aload_n hx hb dX3_clearOff_5 rfl (lv_at hl 0 rfl) ?_
  refine lv_lconst (v := 0) hx hb dX3_clearOff_6 (by decide) ?_
  refine pf_RX3_67 hC hR hS ok_this dX3_clearOff_7 hf (fun S3 H locs hf hR hS hE4 => ?_)
  have ok_this := hE4 _ _ ok_this
  have hE := hE.tr hE4
  refine lv_aload_n hx hb dX3_clearOff_10 rfl (lv_at hl 0 rfl) ?_
  refine lv_lconst (v := 0) hx hb dX3_clearOff_11 (by decide) ?_
  refine pf_RX3_70 hC hR hS ok_this dX3_clearOff_12 hf (fun S5 H locs hf hR hS hE6 => ?_)
  have ok_this := hE6 _ _ ok_this
  have hE := hE.tr hE6
  refine lv_aload_n hx hb dX3_clearOff_15 rfl (lv_at hl 0 rfl) ?_
  obtain ⟨q7, hq8, ok_q7, hf⟩ := gR_of hf
  refine gf_RX3_21 hC hR ok_this hq8 dX3_clearOff_16 ?_
  refine lv_iconst (v := -1) hx hb dX3_clearOff_19 (by decide) ?_
  obtain ⟨S9, hc10, hf⟩ := cv_of hf
  refine cl_RX3_39 (As := [.ref q7, .int (-1 : Int32)]) (rest := []) hC hR hS (c_J7_fill_53178 l G n q7 (-1 : Int32) S5 S9 hc10 ok_q7) rfl ⟨Nat.le_of_ble_eq_true rfl, Nat.le_of_ble_eq_true rfl⟩ hl.1 rfl (Nat.le_of_ble_eq_true rfl) dX3_clearOff_20 (Nat.zero_le _) (Nat.zero_le _) (fun H locs hR hS hE11 => ?_)
  have ok_this := hE11 _ _ ok_this
  have ok_q7 := hE11 _ _ ok_q7
  have hE := hE.tr hE11
  refine lv_aload_n hx hb dX3_clearOff_23 rfl (lv_at hl 0 rfl) ?_
  obtain ⟨q12, hq13, ok_q12, hf⟩ := gR_of hf
  refine gf_RX3_36 hC hR ok_this hq13 dX3_clearOff_24 ?_
  refine lv_iconst (v := -1) hx hb dX3_clearOff_27 (by decide) ?_
  obtain ⟨S14, hc15, hf⟩ := cv_of hf
  refine cl_RX3_39 (As := [.ref q12, .int (-1 : Int32)]) (rest := []) hC hR hS (c_J7_fill_53178 l G n q12 (-1 : Int32) S9 S14 hc15 ok_q12) rfl ⟨Nat.le_of_ble_eq_true rfl, Nat.le_of_ble_eq_true rfl⟩ hl.1 rfl (Nat.le_of_ble_eq_true rfl) dX3_clearOff_28 (Nat.zero_le _) (Nat.zero_le _) (fun H locs hR hS hE16 => ?_)
  have ok_this := hE16 _ _ ok_this
  have ok_q7 := hE16 _ _ ok_q7
  have ok_q12 := hE16 _ _ ok_q12
  have hE := hE.tr hE16
  exact r_vret hC hR hS hE hf dX3_clearOff_31
abbrev rX3_drawnBy : Room := { frames := 3, cells := 0, slots := 0, locals := 65 }
def f_X3_drawnBy_L2 (n : Nat) (this : Nat) (a1 : Option Nat) : Nat → Int32 → MS → Option (Int32 × MS)
  | 0, _, _ => none
  | k + 1, x3, S4 => jn (f_X3_drawnBy_L2 n this a1 k) fun rec2_2 => nn a1 fun q5 => (if (mI S4 q5 5) ≤ x3 then some ((-1 : Int32), S4) else (if (20 : Int32) ≤ x3 then some ((-1 : Int32), S4) else nn a1 fun q7 => gR S4 (mR S4 q7 0) 12 fun q9 => ck (inb x3 (mN S4 q9)) (bd (mI S4 q9 x3.toNatClampNeg) fun x12 => jn (fun (S15 : MS) => bd (x3 + (1 : Int32)) fun x16 => rec2_2 x16 S15) fun j121_14 => jn (fun (S19 : MS) => gR S19 (mR S19 this 0) 1 fun q20 => nn a1 fun q22 => gR S19 (mR S19 q22 2) 12 fun q24 => ck (inb x3 (mN S19 q24)) (nn a1 fun q27 => gR S19 (mR S19 q27 3) 12 fun q29 => ck (inb x3 (mN S19 q29)) (cl (f_X1_cellAt n q20 (mI S19 q24 x3.toNatClampNeg) (mI S19 q29 x3.toNatClampNeg) S19) fun x35 S32 => jn (fun (x38 : Int32) (S39 : MS) => (if x38 = 0 then some (x3, S39) else j121_14 S39)) fun j112_37 => (if x12 = (22 : Int32) then nn a1 fun q53 => gR S32 (mR S32 q53 1) 12 fun q55 => ck (inb x3 (mN S32 q55)) (cl (f_X3_addBone n this x35 (mI S32 q55 x3.toNatClampNeg) S32) fun x61 S58 => (if x61 = (-1 : Int32) then j112_37 (0 : Int32) S58 else j112_37 (1 : Int32) S58)) else jn (fun (S42 : MS) => j112_37 (0 : Int32) S42) fun j111_41 => (if x35 = (-1 : Int32) then j111_41 S32 else nn a1 fun q43 => gR S32 (mR S32 q43 1) 12 fun q45 => ck (inb x3 (mN S32 q45)) (cl (f_X3_setStake n this (mI S32 q45 x3.toNatClampNeg) x35 S32) fun x51 S48 => (if x51 = 0 then j111_41 S48 else j112_37 (1 : Int32) S48))))))) fun j35_18 => (if x12 = (22 : Int32) then j35_18 S4 else (if x12 = (23 : Int32) then j35_18 S4 else j121_14 S4)))))
def f_X3_drawnBy (n : Nat) (this : Nat) (a1 : Option Nat) (S : MS) : Option (Int32 × MS) :=
  f_X3_drawnBy_L2 n this a1 n (0 : Int32) S
set_option maxRecDepth 100000 in
set_option maxHeartbeats 4000000 in
theorem c_X3_drawnBy (l : Launch) (G : Gx) (n : Nat) (this : Nat) (a1 : Option Nat) (S : MS) (ro : Int32) (So : MS) (hf : f_X3_drawnBy n this a1 S = some (ro, So)) (ok_this : Ok S this 3) (ok_a1 : ∀ q, a1 = some q → Ok S q 7) : Cn G l yX3_drawnBy cX3_drawnBy 6 (some .int) rX3_drawnBy [.ref this, va_rf a1] S (some (.int ro)) So := by
  refine Cn.of (by decide) (by cases a1 <;> exact Nat.le_of_ble_eq_true rfl) ?_
  intro p e s m args below meth c hC hname hR ls hl
  have hC : Cx G RX3 cX3_drawnBy 6 (some .int) p s m args meth c := hC
  have hl : lv_has ls 6 [(0, .ref this), (1, va_rf a1)] := by cases a1 <;> exact hl
  have hx := hC.x
  have hb := hC.b
  have hS : va_S (gA G) s.heap s.heap [] := va_S.rf
  have hE : Ex S S := Ex.rf S
  unfold f_X3_drawnBy at hf
  refine lv_iconst (v := 0) hx hb dX3_drawnBy_0 (by decide) ?_
  refine lv_istore_n (lv' := [(2, .int (0 : Int32)), (0, .ref this), (1, va_rf a1)]) hx hb dX3_drawnBy_1 rfl hl (by decide) (by cases a1 <;> rfl) (fun ls hl => ?_)
  have hh66 : ∀ k : Nat, ∀ (x3 : Int32) (S4 : MS) (H : Heap) (locs : List Loc) (ls : Array Slot), f_X3_drawnBy_L2 n this a1 k x3 S4 = some (ro, So) → Rp G S4 H → va_S (gA G) s.heap H locs → Ex S S4 → Ok S4 this 3 → (∀ q, a1 = some q → Ok S4 q 7) → lv_has ls 6 [(0, .ref this), (1, va_rf a1), (2, .int x3)] → W p l e rX3_drawnBy s m args below meth c H locs 0 0 (MQ below (Qn G S (some (.int ro)) So) args s 0 0 (gA G)) (F0 m 2 ls []) := by
    intro k
    induction k with
    | zero =>
      intro x3 S4 H locs ls hf hR hS hE ok_this ok_a1 hl
      exact absurd hf (by rw [f_X3_drawnBy_L2]; exact fun h => by cases h)
    | succ k ih =>
      intro x3 S4 H locs ls hf hR hS hE ok_this ok_a1 hl
      rw [f_X3_drawnBy_L2] at hf
      obtain ⟨rec2_2, erec2_2, hf⟩ := jn_of2 hf
      have hL2_1 : ∀ (x3 : Int32) (S4 : MS) (H : Heap) (locs : List Loc) (ls : Array Slot), rec2_2 x3 S4 = some (ro, So) → Rp G S4 H → va_S (gA G) s.heap H locs → Ex S S4 → Ok S4 this 3 → (∀ q, a1 = some q → Ok S4 q 7) → lv_has ls 6 [(0, .ref this), (1, va_rf a1), (2, .int x3)] → W p l e rX3_drawnBy s m args below meth c H locs 0 0 (MQ below (Qn G S (some (.int ro)) So) args s 0 0 (gA G)) (F0 m 2 ls []) := by
        intro x3 S4 H locs ls hf hR hS hE ok_this ok_a1 hl
        rw [erec2_2] at hf
        exact ih x3 S4 _ _ _ hf hR hS hE ok_this ok_a1 hl
      refine lv_iload_n hx hb dX3_drawnBy_2 rfl (lv_at hl 2 rfl) ?_
      refine r_aload_nO hx hb dX3_drawnBy_3 rfl (lv_at hl 1 rfl) ?_
      obtain ⟨q5, hq6, hf⟩ := nn_of hf
      have ok_q5 := ok_a1 q5 hq6
      refine W.eq (g2 := F0 m 4 ls [.ref q5, .int x3]) (by rw [hq6]; rfl) ?_
      refine gf_RX3_83 hC hR ok_q5 dX3_drawnBy_4 ?_
      refine lv_icmp_ge (tgt := 127) hx hb dX3_drawnBy_7 (by decide) (fun hc => ?_) (fun hc => ?_)
      · replace hf := if_t hf hc
        refine lv_iconst (v := -1) hx hb dX3_drawnBy_127 (by decide) ?_
        exact r_iret hC hR hS hE hf dX3_drawnBy_128
      · replace hf := if_f hf hc
        refine lv_iload_n hx hb dX3_drawnBy_10 rfl (lv_at hl 2 rfl) ?_
        refine lv_bipush (v := 20) hx hb dX3_drawnBy_11 (by decide) ?_
        refine lv_icmp_ge (tgt := 127) hx hb dX3_drawnBy_13 (by decide) (fun hc => ?_) (fun hc => ?_)
        · replace hf := if_t hf hc
          refine lv_iconst (v := -1) hx hb dX3_drawnBy_127 (by decide) ?_
          exact r_iret hC hR hS hE hf dX3_drawnBy_128
        · replace hf := if_f hf hc
          refine r_aload_nO hx hb dX3_drawnBy_16 rfl (lv_at hl 1 rfl) ?_
          obtain ⟨q7, hq8, hf⟩ := nn_of hf
          have ok_q7 := ok_a1 q7 hq8
          refine W.eq (g2 := F0 m 17 ls [.ref q7]) (by rw [hq8]; rfl) ?_
          obtain ⟨q9, hq10, ok_q9, hf⟩ := gR_of hf
          refine gf_RX3_88 hC hR ok_q7 hq10 dX3_drawnBy_17 ?_
          refine lv_iload_n hx hb dX3_drawnBy_20 rfl (lv_at hl 2 rfl) ?_
          obtain ⟨hi11, hf⟩ := ck_of hf
          refine r_iald hC hR ok_q9 hi11 dX3_drawnBy_21 ?_
          refine bdi hf (fun x12 hf => ?_)
          refine lv_istore_n (lv' := [(3, .int x12), (0, .ref this), (1, va_rf a1), (2, .int x3)]) hx hb dX3_drawnBy_22 rfl hl (by decide) rfl (fun ls hl => ?_)
          refine lv_iload_n hx hb dX3_drawnBy_23 rfl (lv_at hl 0 rfl) ?_
          refine lv_bipush (v := 22) hx hb dX3_drawnBy_24 (by decide) ?_
          obtain ⟨j121_14, ej121_14, hf⟩ := jn_of1 hf
          have hj121_13 : ∀ (S15 : MS) (H : Heap) (locs : List Loc) (ls : Array Slot), j121_14 S15 = some (ro, So) → Rp G S15 H → va_S (gA G) s.heap H locs → Ex S S15 → Ok S15 this 3 → (∀ q, a1 = some q → Ok S15 q 7) → lv_has ls 6 [(0, .ref this), (1, va_rf a1), (2, .int x3)] → W p l e rX3_drawnBy s m args below meth c H locs 0 0 (MQ below (Qn G S (some (.int ro)) So) args s 0 0 (gA G)) (F0 m 121 ls []) := by
            intro S15 H locs ls hf hR hS hE ok_this ok_a1 hl
            rw [ej121_14] at hf
            refine r_iinc (n := 1) (z := 1) (lv' := fun x16 => [(2, .int x16), (0, .ref this), (1, va_rf a1)]) hx hb dX3_drawnBy_121 hl (k := 2) rfl (by decide) (by decide) (fun _ => (by cases a1 <;> rfl)) hf (fun x16 ls hf hl => ?_)
            refine lv_goto (tgt := 2) hx hb dX3_drawnBy_124 (by decide) ?_
            exact hL2_1 x16 S15 _ _ _ hf hR hS hE ok_this ok_a1 (lv_sub hl [1, 2, 0] rfl)
          obtain ⟨j35_18, ej35_18, hf⟩ := jn_of1 hf
          have hj35_17 : ∀ (S19 : MS) (H : Heap) (locs : List Loc) (ls : Array Slot), j35_18 S19 = some (ro, So) → Rp G S19 H → va_S (gA G) s.heap H locs → Ex S S19 → Ok S19 this 3 → (∀ q, a1 = some q → Ok S19 q 7) → lv_has ls 6 [(0, .ref this), (1, va_rf a1), (2, .int x3), (3, .int x12)] → W p l e rX3_drawnBy s m args below meth c H locs 0 0 (MQ below (Qn G S (some (.int ro)) So) args s 0 0 (gA G)) (F0 m 35 ls []) := by
            intro S19 H locs ls hf hR hS hE ok_this ok_a1 hl
            rw [ej35_18] at hf
            refine lv_aload_n hx hb dX3_drawnBy_35 rfl (lv_at hl 0 rfl) ?_
            obtain ⟨q20, hq21, ok_q20, hf⟩ := gR_of hf
            refine gf_RX3_27 hC hR ok_this hq21 dX3_drawnBy_36 ?_
            refine r_aload_nO hx hb dX3_drawnBy_39 rfl (lv_at hl 1 rfl) ?_
            obtain ⟨q22, hq23, hf⟩ := nn_of hf
            have ok_q22 := ok_a1 q22 hq23
            refine W.eq (g2 := F0 m 40 ls [.ref q22, .ref q20]) (by rw [hq23]; rfl) ?_
            obtain ⟨q24, hq25, ok_q24, hf⟩ := gR_of hf
            refine gf_RX3_91 hC hR ok_q22 hq25 dX3_drawnBy_40 ?_
            refine lv_iload_n hx hb dX3_drawnBy_43 rfl (lv_at hl 2 rfl) ?_
            obtain ⟨hi26, hf⟩ := ck_of hf
            refine r_iald hC hR ok_q24 hi26 dX3_drawnBy_44 ?_
            refine r_aload_nO hx hb dX3_drawnBy_45 rfl (lv_at hl 1 rfl) ?_
            obtain ⟨q27, hq28, hf⟩ := nn_of hf
            have ok_q27 := ok_a1 q27 hq28
            refine W.eq (g2 := F0 m 46 ls [.ref q27, .int (mI S19 q24 x3.toNatClampNeg), .ref q20]) (by rw [hq28]; rfl) ?_
            obtain ⟨q29, hq30, ok_q29, hf⟩ := gR_of hf
            refine gf_RX3_94 hC hR ok_q27 hq30 dX3_drawnBy_46 ?_
            refine lv_iload_n hx hb dX3_drawnBy_49 rfl (lv_at hl 2 rfl) ?_
            obtain ⟨hi31, hf⟩ := ck_of hf
            refine r_iald hC hR ok_q29 hi31 dX3_drawnBy_50 ?_
            obtain ⟨x35, S32, hc33, hf⟩ := cl_of hf
            refine cl_RX3_97 (As := [.int (mI S19 q24 x3.toNatClampNeg), .int (mI S19 q29 x3.toNatClampNeg)]) (rest := []) hC hR hS (c_X1_cellAt l G n q20 (mI S19 q24 x3.toNatClampNeg) (mI S19 q29 x3.toNatClampNeg) S19 x35 S32 hc33 ok_q20) ok_q20 rfl ⟨Nat.le_of_ble_eq_true rfl, Nat.le_of_ble_eq_true rfl⟩ hl.1 rfl (Nat.le_of_ble_eq_true rfl) dX3_drawnBy_51 (Nat.zero_le _) (Nat.zero_le _) (fun H locs hR hS hE34 => ?_)
            have ok_this := hE34 _ _ ok_this
            have ok_a1 := fun q h => hE34 _ _ (ok_a1 q h)
            have ok_q20 := hE34 _ _ ok_q20
            have ok_q22 := hE34 _ _ ok_q22
            have ok_q24 := hE34 _ _ ok_q24
            have ok_q27 := hE34 _ _ ok_q27
            have ok_q29 := hE34 _ _ ok_q29
            have hE := hE.tr hE34
            refine lv_istore (lv' := [(4, .int x35), (0, .ref this), (1, va_rf a1), (2, .int x3), (3, .int x12)]) hx hb dX3_drawnBy_54 hl (by decide) rfl (fun ls hl => ?_)
            refine lv_iload_n hx hb dX3_drawnBy_56 rfl (lv_at hl 4 rfl) ?_
            refine lv_bipush (v := 22) hx hb dX3_drawnBy_57 (by decide) ?_
            obtain ⟨j112_37, ej112_37, hf⟩ := jn_of2 hf
            have hj112_36 : ∀ (x38 : Int32) (S39 : MS) (H : Heap) (locs : List Loc) (ls : Array Slot), j112_37 x38 S39 = some (ro, So) → Rp G S39 H → va_S (gA G) s.heap H locs → Ex S S39 → Ok S39 this 3 → (∀ q, a1 = some q → Ok S39 q 7) → lv_has ls 6 [(0, .ref this), (1, va_rf a1), (2, .int x3)] → W p l e rX3_drawnBy s m args below meth c H locs 0 0 (MQ below (Qn G S (some (.int ro)) So) args s 0 0 (gA G)) (F0 m 112 ls [.int x38]) := by
              intro x38 S39 H locs ls hf hR hS hE ok_this ok_a1 hl
              rw [ej112_37] at hf
              refine lv_istore (lv' := [(5, .int x38), (0, .ref this), (1, va_rf a1), (2, .int x3)]) hx hb dX3_drawnBy_112 hl (by decide) rfl (fun ls hl => ?_)
              refine lv_iload hx hb dX3_drawnBy_114 (lv_at hl 0 rfl) ?_
              refine lv_if_ne (tgt := 121) hx hb dX3_drawnBy_116 (by decide) (fun hc => ?_) (fun hc => ?_)
              · replace hf := if_f hf hc
                exact hj121_13 S39 _ _ _ hf hR hS hE ok_this ok_a1 (lv_sub hl [1, 2, 3] rfl)
              · replace hf := if_t hf hc
                refine lv_iload_n hx hb dX3_drawnBy_119 rfl (lv_at hl 3 rfl) ?_
                exact r_iret hC hR hS hE hf dX3_drawnBy_120
            refine lv_icmp_ne (tgt := 86) hx hb dX3_drawnBy_59 (by decide) (fun hc => ?_) (fun hc => ?_)
            · replace hf := if_f hf hc
              refine lv_iload hx hb dX3_drawnBy_86 (lv_at hl 0 rfl) ?_
              refine lv_iconst (v := -1) hx hb dX3_drawnBy_88 (by decide) ?_
              obtain ⟨j111_41, ej111_41, hf⟩ := jn_of1 hf
              have hj111_40 : ∀ (S42 : MS) (H : Heap) (locs : List Loc) (ls : Array Slot), j111_41 S42 = some (ro, So) → Rp G S42 H → va_S (gA G) s.heap H locs → Ex S S42 → Ok S42 this 3 → (∀ q, a1 = some q → Ok S42 q 7) → lv_has ls 6 [(0, .ref this), (1, va_rf a1), (2, .int x3)] → W p l e rX3_drawnBy s m args below meth c H locs 0 0 (MQ below (Qn G S (some (.int ro)) So) args s 0 0 (gA G)) (F0 m 111 ls []) := by
                intro S42 H locs ls hf hR hS hE ok_this ok_a1 hl
                rw [ej111_41] at hf
                refine lv_iconst (v := 0) hx hb dX3_drawnBy_111 (by decide) ?_
                exact hj112_36 (0 : Int32) S42 _ _ _ hf hR hS hE ok_this ok_a1 (lv_sub hl [0, 1, 2] rfl)
              refine lv_icmp_eq (tgt := 111) hx hb dX3_drawnBy_89 (by decide) (fun hc => ?_) (fun hc => ?_)
              · replace hf := if_t hf hc
                exact hj111_40 S32 _ _ _ hf hR hS hE ok_this ok_a1 (lv_sub hl [1, 2, 3] rfl)
              · replace hf := if_f hf hc
                refine lv_aload_n hx hb dX3_drawnBy_92 rfl (lv_at hl 1 rfl) ?_
                refine r_aload_nO hx hb dX3_drawnBy_93 rfl (lv_at hl 2 rfl) ?_
                obtain ⟨q43, hq44, hf⟩ := nn_of hf
                have ok_q43 := ok_a1 q43 hq44
                refine W.eq (g2 := F0 m 94 ls [.ref q43, .ref this]) (by rw [hq44]; rfl) ?_
                obtain ⟨q45, hq46, ok_q45, hf⟩ := gR_of hf
                refine gf_RX3_100 hC hR ok_q43 hq46 dX3_drawnBy_94 ?_
                refine lv_iload_n hx hb dX3_drawnBy_97 rfl (lv_at hl 3 rfl) ?_
                obtain ⟨hi47, hf⟩ := ck_of hf
                refine r_iald hC hR ok_q45 hi47 dX3_drawnBy_98 ?_
                refine lv_iload hx hb dX3_drawnBy_99 (lv_at hl 0 rfl) ?_
                obtain ⟨x51, S48, hc49, hf⟩ := cl_of hf
                refine cl_RX3_106 (As := [.int (mI S32 q45 x3.toNatClampNeg), .int x35]) (rest := []) hC hR hS (c_X3_setStake l G n this (mI S32 q45 x3.toNatClampNeg) x35 S32 x51 S48 hc49 ok_this) ok_this rfl ⟨Nat.le_of_ble_eq_true rfl, Nat.le_of_ble_eq_true rfl⟩ hl.1 rfl (Nat.le_of_ble_eq_true rfl) dX3_drawnBy_101 (Nat.zero_le _) (Nat.zero_le _) (fun H locs hR hS hE50 => ?_)
                have ok_this := hE50 _ _ ok_this
                have ok_a1 := fun q h => hE50 _ _ (ok_a1 q h)
                have ok_q20 := hE50 _ _ ok_q20
                have ok_q22 := hE50 _ _ ok_q22
                have ok_q24 := hE50 _ _ ok_q24
                have ok_q27 := hE50 _ _ ok_q27
                have ok_q29 := hE50 _ _ ok_q29
                have ok_q43 := hE50 _ _ ok_q43
                have ok_q45 := hE50 _ _ ok_q45
                have hE := hE.tr hE50
                refine lv_if_eq (tgt := 111) hx hb dX3_drawnBy_104 (by decide) (fun hc => ?_) (fun hc => ?_)
                · replace hf := if_t hf hc
                  exact hj111_40 S48 _ _ _ hf hR hS hE ok_this ok_a1 (lv_sub hl [1, 2, 3] rfl)
                · replace hf := if_f hf hc
                  refine lv_iconst (v := 1) hx hb dX3_drawnBy_107 (by decide) ?_
                  refine lv_goto (tgt := 112) hx hb dX3_drawnBy_108 (by decide) ?_
                  exact hj112_36 (1 : Int32) S48 _ _ _ hf hR hS hE ok_this ok_a1 (lv_sub hl [1, 2, 3] rfl)
            · replace hf := if_t hf hc
              refine lv_aload_n hx hb dX3_drawnBy_62 rfl (lv_at hl 1 rfl) ?_
              refine lv_iload hx hb dX3_drawnBy_63 (lv_at hl 0 rfl) ?_
              refine r_aload_nO hx hb dX3_drawnBy_65 rfl (lv_at hl 2 rfl) ?_
              obtain ⟨q53, hq54, hf⟩ := nn_of hf
              have ok_q53 := ok_a1 q53 hq54
              refine W.eq (g2 := F0 m 66 ls [.ref q53, .int x35, .ref this]) (by rw [hq54]; rfl) ?_
              obtain ⟨q55, hq56, ok_q55, hf⟩ := gR_of hf
              refine gf_RX3_100 hC hR ok_q53 hq56 dX3_drawnBy_66 ?_
              refine lv_iload_n hx hb dX3_drawnBy_69 rfl (lv_at hl 3 rfl) ?_
              obtain ⟨hi57, hf⟩ := ck_of hf
              refine r_iald hC hR ok_q55 hi57 dX3_drawnBy_70 ?_
              obtain ⟨x61, S58, hc59, hf⟩ := cl_of hf
              refine cl_RX3_103 (As := [.int x35, .int (mI S32 q55 x3.toNatClampNeg)]) (rest := []) hC hR hS (c_X3_addBone l G n this x35 (mI S32 q55 x3.toNatClampNeg) S32 x61 S58 hc59 ok_this) ok_this rfl ⟨Nat.le_of_ble_eq_true rfl, Nat.le_of_ble_eq_true rfl⟩ hl.1 rfl (Nat.le_of_ble_eq_true rfl) dX3_drawnBy_71 (Nat.zero_le _) (Nat.zero_le _) (fun H locs hR hS hE60 => ?_)
              have ok_this := hE60 _ _ ok_this
              have ok_a1 := fun q h => hE60 _ _ (ok_a1 q h)
              have ok_q20 := hE60 _ _ ok_q20
              have ok_q22 := hE60 _ _ ok_q22
              have ok_q24 := hE60 _ _ ok_q24
              have ok_q27 := hE60 _ _ ok_q27
              have ok_q29 := hE60 _ _ ok_q29
              have ok_q53 := hE60 _ _ ok_q53
              have ok_q55 := hE60 _ _ ok_q55
              have hE := hE.tr hE60
              refine lv_iconst (v := -1) hx hb dX3_drawnBy_74 (by decide) ?_
              refine lv_icmp_eq (tgt := 82) hx hb dX3_drawnBy_75 (by decide) (fun hc => ?_) (fun hc => ?_)
              · replace hf := if_t hf hc
                refine lv_iconst (v := 0) hx hb dX3_drawnBy_82 (by decide) ?_
                refine lv_goto (tgt := 112) hx hb dX3_drawnBy_83 (by decide) ?_
                exact hj112_36 (0 : Int32) S58 _ _ _ hf hR hS hE ok_this ok_a1 (lv_sub hl [1, 2, 3] rfl)
              · replace hf := if_f hf hc
                refine lv_iconst (v := 1) hx hb dX3_drawnBy_78 (by decide) ?_
                refine lv_goto (tgt := 112) hx hb dX3_drawnBy_79 (by decide) ?_
                exact hj112_36 (1 : Int32) S58 _ _ _ hf hR hS hE ok_this ok_a1 (lv_sub hl [1, 2, 3] rfl)
          refine lv_icmp_eq (tgt := 35) hx hb dX3_drawnBy_26 (by decide) (fun hc => ?_) (fun hc => ?_)
          · replace hf := if_t hf hc
            exact hj35_17 S4 _ _ _ hf hR hS hE ok_this ok_a1 (lv_sub hl [1, 2, 3, 0] rfl)
          · replace hf := if_f hf hc
            refine lv_iload_n hx hb dX3_drawnBy_29 rfl (lv_at hl 0 rfl) ?_
            refine lv_bipush (v := 23) hx hb dX3_drawnBy_30 (by decide) ?_
            refine lv_icmp_ne (tgt := 121) hx hb dX3_drawnBy_32 (by decide) (fun hc => ?_) (fun hc => ?_)
            · replace hf := if_f hf hc
              exact hj121_13 S4 _ _ _ hf hR hS hE ok_this ok_a1 (lv_sub hl [1, 2, 3] rfl)
            · replace hf := if_t hf hc
              exact hj35_17 S4 _ _ _ hf hR hS hE ok_this ok_a1 (lv_sub hl [1, 2, 3, 0] rfl)
  exact hh66 n (0 : Int32) S _ _ _ hf hR hS hE ok_this ok_a1 (lv_sub hl [1, 2, 0] rfl)
abbrev rX3_fieldAt : Room := { frames := 2, cells := 0, slots := 0, locals := 53 }
def f_X3_fieldAt (n : Nat) (this : Nat) (a1 : Int32) (S : MS) : Option (Int64 × MS) :=
  gR S (mR S this 0) 1 fun q1 => cl (f_X1_spread n q1 (lsh (1 : Int64) a1) ((mJ S this 10) ^^^ (-1 : Int64)) S) fun x6 S3 => some (x6, S3)
set_option maxRecDepth 100000 in
set_option maxHeartbeats 4000000 in
theorem c_X3_fieldAt (l : Launch) (G : Gx) (n : Nat) (this : Nat) (a1 : Int32) (S : MS) (ro : Int64) (So : MS) (hf : f_X3_fieldAt n this a1 S = some (ro, So)) (ok_this : Ok S this 3) : Cn G l yX3_fieldAt cX3_fieldAt 2 (some .long) rX3_fieldAt [.ref this, .int a1] S (some (.long ro)) So := by
  refine Cn.of (by decide) (Nat.le_of_ble_eq_true rfl) ?_
  intro p e s m args below meth c hC hname hR ls hl
  have hC : Cx G RX3 cX3_fieldAt 2 (some .long) p s m args meth c := hC
  have hl : lv_has ls 2 [(0, .ref this), (1, .int a1)] := hl
  have hx := hC.x
  have hb := hC.b
  have hS : va_S (gA G) s.heap s.heap [] := va_S.rf
  have hE : Ex S S := Ex.rf S
  unfold f_X3_fieldAt at hf
  refine lv_aload_n hx hb dX3_fieldAt_0 rfl (lv_at hl 0 rfl) ?_
  obtain ⟨q1, hq2, ok_q1, hf⟩ := gR_of hf
  refine gf_RX3_27 hC hR ok_this hq2 dX3_fieldAt_1 ?_
  refine lv_lconst (v := 1) hx hb dX3_fieldAt_4 (by decide) ?_
  refine lv_iload_n hx hb dX3_fieldAt_5 rfl (lv_at hl 1 rfl) ?_
  refine lv_lshl (v := (lsh (1 : Int64) a1)) hx hb dX3_fieldAt_6 rfl ?_
  refine lv_aload_n hx hb dX3_fieldAt_7 rfl (lv_at hl 0 rfl) ?_
  refine gf_RX3_67 hC hR ok_this dX3_fieldAt_8 ?_
  refine lv_ldc2 (v := -1) hx hb hC.ow (hC.ts _ (bg35 _ (List.mem_of_getElem? (i := 11) rfl))) dX3_fieldAt_11 ?_
  refine lv_lxor hx hb dX3_fieldAt_14 ?_
  obtain ⟨x6, S3, hc4, hf⟩ := cl_of hf
  refine cl_RX3_119 (As := [.long (lsh (1 : Int64) a1), .long ((mJ S this 10) ^^^ (-1 : Int64))]) (rest := []) hC hR hS (c_X1_spread l G n q1 (lsh (1 : Int64) a1) ((mJ S this 10) ^^^ (-1 : Int64)) S x6 S3 hc4 ok_q1) ok_q1 rfl ⟨Nat.le_of_ble_eq_true rfl, Nat.le_of_ble_eq_true rfl⟩ hl.1 rfl (Nat.le_of_ble_eq_true rfl) dX3_fieldAt_15 (Nat.zero_le _) (Nat.zero_le _) (fun H locs hR hS hE5 => ?_)
  have ok_this := hE5 _ _ ok_this
  have ok_q1 := hE5 _ _ ok_q1
  have hE := hE.tr hE5
  exact r_lret hC hR hS hE hf dX3_fieldAt_18
abbrev rX3_gates : Room := { frames := 0, cells := 0, slots := 0, locals := 0 }
def f_X3_gates_L21 (n : Nat) (this : Nat) (a1 : Int64) (x1 : Int64) : Nat → Int32 → Int32 → MS → Option (Int32 × MS)
  | 0, _, _, _ => none
  | k + 1, x4, x5, S6 => jn (f_X3_gates_L21 n this a1 x1 k) fun rec21_3 => (if (mI S6 this 7) ≤ x5 then some (x4, S6) else gR S6 (mR S6 this 0) 1 fun q7 => gR S6 (mR S6 q7 5) 13 fun q9 => gR S6 (mR S6 this 1) 12 fun q11 => ck (inb x5 (mN S6 q11)) (ck (inb (mI S6 q11 x5.toNatClampNeg) (mN S6 q9)) (bd (mJ S6 q9 (mI S6 q11 x5.toNatClampNeg).toNatClampNeg) fun x15 => jn (fun (x18 : Int32) (S19 : MS) => bd (x5 + (1 : Int32)) fun x20 => rec21_3 x18 x20 S19) fun j68_17 => (if (lg_cmp (x15 &&& a1) (0 : Int64)) = 0 then j68_17 x4 S6 else (if (lg_cmp (x15 &&& x1) (0 : Int64)) = 0 then j68_17 x4 S6 else bd (x4 + (1 : Int32)) fun x21 => j68_17 x21 S6)))))
def f_X3_gates (n : Nat) (this : Nat) (a1 : Int64) (S : MS) : Option (Int32 × MS) :=
  bd (((mJ S this 10) ^^^ (-1 : Int64)) &&& (a1 ^^^ (-1 : Int64))) fun x1 => f_X3_gates_L21 n this a1 x1 n (0 : Int32) (0 : Int32) S
set_option maxRecDepth 100000 in
set_option maxHeartbeats 4000000 in
theorem c_X3_gates (l : Launch) (G : Gx) (n : Nat) (this : Nat) (a1 : Int64) (S : MS) (ro : Int32) (So : MS) (hf : f_X3_gates n this a1 S = some (ro, So)) (ok_this : Ok S this 3) : Cn G l yX3_gates cX3_gates 9 (some .int) rX3_gates [.ref this, .long a1] S (some (.int ro)) So := by
  refine Cn.of (by decide) (Nat.le_of_ble_eq_true rfl) ?_
  intro p e s m args below meth c hC hname hR ls hl
  have hC : Cx G RX3 cX3_gates 9 (some .int) p s m args meth c := hC
  have hl : lv_has ls 9 [(0, .ref this), (1, .long a1)] := hl
  have hx := hC.x
  have hb := hC.b
  have hS : va_S (gA G) s.heap s.heap [] := va_S.rf
  have hE : Ex S S := Ex.rf S
  unfold f_X3_gates at hf
  refine lv_aload_n hx hb dX3_gates_0 rfl (lv_at hl 0 rfl) ?_
  refine gf_RX3_67 hC hR ok_this dX3_gates_1 ?_
  refine lv_ldc2 (v := -1) hx hb hC.ow (hC.ts _ (bg35 _ (List.mem_of_getElem? (i := 11) rfl))) dX3_gates_4 ?_
  refine lv_lxor hx hb dX3_gates_7 ?_
  refine lv_lload_n hx hb dX3_gates_8 rfl (lv_at hl 1 rfl) ?_
  refine lv_ldc2 (v := -1) hx hb hC.ow (hC.ts _ (bg35 _ (List.mem_of_getElem? (i := 11) rfl))) dX3_gates_9 ?_
  refine lv_lxor hx hb dX3_gates_12 ?_
  refine lv_land hx hb dX3_gates_13 ?_
  refine bdl hf (fun x1 hf => ?_)
  refine lv_lstore_n (lv' := [(3, .long x1), (0, .ref this), (1, .long a1)]) hx hb dX3_gates_14 rfl hl (by decide) rfl (fun ls hl => ?_)
  refine lv_iconst (v := 0) hx hb dX3_gates_15 (by decide) ?_
  refine lv_istore (lv' := [(5, .int (0 : Int32)), (3, .long x1), (0, .ref this), (1, .long a1)]) hx hb dX3_gates_16 hl (by decide) rfl (fun ls hl => ?_)
  refine lv_iconst (v := 0) hx hb dX3_gates_18 (by decide) ?_
  refine lv_istore (lv' := [(6, .int (0 : Int32)), (5, .int (0 : Int32)), (3, .long x1), (0, .ref this), (1, .long a1)]) hx hb dX3_gates_19 hl (by decide) rfl (fun ls hl => ?_)
  have hh24 : ∀ k : Nat, ∀ (x4 : Int32) (x5 : Int32) (S6 : MS) (H : Heap) (locs : List Loc) (ls : Array Slot), f_X3_gates_L21 n this a1 x1 k x4 x5 S6 = some (ro, So) → Rp G S6 H → va_S (gA G) s.heap H locs → Ex S S6 → Ok S6 this 3 → lv_has ls 9 [(0, .ref this), (1, .long a1), (3, .long x1), (5, .int x4), (6, .int x5)] → W p l e rX3_gates s m args below meth c H locs 0 0 (MQ below (Qn G S (some (.int ro)) So) args s 0 0 (gA G)) (F0 m 21 ls []) := by
    intro k
    induction k with
    | zero =>
      intro x4 x5 S6 H locs ls hf hR hS hE ok_this hl
      exact absurd hf (by rw [f_X3_gates_L21]; exact fun h => by cases h)
    | succ k ih =>
      intro x4 x5 S6 H locs ls hf hR hS hE ok_this hl
      rw [f_X3_gates_L21] at hf
      obtain ⟨rec21_3, erec21_3, hf⟩ := jn_of3 hf
      have hL21_2 : ∀ (x4 : Int32) (x5 : Int32) (S6 : MS) (H : Heap) (locs : List Loc) (ls : Array Slot), rec21_3 x4 x5 S6 = some (ro, So) → Rp G S6 H → va_S (gA G) s.heap H locs → Ex S S6 → Ok S6 this 3 → lv_has ls 9 [(0, .ref this), (1, .long a1), (3, .long x1), (5, .int x4), (6, .int x5)] → W p l e rX3_gates s m args below meth c H locs 0 0 (MQ below (Qn G S (some (.int ro)) So) args s 0 0 (gA G)) (F0 m 21 ls []) := by
        intro x4 x5 S6 H locs ls hf hR hS hE ok_this hl
        rw [erec21_3] at hf
        exact ih x4 x5 S6 _ _ _ hf hR hS hE ok_this hl
      refine lv_iload hx hb dX3_gates_21 (lv_at hl 4 rfl) ?_
      refine lv_aload_n hx hb dX3_gates_23 rfl (lv_at hl 0 rfl) ?_
      refine gf_RX3_57 hC hR ok_this dX3_gates_24 ?_
      refine lv_icmp_ge (tgt := 74) hx hb dX3_gates_27 (by decide) (fun hc => ?_) (fun hc => ?_)
      · replace hf := if_t hf hc
        refine lv_iload hx hb dX3_gates_74 (lv_at hl 3 rfl) ?_
        exact r_iret hC hR hS hE hf dX3_gates_76
      · replace hf := if_f hf hc
        refine lv_aload_n hx hb dX3_gates_30 rfl (lv_at hl 0 rfl) ?_
        obtain ⟨q7, hq8, ok_q7, hf⟩ := gR_of hf
        refine gf_RX3_27 hC hR ok_this hq8 dX3_gates_31 ?_
        obtain ⟨q9, hq10, ok_q9, hf⟩ := gR_of hf
        refine gf_RX3_141 hC hR ok_q7 hq10 dX3_gates_34 ?_
        refine lv_aload_n hx hb dX3_gates_37 rfl (lv_at hl 0 rfl) ?_
        obtain ⟨q11, hq12, ok_q11, hf⟩ := gR_of hf
        refine gf_RX3_9 hC hR ok_this hq12 dX3_gates_38 ?_
        refine lv_iload hx hb dX3_gates_41 (lv_at hl 4 rfl) ?_
        obtain ⟨hi13, hf⟩ := ck_of hf
        refine r_iald hC hR ok_q11 hi13 dX3_gates_43 ?_
        obtain ⟨hi14, hf⟩ := ck_of hf
        refine r_lald hC hR ok_q9 hi14 dX3_gates_44 ?_
        refine bdl hf (fun x15 hf => ?_)
        refine lv_lstore (lv' := [(7, .long x15), (0, .ref this), (1, .long a1), (3, .long x1), (5, .int x4), (6, .int x5)]) hx hb dX3_gates_45 hl (by decide) rfl (fun ls hl => ?_)
        refine lv_lload hx hb dX3_gates_47 (lv_at hl 0 rfl) ?_
        refine lv_lload_n hx hb dX3_gates_49 rfl (lv_at hl 2 rfl) ?_
        refine lv_land hx hb dX3_gates_50 ?_
        refine lv_lconst (v := 0) hx hb dX3_gates_51 (by decide) ?_
        refine W.lcmp hx hb dX3_gates_52 ?_
        obtain ⟨j68_17, ej68_17, hf⟩ := jn_of2 hf
        have hj68_16 : ∀ (x18 : Int32) (S19 : MS) (H : Heap) (locs : List Loc) (ls : Array Slot), j68_17 x18 S19 = some (ro, So) → Rp G S19 H → va_S (gA G) s.heap H locs → Ex S S19 → Ok S19 this 3 → lv_has ls 9 [(0, .ref this), (1, .long a1), (3, .long x1), (5, .int x18), (6, .int x5)] → W p l e rX3_gates s m args below meth c H locs 0 0 (MQ below (Qn G S (some (.int ro)) So) args s 0 0 (gA G)) (F0 m 68 ls []) := by
          intro x18 S19 H locs ls hf hR hS hE ok_this hl
          rw [ej68_17] at hf
          refine r_iinc (n := 1) (z := 1) (lv' := fun x20 => [(6, .int x20), (0, .ref this), (1, .long a1), (3, .long x1), (5, .int x18)]) hx hb dX3_gates_68 hl (k := 4) rfl (by decide) (by decide) (fun _ => rfl) hf (fun x20 ls hf hl => ?_)
          refine lv_goto (tgt := 21) hx hb dX3_gates_71 (by decide) ?_
          exact hL21_2 x18 x20 S19 _ _ _ hf hR hS hE ok_this (lv_sub hl [1, 2, 3, 4, 0] rfl)
        refine lv_if_eq (tgt := 68) hx hb dX3_gates_53 (by decide) (fun hc => ?_) (fun hc => ?_)
        · replace hf := if_t hf hc
          exact hj68_16 x4 S6 _ _ _ hf hR hS hE ok_this (lv_sub hl [1, 2, 3, 4, 5] rfl)
        · replace hf := if_f hf hc
          refine lv_lload hx hb dX3_gates_56 (lv_at hl 0 rfl) ?_
          refine lv_lload_n hx hb dX3_gates_58 rfl (lv_at hl 3 rfl) ?_
          refine lv_land hx hb dX3_gates_59 ?_
          refine lv_lconst (v := 0) hx hb dX3_gates_60 (by decide) ?_
          refine W.lcmp hx hb dX3_gates_61 ?_
          refine lv_if_eq (tgt := 68) hx hb dX3_gates_62 (by decide) (fun hc => ?_) (fun hc => ?_)
          · replace hf := if_t hf hc
            exact hj68_16 x4 S6 _ _ _ hf hR hS hE ok_this (lv_sub hl [1, 2, 3, 4, 5] rfl)
          · replace hf := if_f hf hc
            refine r_iinc (n := 1) (z := 1) (lv' := fun x21 => [(5, .int x21), (7, .long x15), (0, .ref this), (1, .long a1), (3, .long x1), (6, .int x5)]) hx hb dX3_gates_65 hl (k := 4) rfl (by decide) (by decide) (fun _ => rfl) hf (fun x21 ls hf hl => ?_)
            exact hj68_16 x21 S6 _ _ _ hf hR hS hE ok_this (lv_sub hl [2, 3, 4, 0, 5] rfl)
  exact hh24 n (0 : Int32) (0 : Int32) S _ _ _ hf hR hS hE ok_this (lv_sub hl [3, 4, 2, 1, 0] rfl)
abbrev rX3_fields : Room := { frames := 2, cells := 0, slots := 0, locals := 53 }
def f_X3_fields_L22 (n : Nat) (this : Nat) : Nat → Int64 → Int32 → Int32 → MS → Option (Int32 × MS)
  | 0, _, _, _, _ => none
  | k + 1, x6, x7, x8, S9 => jn (f_X3_fields_L22 n this k) fun rec22_5 => gR S9 (mR S9 this 0) 1 fun q10 => (if (mI S9 q10 2) ≤ x8 then some (x7, S9) else (if (lg_cmp x6 (0 : Int64)) = 0 then some (x7, S9) else gR S9 (mR S9 this 0) 1 fun q12 => cl (f_X1_spread n q12 (x6 &&& (-x6)) x6 S9) fun x17 S14 => bd (x6 &&& (x17 ^^^ (-1 : Int64))) fun x18 => bd (x7 + (1 : Int32)) fun x19 => bd (x8 + (1 : Int32)) fun x20 => rec22_5 x18 x19 x20 S14))
def f_X3_fields (n : Nat) (this : Nat) (S : MS) : Option (Int32 × MS) :=
  gR S (mR S this 0) 1 fun q1 => bd (((mJ S this 10) ^^^ (-1 : Int64)) &&& (mJ S q1 3)) fun x3 => f_X3_fields_L22 n this n x3 (0 : Int32) (0 : Int32) S
set_option maxRecDepth 100000 in
set_option maxHeartbeats 4000000 in
theorem c_X3_fields (l : Launch) (G : Gx) (n : Nat) (this : Nat) (S : MS) (ro : Int32) (So : MS) (hf : f_X3_fields n this S = some (ro, So)) (ok_this : Ok S this 3) : Cn G l yX3_fields cX3_fields 5 (some .int) rX3_fields [.ref this] S (some (.int ro)) So := by
  refine Cn.of (by decide) (Nat.le_of_ble_eq_true rfl) ?_
  intro p e s m args below meth c hC hname hR ls hl
  have hC : Cx G RX3 cX3_fields 5 (some .int) p s m args meth c := hC
  have hl : lv_has ls 5 [(0, .ref this)] := hl
  have hx := hC.x
  have hb := hC.b
  have hS : va_S (gA G) s.heap s.heap [] := va_S.rf
  have hE : Ex S S := Ex.rf S
  unfold f_X3_fields at hf
  refine lv_aload_n hx hb dX3_fields_0 rfl (lv_at hl 0 rfl) ?_
  refine gf_RX3_67 hC hR ok_this dX3_fields_1 ?_
  refine lv_ldc2 (v := -1) hx hb hC.ow (hC.ts _ (bg35 _ (List.mem_of_getElem? (i := 11) rfl))) dX3_fields_4 ?_
  refine lv_lxor hx hb dX3_fields_7 ?_
  refine lv_aload_n hx hb dX3_fields_8 rfl (lv_at hl 0 rfl) ?_
  obtain ⟨q1, hq2, ok_q1, hf⟩ := gR_of hf
  refine gf_RX3_27 hC hR ok_this hq2 dX3_fields_9 ?_
  refine gf_RX3_145 hC hR ok_q1 dX3_fields_12 ?_
  refine lv_land hx hb dX3_fields_15 ?_
  refine bdl hf (fun x3 hf => ?_)
  refine lv_lstore_n (lv' := [(1, .long x3), (0, .ref this)]) hx hb dX3_fields_16 rfl hl (by decide) rfl (fun ls hl => ?_)
  refine lv_iconst (v := 0) hx hb dX3_fields_17 (by decide) ?_
  refine lv_istore_n (lv' := [(3, .int (0 : Int32)), (1, .long x3), (0, .ref this)]) hx hb dX3_fields_18 rfl hl (by decide) rfl (fun ls hl => ?_)
  refine lv_iconst (v := 0) hx hb dX3_fields_19 (by decide) ?_
  refine lv_istore (lv' := [(4, .int (0 : Int32)), (3, .int (0 : Int32)), (1, .long x3), (0, .ref this)]) hx hb dX3_fields_20 hl (by decide) rfl (fun ls hl => ?_)
  have hh21 : ∀ k : Nat, ∀ (x6 : Int64) (x7 : Int32) (x8 : Int32) (S9 : MS) (H : Heap) (locs : List Loc) (ls : Array Slot), f_X3_fields_L22 n this k x6 x7 x8 S9 = some (ro, So) → Rp G S9 H → va_S (gA G) s.heap H locs → Ex S S9 → Ok S9 this 3 → lv_has ls 5 [(0, .ref this), (1, .long x6), (3, .int x7), (4, .int x8)] → W p l e rX3_fields s m args below meth c H locs 0 0 (MQ below (Qn G S (some (.int ro)) So) args s 0 0 (gA G)) (F0 m 22 ls []) := by
    intro k
    induction k with
    | zero =>
      intro x6 x7 x8 S9 H locs ls hf hR hS hE ok_this hl
      exact absurd hf (by rw [f_X3_fields_L22]; exact fun h => by cases h)
    | succ k ih =>
      intro x6 x7 x8 S9 H locs ls hf hR hS hE ok_this hl
      rw [f_X3_fields_L22] at hf
      obtain ⟨rec22_5, erec22_5, hf⟩ := jn_of4 hf
      have hL22_4 : ∀ (x6 : Int64) (x7 : Int32) (x8 : Int32) (S9 : MS) (H : Heap) (locs : List Loc) (ls : Array Slot), rec22_5 x6 x7 x8 S9 = some (ro, So) → Rp G S9 H → va_S (gA G) s.heap H locs → Ex S S9 → Ok S9 this 3 → lv_has ls 5 [(0, .ref this), (1, .long x6), (3, .int x7), (4, .int x8)] → W p l e rX3_fields s m args below meth c H locs 0 0 (MQ below (Qn G S (some (.int ro)) So) args s 0 0 (gA G)) (F0 m 22 ls []) := by
        intro x6 x7 x8 S9 H locs ls hf hR hS hE ok_this hl
        rw [erec22_5] at hf
        exact ih x6 x7 x8 S9 _ _ _ hf hR hS hE ok_this hl
      refine lv_iload hx hb dX3_fields_22 (lv_at hl 3 rfl) ?_
      refine lv_aload_n hx hb dX3_fields_24 rfl (lv_at hl 0 rfl) ?_
      obtain ⟨q10, hq11, ok_q10, hf⟩ := gR_of hf
      refine gf_RX3_27 hC hR ok_this hq11 dX3_fields_25 ?_
      refine gf_RX3_31 hC hR ok_q10 dX3_fields_28 ?_
      refine lv_icmp_ge (tgt := 68) hx hb dX3_fields_31 (by decide) (fun hc => ?_) (fun hc => ?_)
      · replace hf := if_t hf hc
        refine lv_iload_n hx hb dX3_fields_68 rfl (lv_at hl 2 rfl) ?_
        exact r_iret hC hR hS hE hf dX3_fields_69
      · replace hf := if_f hf hc
        refine lv_lload_n hx hb dX3_fields_34 rfl (lv_at hl 1 rfl) ?_
        refine lv_lconst (v := 0) hx hb dX3_fields_35 (by decide) ?_
        refine W.lcmp hx hb dX3_fields_36 ?_
        refine lv_if_eq (tgt := 68) hx hb dX3_fields_37 (by decide) (fun hc => ?_) (fun hc => ?_)
        · replace hf := if_t hf hc
          refine lv_iload_n hx hb dX3_fields_68 rfl (lv_at hl 2 rfl) ?_
          exact r_iret hC hR hS hE hf dX3_fields_69
        · replace hf := if_f hf hc
          refine lv_lload_n hx hb dX3_fields_40 rfl (lv_at hl 1 rfl) ?_
          refine lv_aload_n hx hb dX3_fields_41 rfl (lv_at hl 0 rfl) ?_
          obtain ⟨q12, hq13, ok_q12, hf⟩ := gR_of hf
          refine gf_RX3_27 hC hR ok_this hq13 dX3_fields_42 ?_
          refine lv_lload_n hx hb dX3_fields_45 rfl (lv_at hl 1 rfl) ?_
          refine lv_lload_n hx hb dX3_fields_46 rfl (lv_at hl 1 rfl) ?_
          refine lv_lneg hx hb dX3_fields_47 ?_
          refine lv_land hx hb dX3_fields_48 ?_
          refine lv_lload_n hx hb dX3_fields_49 rfl (lv_at hl 1 rfl) ?_
          obtain ⟨x17, S14, hc15, hf⟩ := cl_of hf
          refine cl_RX3_119 (As := [.long (x6 &&& (-x6)), .long x6]) (rest := [.long x6]) hC hR hS (c_X1_spread l G n q12 (x6 &&& (-x6)) x6 S9 x17 S14 hc15 ok_q12) ok_q12 rfl ⟨Nat.le_of_ble_eq_true rfl, Nat.le_of_ble_eq_true rfl⟩ hl.1 rfl (Nat.le_of_ble_eq_true rfl) dX3_fields_50 (Nat.zero_le _) (Nat.zero_le _) (fun H locs hR hS hE16 => ?_)
          have ok_this := hE16 _ _ ok_this
          have ok_q10 := hE16 _ _ ok_q10
          have ok_q12 := hE16 _ _ ok_q12
          have hE := hE.tr hE16
          refine lv_ldc2 (v := -1) hx hb hC.ow (hC.ts _ (bg35 _ (List.mem_of_getElem? (i := 11) rfl))) dX3_fields_53 ?_
          refine lv_lxor hx hb dX3_fields_56 ?_
          refine lv_land hx hb dX3_fields_57 ?_
          refine bdl hf (fun x18 hf => ?_)
          refine lv_lstore_n (lv' := [(1, .long x18), (0, .ref this), (3, .int x7), (4, .int x8)]) hx hb dX3_fields_58 rfl hl (by decide) rfl (fun ls hl => ?_)
          refine r_iinc (n := 1) (z := 1) (lv' := fun x19 => [(3, .int x19), (1, .long x18), (0, .ref this), (4, .int x8)]) hx hb dX3_fields_59 hl (k := 2) rfl (by decide) (by decide) (fun _ => rfl) hf (fun x19 ls hf hl => ?_)
          refine r_iinc (n := 1) (z := 1) (lv' := fun x20 => [(4, .int x20), (3, .int x19), (1, .long x18), (0, .ref this)]) hx hb dX3_fields_62 hl (k := 3) rfl (by decide) (by decide) (fun _ => rfl) hf (fun x20 ls hf hl => ?_)
          refine lv_goto (tgt := 22) hx hb dX3_fields_65 (by decide) ?_
          exact hL22_4 x18 x19 x20 S14 _ _ _ hf hR hS hE ok_this (lv_sub hl [3, 2, 1, 0] rfl)
  exact hh21 n x3 (0 : Int32) (0 : Int32) S _ _ _ hf hR hS hE ok_this (lv_sub hl [3, 2, 1, 0] rfl)
abbrev rX3_sown : Room := { frames := 0, cells := 0, slots := 0, locals := 0 }
def f_X3_sown_L4 (n : Nat) (this : Nat) : Nat → Int32 → Int32 → MS → Option (Int32 × MS)
  | 0, _, _, _ => none
  | k + 1, x3, x4, S5 => jn (f_X3_sown_L4 n this k) fun rec4_2 => gR S5 (mR S5 this 6) 12 fun q6 => (if (Int32.ofNat (mN S5 q6)) ≤ x4 then some (x3, S5) else gR S5 (mR S5 this 6) 12 fun q8 => ck (inb x4 (mN S5 q8)) (jn (fun (x13 : Int32) (x14 : Int32) (S15 : MS) => bd (x13 + x14) fun x16 => bd (x4 + (1 : Int32)) fun x17 => rec4_2 x16 x17 S15) fun j29_12 => (if (mI S5 q8 x4.toNatClampNeg) = (-1 : Int32) then j29_12 x3 (0 : Int32) S5 else j29_12 x3 (1 : Int32) S5)))
def f_X3_sown (n : Nat) (this : Nat) (S : MS) : Option (Int32 × MS) :=
  f_X3_sown_L4 n this n (0 : Int32) (0 : Int32) S
set_option maxRecDepth 100000 in
set_option maxHeartbeats 4000000 in
theorem c_X3_sown (l : Launch) (G : Gx) (n : Nat) (this : Nat) (S : MS) (ro : Int32) (So : MS) (hf : f_X3_sown n this S = some (ro, So)) (ok_this : Ok S this 3) : Cn G l yX3_sown cX3_sown 3 (some .int) rX3_sown [.ref this] S (some (.int ro)) So := by
  refine Cn.of (by decide) (Nat.le_of_ble_eq_true rfl) ?_
  intro p e s m args below meth c hC hname hR ls hl
  have hC : Cx G RX3 cX3_sown 3 (some .int) p s m args meth c := hC
  have hl : lv_has ls 3 [(0, .ref this)] := hl
  have hx := hC.x
  have hb := hC.b
  have hS : va_S (gA G) s.heap s.heap [] := va_S.rf
  have hE : Ex S S := Ex.rf S
  unfold f_X3_sown at hf
  refine lv_iconst (v := 0) hx hb dX3_sown_0 (by decide) ?_
  refine lv_istore_n (lv' := [(1, .int (0 : Int32)), (0, .ref this)]) hx hb dX3_sown_1 rfl hl (by decide) rfl (fun ls hl => ?_)
  refine lv_iconst (v := 0) hx hb dX3_sown_2 (by decide) ?_
  refine lv_istore_n (lv' := [(2, .int (0 : Int32)), (1, .int (0 : Int32)), (0, .ref this)]) hx hb dX3_sown_3 rfl hl (by decide) rfl (fun ls hl => ?_)
  have hh21 : ∀ k : Nat, ∀ (x3 : Int32) (x4 : Int32) (S5 : MS) (H : Heap) (locs : List Loc) (ls : Array Slot), f_X3_sown_L4 n this k x3 x4 S5 = some (ro, So) → Rp G S5 H → va_S (gA G) s.heap H locs → Ex S S5 → Ok S5 this 3 → lv_has ls 3 [(0, .ref this), (1, .int x3), (2, .int x4)] → W p l e rX3_sown s m args below meth c H locs 0 0 (MQ below (Qn G S (some (.int ro)) So) args s 0 0 (gA G)) (F0 m 4 ls []) := by
    intro k
    induction k with
    | zero =>
      intro x3 x4 S5 H locs ls hf hR hS hE ok_this hl
      exact absurd hf (by rw [f_X3_sown_L4]; exact fun h => by cases h)
    | succ k ih =>
      intro x3 x4 S5 H locs ls hf hR hS hE ok_this hl
      rw [f_X3_sown_L4] at hf
      obtain ⟨rec4_2, erec4_2, hf⟩ := jn_of3 hf
      have hL4_1 : ∀ (x3 : Int32) (x4 : Int32) (S5 : MS) (H : Heap) (locs : List Loc) (ls : Array Slot), rec4_2 x3 x4 S5 = some (ro, So) → Rp G S5 H → va_S (gA G) s.heap H locs → Ex S S5 → Ok S5 this 3 → lv_has ls 3 [(0, .ref this), (1, .int x3), (2, .int x4)] → W p l e rX3_sown s m args below meth c H locs 0 0 (MQ below (Qn G S (some (.int ro)) So) args s 0 0 (gA G)) (F0 m 4 ls []) := by
        intro x3 x4 S5 H locs ls hf hR hS hE ok_this hl
        rw [erec4_2] at hf
        exact ih x3 x4 S5 _ _ _ hf hR hS hE ok_this hl
      refine lv_iload_n hx hb dX3_sown_4 rfl (lv_at hl 2 rfl) ?_
      refine lv_aload_n hx hb dX3_sown_5 rfl (lv_at hl 0 rfl) ?_
      obtain ⟨q6, hq7, ok_q6, hf⟩ := gR_of hf
      refine gf_RX3_36 hC hR ok_this hq7 dX3_sown_6 ?_
      refine r_alenI hC hR ok_q6 dX3_sown_9 ?_
      refine lv_icmp_ge (tgt := 37) hx hb dX3_sown_10 (by decide) (fun hc => ?_) (fun hc => ?_)
      · replace hf := if_t hf hc
        refine lv_iload_n hx hb dX3_sown_37 rfl (lv_at hl 1 rfl) ?_
        exact r_iret hC hR hS hE hf dX3_sown_38
      · replace hf := if_f hf hc
        refine lv_iload_n hx hb dX3_sown_13 rfl (lv_at hl 1 rfl) ?_
        refine lv_aload_n hx hb dX3_sown_14 rfl (lv_at hl 0 rfl) ?_
        obtain ⟨q8, hq9, ok_q8, hf⟩ := gR_of hf
        refine gf_RX3_36 hC hR ok_this hq9 dX3_sown_15 ?_
        refine lv_iload_n hx hb dX3_sown_18 rfl (lv_at hl 2 rfl) ?_
        obtain ⟨hi10, hf⟩ := ck_of hf
        refine r_iald hC hR ok_q8 hi10 dX3_sown_19 ?_
        refine lv_iconst (v := -1) hx hb dX3_sown_20 (by decide) ?_
        obtain ⟨j29_12, ej29_12, hf⟩ := jn_of3 hf
        have hj29_11 : ∀ (x13 : Int32) (x14 : Int32) (S15 : MS) (H : Heap) (locs : List Loc) (ls : Array Slot), j29_12 x13 x14 S15 = some (ro, So) → Rp G S15 H → va_S (gA G) s.heap H locs → Ex S S15 → Ok S15 this 3 → lv_has ls 3 [(0, .ref this), (2, .int x4)] → W p l e rX3_sown s m args below meth c H locs 0 0 (MQ below (Qn G S (some (.int ro)) So) args s 0 0 (gA G)) (F0 m 29 ls [.int x14, .int x13]) := by
          intro x13 x14 S15 H locs ls hf hR hS hE ok_this hl
          rw [ej29_12] at hf
          refine lv_iadd hx hb dX3_sown_29 ?_
          refine bdi hf (fun x16 hf => ?_)
          refine lv_istore_n (lv' := [(1, .int x16), (0, .ref this), (2, .int x4)]) hx hb dX3_sown_30 rfl hl (by decide) rfl (fun ls hl => ?_)
          refine r_iinc (n := 1) (z := 1) (lv' := fun x17 => [(2, .int x17), (1, .int x16), (0, .ref this)]) hx hb dX3_sown_31 hl (k := 2) rfl (by decide) (by decide) (fun _ => rfl) hf (fun x17 ls hf hl => ?_)
          refine lv_goto (tgt := 4) hx hb dX3_sown_34 (by decide) ?_
          exact hL4_1 x16 x17 S15 _ _ _ hf hR hS hE ok_this (lv_sub hl [2, 1, 0] rfl)
        refine lv_icmp_ne (tgt := 28) hx hb dX3_sown_21 (by decide) (fun hc => ?_) (fun hc => ?_)
        · replace hf := if_f hf hc
          refine lv_iconst (v := 1) hx hb dX3_sown_28 (by decide) ?_
          exact hj29_11 x3 (1 : Int32) S5 _ _ _ hf hR hS hE ok_this (lv_sub hl [0, 2] rfl)
        · replace hf := if_t hf hc
          refine lv_iconst (v := 0) hx hb dX3_sown_24 (by decide) ?_
          refine lv_goto (tgt := 29) hx hb dX3_sown_25 (by decide) ?_
          exact hj29_11 x3 (0 : Int32) S5 _ _ _ hf hR hS hE ok_this (lv_sub hl [0, 2] rfl)
  exact hh21 n (0 : Int32) (0 : Int32) S _ _ _ hf hR hS hE ok_this (lv_sub hl [2, 1, 0] rfl)
abbrev rX7_empty : Room := { frames := 0, cells := 0, slots := 0, locals := 0 }
def f_X7_empty (_n : Nat) (this : Nat) (S : MS) : Option (MS) :=
  bd (sI S this 5 (0 : Int32)) fun S1 => bd (sI S1 this 6 (0 : Int32)) fun S3 => bd (sI S3 this 7 (-1 : Int32)) fun S5 => bd (sI S5 this 8 (-1 : Int32)) fun S7 => bd (sI S7 this 9 (-1 : Int32)) fun S9 => some S9
set_option maxRecDepth 100000 in
set_option maxHeartbeats 4000000 in
theorem c_X7_empty (l : Launch) (G : Gx) (n : Nat) (this : Nat) (S : MS) (So : MS) (hf : f_X7_empty n this S = some So) (ok_this : Ok S this 7) : Cn G l yX7_empty cX7_empty 1 none rX7_empty [.ref this] S none So := by
  refine Cn.of (by decide) (Nat.le_of_ble_eq_true rfl) ?_
  intro p e s m args below meth c hC hname hR ls hl
  have hC : Cx G RX7 cX7_empty 1 none p s m args meth c := hC
  have hl : lv_has ls 1 [(0, .ref this)] := hl
  have hx := hC.x
  have hb := hC.b
  have hS : va_S (gA G) s.heap s.heap [] := va_S.rf
  have hE : Ex S S := Ex.rf S
  unfold f_X7_empty at hf
  refine lv_aload_n hx hb dX7_empty_0 rfl (lv_at hl 0 rfl) ?_
  refine lv_iconst (v := 0) hx hb dX7_empty_1 (by decide) ?_
  refine pf_RX7_27 hC hR hS ok_this dX7_empty_2 hf (fun S1 H locs hf hR hS hE2 => ?_)
  have ok_this := hE2 _ _ ok_this
  have hE := hE.tr hE2
  refine lv_aload_n hx hb dX7_empty_5 rfl (lv_at hl 0 rfl) ?_
  refine lv_iconst (v := 0) hx hb dX7_empty_6 (by decide) ?_
  refine pf_RX7_31 hC hR hS ok_this dX7_empty_7 hf (fun S3 H locs hf hR hS hE4 => ?_)
  have ok_this := hE4 _ _ ok_this
  have hE := hE.tr hE4
  refine lv_aload_n hx hb dX7_empty_10 rfl (lv_at hl 0 rfl) ?_
  refine lv_iconst (v := -1) hx hb dX7_empty_11 (by decide) ?_
  refine pf_RX7_34 hC hR hS ok_this dX7_empty_12 hf (fun S5 H locs hf hR hS hE6 => ?_)
  have ok_this := hE6 _ _ ok_this
  have hE := hE.tr hE6
  refine lv_aload_n hx hb dX7_empty_15 rfl (lv_at hl 0 rfl) ?_
  refine lv_iconst (v := -1) hx hb dX7_empty_16 (by decide) ?_
  refine pf_RX7_37 hC hR hS ok_this dX7_empty_17 hf (fun S7 H locs hf hR hS hE8 => ?_)
  have ok_this := hE8 _ _ ok_this
  have hE := hE.tr hE8
  refine lv_aload_n hx hb dX7_empty_20 rfl (lv_at hl 0 rfl) ?_
  refine lv_iconst (v := -1) hx hb dX7_empty_21 (by decide) ?_
  refine pf_RX7_40 hC hR hS ok_this dX7_empty_22 hf (fun S9 H locs hf hR hS hE10 => ?_)
  have ok_this := hE10 _ _ ok_this
  have hE := hE.tr hE10
  exact r_vret hC hR hS hE hf dX7_empty_25
abbrev rX4_goesOn : Room := { frames := 0, cells := 0, slots := 0, locals := 0 }
def f_X4_goesOn (_n : Nat) (this : Nat) (S : MS) : Option (Int32 × MS) :=
  (if (mI S this 5) = (39 : Int32) then zb (0 : Int32) (some ((0 : Int32), S)) else zb (1 : Int32) (some ((1 : Int32), S)))
set_option maxRecDepth 100000 in
set_option maxHeartbeats 4000000 in
theorem c_X4_goesOn (l : Launch) (G : Gx) (n : Nat) (this : Nat) (S : MS) (ro : Int32) (So : MS) (hf : f_X4_goesOn n this S = some (ro, So)) (ok_this : Ok S this 4) : Cn G l yX4_goesOn cX4_goesOn 1 (some .boolean) rX4_goesOn [.ref this] S (some (.int ro)) So := by
  refine Cn.of (by decide) (Nat.le_of_ble_eq_true rfl) ?_
  intro p e s m args below meth c hC hname hR ls hl
  have hC : Cx G RX4 cX4_goesOn 1 (some .boolean) p s m args meth c := hC
  have hl : lv_has ls 1 [(0, .ref this)] := hl
  have hx := hC.x
  have hb := hC.b
  have hS : va_S (gA G) s.heap s.heap [] := va_S.rf
  have hE : Ex S S := Ex.rf S
  unfold f_X4_goesOn at hf
  refine lv_aload_n hx hb dX4_goesOn_0 rfl (lv_at hl 0 rfl) ?_
  refine gf_RX4_45 hC hR ok_this dX4_goesOn_1 ?_
  refine lv_bipush (v := 39) hx hb dX4_goesOn_4 (by decide) ?_
  refine lv_icmp_eq (tgt := 13) hx hb dX4_goesOn_6 (by decide) (fun hc => ?_) (fun hc => ?_)
  · replace hf := if_t hf hc
    refine lv_iconst (v := 0) hx hb dX4_goesOn_13 (by decide) ?_
    exact r_zret hC hR hS hE hf dX4_goesOn_14
  · replace hf := if_f hf hc
    refine lv_iconst (v := 1) hx hb dX4_goesOn_9 (by decide) ?_
    refine lv_goto (tgt := 14) hx hb dX4_goesOn_10 (by decide) ?_
    exact r_zret hC hR hS hE hf dX4_goesOn_14
abbrev rX4_complain : Room := { frames := 0, cells := 0, slots := 0, locals := 0 }
def f_X4_complain (_n : Nat) (this : Nat) (a1 : Int32) (S : MS) : Option (MS) :=
  (if (mI S this 0) = 0 then bd (sI S this 0 a1) fun S1 => gR S1 (mR S1 this 2) 0 fun q3 => gR S1 (mR S1 q3 1) 12 fun q5 => ck (inb (mI S1 this 4) (mN S1 q5)) (bd (sI S1 this 1 (mI S1 q5 (mI S1 this 4).toNatClampNeg)) fun S8 => bd (sI S8 this 5 (39 : Int32)) fun S10 => some S10) else some S)
set_option maxRecDepth 100000 in
set_option maxHeartbeats 4000000 in
theorem c_X4_complain (l : Launch) (G : Gx) (n : Nat) (this : Nat) (a1 : Int32) (S : MS) (So : MS) (hf : f_X4_complain n this a1 S = some So) (ok_this : Ok S this 4) : Cn G l yX4_complain cX4_complain 2 none rX4_complain [.ref this, .int a1] S none So := by
  refine Cn.of (by decide) (Nat.le_of_ble_eq_true rfl) ?_
  intro p e s m args below meth c hC hname hR ls hl
  have hC : Cx G RX4 cX4_complain 2 none p s m args meth c := hC
  have hl : lv_has ls 2 [(0, .ref this), (1, .int a1)] := hl
  have hx := hC.x
  have hb := hC.b
  have hS : va_S (gA G) s.heap s.heap [] := va_S.rf
  have hE : Ex S S := Ex.rf S
  unfold f_X4_complain at hf
  refine lv_aload_n hx hb dX4_complain_0 rfl (lv_at hl 0 rfl) ?_
  refine gf_RX4_9 hC hR ok_this dX4_complain_1 ?_
  refine lv_if_ne (tgt := 34) hx hb dX4_complain_4 (by decide) (fun hc => ?_) (fun hc => ?_)
  · replace hf := if_f hf hc
    exact r_vret hC hR hS hE hf dX4_complain_34
  · replace hf := if_t hf hc
    refine lv_aload_n hx hb dX4_complain_7 rfl (lv_at hl 0 rfl) ?_
    refine lv_iload_n hx hb dX4_complain_8 rfl (lv_at hl 1 rfl) ?_
    refine pf_RX4_9 hC hR hS ok_this dX4_complain_9 hf (fun S1 H locs hf hR hS hE2 => ?_)
    have ok_this := hE2 _ _ ok_this
    have hE := hE.tr hE2
    refine lv_aload_n hx hb dX4_complain_12 rfl (lv_at hl 0 rfl) ?_
    refine lv_aload_n hx hb dX4_complain_13 rfl (lv_at hl 0 rfl) ?_
    obtain ⟨q3, hq4, ok_q3, hf⟩ := gR_of hf
    refine gf_RX4_21 hC hR ok_this hq4 dX4_complain_14 ?_
    obtain ⟨q5, hq6, ok_q5, hf⟩ := gR_of hf
    refine gf_RX4_48 hC hR ok_q3 hq6 dX4_complain_17 ?_
    refine lv_aload_n hx hb dX4_complain_20 rfl (lv_at hl 0 rfl) ?_
    refine gf_RX4_38 hC hR ok_this dX4_complain_21 ?_
    obtain ⟨hi7, hf⟩ := ck_of hf
    refine r_iald hC hR ok_q5 hi7 dX4_complain_24 ?_
    refine pf_RX4_15 hC hR hS ok_this dX4_complain_25 hf (fun S8 H locs hf hR hS hE9 => ?_)
    have ok_this := hE9 _ _ ok_this
    have ok_q3 := hE9 _ _ ok_q3
    have ok_q5 := hE9 _ _ ok_q5
    have hE := hE.tr hE9
    refine lv_aload_n hx hb dX4_complain_28 rfl (lv_at hl 0 rfl) ?_
    refine lv_bipush (v := 39) hx hb dX4_complain_29 (by decide) ?_
    refine pf_RX4_45 hC hR hS ok_this dX4_complain_31 hf (fun S10 H locs hf hR hS hE11 => ?_)
    have ok_this := hE11 _ _ ok_this
    have ok_q3 := hE11 _ _ ok_q3
    have ok_q5 := hE11 _ _ ok_q5
    have hE := hE.tr hE11
    exact r_vret hC hR hS hE hf dX4_complain_34
abbrev rX4_advance : Room := { frames := 0, cells := 0, slots := 0, locals := 0 }
def f_X4_advance (_n : Nat) (this : Nat) (S : MS) : Option (MS) :=
  (if (mI S this 0) = 0 then (if (mI S this 5) = (39 : Int32) then some S else gR S (mR S this 2) 0 fun q1 => gR S (mR S q1 0) 12 fun q3 => (if (Int32.ofNat (mN S q3)) ≤ ((mI S this 4) + (1 : Int32)) then some S else bd (sI S this 4 ((mI S this 4) + (1 : Int32))) fun S5 => gR S5 (mR S5 this 2) 0 fun q7 => gR S5 (mR S5 q7 0) 12 fun q9 => ck (inb (mI S5 this 4) (mN S5 q9)) (bd (sI S5 this 5 (mI S5 q9 (mI S5 this 4).toNatClampNeg)) fun S12 => some S12))) else some S)
set_option maxRecDepth 100000 in
set_option maxHeartbeats 4000000 in
theorem c_X4_advance (l : Launch) (G : Gx) (n : Nat) (this : Nat) (S : MS) (So : MS) (hf : f_X4_advance n this S = some So) (ok_this : Ok S this 4) : Cn G l yX4_advance cX4_advance 1 none rX4_advance [.ref this] S none So := by
  refine Cn.of (by decide) (Nat.le_of_ble_eq_true rfl) ?_
  intro p e s m args below meth c hC hname hR ls hl
  have hC : Cx G RX4 cX4_advance 1 none p s m args meth c := hC
  have hl : lv_has ls 1 [(0, .ref this)] := hl
  have hx := hC.x
  have hb := hC.b
  have hS : va_S (gA G) s.heap s.heap [] := va_S.rf
  have hE : Ex S S := Ex.rf S
  unfold f_X4_advance at hf
  refine lv_aload_n hx hb dX4_advance_0 rfl (lv_at hl 0 rfl) ?_
  refine gf_RX4_9 hC hR ok_this dX4_advance_1 ?_
  refine lv_if_ne (tgt := 59) hx hb dX4_advance_4 (by decide) (fun hc => ?_) (fun hc => ?_)
  · replace hf := if_f hf hc
    exact r_vret hC hR hS hE hf dX4_advance_59
  · replace hf := if_t hf hc
    refine lv_aload_n hx hb dX4_advance_7 rfl (lv_at hl 0 rfl) ?_
    refine gf_RX4_45 hC hR ok_this dX4_advance_8 ?_
    refine lv_bipush (v := 39) hx hb dX4_advance_11 (by decide) ?_
    refine lv_icmp_eq (tgt := 59) hx hb dX4_advance_13 (by decide) (fun hc => ?_) (fun hc => ?_)
    · replace hf := if_t hf hc
      exact r_vret hC hR hS hE hf dX4_advance_59
    · replace hf := if_f hf hc
      refine lv_aload_n hx hb dX4_advance_16 rfl (lv_at hl 0 rfl) ?_
      refine gf_RX4_38 hC hR ok_this dX4_advance_17 ?_
      refine lv_iconst (v := 1) hx hb dX4_advance_20 (by decide) ?_
      refine lv_iadd hx hb dX4_advance_21 ?_
      refine lv_aload_n hx hb dX4_advance_22 rfl (lv_at hl 0 rfl) ?_
      obtain ⟨q1, hq2, ok_q1, hf⟩ := gR_of hf
      refine gf_RX4_21 hC hR ok_this hq2 dX4_advance_23 ?_
      obtain ⟨q3, hq4, ok_q3, hf⟩ := gR_of hf
      refine gf_RX4_41 hC hR ok_q1 hq4 dX4_advance_26 ?_
      refine r_alenI hC hR ok_q3 dX4_advance_29 ?_
      refine lv_icmp_ge (tgt := 59) hx hb dX4_advance_30 (by decide) (fun hc => ?_) (fun hc => ?_)
      · replace hf := if_t hf hc
        exact r_vret hC hR hS hE hf dX4_advance_59
      · replace hf := if_f hf hc
        refine lv_aload_n hx hb dX4_advance_33 rfl (lv_at hl 0 rfl) ?_
        refine lv_dup hx hb dX4_advance_34 rfl ?_
        refine gf_RX4_38 hC hR ok_this dX4_advance_35 ?_
        refine lv_iconst (v := 1) hx hb dX4_advance_38 (by decide) ?_
        refine lv_iadd hx hb dX4_advance_39 ?_
        refine pf_RX4_38 hC hR hS ok_this dX4_advance_40 hf (fun S5 H locs hf hR hS hE6 => ?_)
        have ok_this := hE6 _ _ ok_this
        have ok_q1 := hE6 _ _ ok_q1
        have ok_q3 := hE6 _ _ ok_q3
        have hE := hE.tr hE6
        refine lv_aload_n hx hb dX4_advance_43 rfl (lv_at hl 0 rfl) ?_
        refine lv_aload_n hx hb dX4_advance_44 rfl (lv_at hl 0 rfl) ?_
        obtain ⟨q7, hq8, ok_q7, hf⟩ := gR_of hf
        refine gf_RX4_21 hC hR ok_this hq8 dX4_advance_45 ?_
        obtain ⟨q9, hq10, ok_q9, hf⟩ := gR_of hf
        refine gf_RX4_41 hC hR ok_q7 hq10 dX4_advance_48 ?_
        refine lv_aload_n hx hb dX4_advance_51 rfl (lv_at hl 0 rfl) ?_
        refine gf_RX4_38 hC hR ok_this dX4_advance_52 ?_
        obtain ⟨hi11, hf⟩ := ck_of hf
        refine r_iald hC hR ok_q9 hi11 dX4_advance_55 ?_
        refine pf_RX4_45 hC hR hS ok_this dX4_advance_56 hf (fun S12 H locs hf hR hS hE13 => ?_)
        have ok_this := hE13 _ _ ok_this
        have ok_q1 := hE13 _ _ ok_q1
        have ok_q3 := hE13 _ _ ok_q3
        have ok_q7 := hE13 _ _ ok_q7
        have ok_q9 := hE13 _ _ ok_q9
        have hE := hE.tr hE13
        exact r_vret hC hR hS hE hf dX4_advance_59
abbrev rX4_expect : Room := { frames := 1, cells := 0, slots := 0, locals := 21 }
def f_X4_expect (n : Nat) (this : Nat) (a1 : Int32) (S : MS) : Option (MS) :=
  (if (mI S this 5) = a1 then cv (f_X4_advance n this S) fun S4 => some S4 else cv (f_X4_complain n this (1 : Int32) S) fun S1 => some S1)
set_option maxRecDepth 100000 in
set_option maxHeartbeats 4000000 in
theorem c_X4_expect (l : Launch) (G : Gx) (n : Nat) (this : Nat) (a1 : Int32) (S : MS) (So : MS) (hf : f_X4_expect n this a1 S = some So) (ok_this : Ok S this 4) : Cn G l yX4_expect cX4_expect 2 none rX4_expect [.ref this, .int a1] S none So := by
  refine Cn.of (by decide) (Nat.le_of_ble_eq_true rfl) ?_
  intro p e s m args below meth c hC hname hR ls hl
  have hC : Cx G RX4 cX4_expect 2 none p s m args meth c := hC
  have hl : lv_has ls 2 [(0, .ref this), (1, .int a1)] := hl
  have hx := hC.x
  have hb := hC.b
  have hS : va_S (gA G) s.heap s.heap [] := va_S.rf
  have hE : Ex S S := Ex.rf S
  unfold f_X4_expect at hf
  refine lv_aload_n hx hb dX4_expect_0 rfl (lv_at hl 0 rfl) ?_
  refine gf_RX4_45 hC hR ok_this dX4_expect_1 ?_
  refine lv_iload_n hx hb dX4_expect_4 rfl (lv_at hl 1 rfl) ?_
  refine lv_icmp_ne (tgt := 15) hx hb dX4_expect_5 (by decide) (fun hc => ?_) (fun hc => ?_)
  · replace hf := if_f hf hc
    refine lv_aload_n hx hb dX4_expect_15 rfl (lv_at hl 0 rfl) ?_
    refine lv_iconst (v := 1) hx hb dX4_expect_16 (by decide) ?_
    obtain ⟨S1, hc2, hf⟩ := cv_of hf
    refine cl_RX4_54 (As := [.int (1 : Int32)]) (rest := []) hC hR hS (c_X4_complain l G n this (1 : Int32) S S1 hc2 ok_this) ok_this rfl ⟨Nat.le_of_ble_eq_true rfl, Nat.le_of_ble_eq_true rfl⟩ hl.1 rfl (Nat.le_of_ble_eq_true rfl) dX4_expect_17 (Nat.zero_le _) (Nat.zero_le _) (fun H locs hR hS hE3 => ?_)
    have ok_this := hE3 _ _ ok_this
    have hE := hE.tr hE3
    exact r_vret hC hR hS hE hf dX4_expect_20
  · replace hf := if_t hf hc
    refine lv_aload_n hx hb dX4_expect_8 rfl (lv_at hl 0 rfl) ?_
    obtain ⟨S4, hc5, hf⟩ := cv_of hf
    refine cl_RX4_51 (As := []) (rest := []) hC hR hS (c_X4_advance l G n this S S4 hc5 ok_this) ok_this rfl ⟨Nat.le_of_ble_eq_true rfl, Nat.le_of_ble_eq_true rfl⟩ hl.1 rfl (Nat.le_of_ble_eq_true rfl) dX4_expect_9 (Nat.zero_le _) (Nat.zero_le _) (fun H locs hR hS hE6 => ?_)
    have ok_this := hE6 _ _ ok_this
    have hE := hE.tr hE6
    refine lv_goto (tgt := 20) hx hb dX4_expect_12 (by decide) ?_
    exact r_vret hC hR hS hE hf dX4_expect_20
abbrev rX4_namesOf : Room := { frames := 0, cells := 0, slots := 0, locals := 0 }
def f_X4_namesOf (_n : Nat) (a1 : Int32) (S : MS) : Option (Int32 × MS) :=
  (if a1 = (20 : Int32) then some ((3608 : Int32), S) else (if a1 = (19 : Int32) then some ((((63 : Int32) ||| (64 : Int32)) ||| (128 : Int32)), S) else (if a1 = (21 : Int32) then some (((63 : Int32) ||| (256 : Int32)), S) else some ((63 : Int32), S))))
set_option maxRecDepth 100000 in
set_option maxHeartbeats 4000000 in
theorem c_X4_namesOf (l : Launch) (G : Gx) (n : Nat) (a1 : Int32) (S : MS) (ro : Int32) (So : MS) (hf : f_X4_namesOf n a1 S = some (ro, So)) : Cn G l yX4_namesOf cX4_namesOf 2 (some .int) rX4_namesOf [.int a1] S (some (.int ro)) So := by
  refine Cn.of (by decide) (Nat.le_of_ble_eq_true rfl) ?_
  intro p e s m args below meth c hC hname hR ls hl
  have hC : Cx G RX4 cX4_namesOf 2 (some .int) p s m args meth c := hC
  have hl : lv_has ls 2 [(0, .int a1)] := hl
  have hx := hC.x
  have hb := hC.b
  have hS : va_S (gA G) s.heap s.heap [] := va_S.rf
  have hE : Ex S S := Ex.rf S
  unfold f_X4_namesOf at hf
  refine lv_iload_n hx hb dX4_namesOf_0 rfl (lv_at hl 0 rfl) ?_
  refine lv_bipush (v := 20) hx hb dX4_namesOf_1 (by decide) ?_
  refine lv_icmp_ne (tgt := 10) hx hb dX4_namesOf_3 (by decide) (fun hc => ?_) (fun hc => ?_)
  · replace hf := if_f hf hc
    refine lv_bipush (v := 63) hx hb dX4_namesOf_10 (by decide) ?_
    refine lv_istore_n (lv' := [(1, .int (63 : Int32)), (0, .int a1)]) hx hb dX4_namesOf_12 rfl hl (by decide) rfl (fun ls hl => ?_)
    refine lv_iload_n hx hb dX4_namesOf_13 rfl (lv_at hl 1 rfl) ?_
    refine lv_bipush (v := 19) hx hb dX4_namesOf_14 (by decide) ?_
    refine lv_icmp_ne (tgt := 28) hx hb dX4_namesOf_16 (by decide) (fun hc => ?_) (fun hc => ?_)
    · replace hf := if_f hf hc
      refine lv_iload_n hx hb dX4_namesOf_28 rfl (lv_at hl 1 rfl) ?_
      refine lv_bipush (v := 21) hx hb dX4_namesOf_29 (by decide) ?_
      refine lv_icmp_ne (tgt := 42) hx hb dX4_namesOf_31 (by decide) (fun hc => ?_) (fun hc => ?_)
      · replace hf := if_f hf hc
        refine lv_iload_n hx hb dX4_namesOf_42 rfl (lv_at hl 0 rfl) ?_
        exact r_iret hC hR hS hE hf dX4_namesOf_43
      · replace hf := if_t hf hc
        refine lv_iload_n hx hb dX4_namesOf_34 rfl (lv_at hl 0 rfl) ?_
        refine lv_sipush (v := 256) hx hb dX4_namesOf_35 (by decide) ?_
        refine lv_ior hx hb dX4_namesOf_38 ?_
        refine lv_goto (tgt := 43) hx hb dX4_namesOf_39 (by decide) ?_
        exact r_iret hC hR hS hE hf dX4_namesOf_43
    · replace hf := if_t hf hc
      refine lv_iload_n hx hb dX4_namesOf_19 rfl (lv_at hl 0 rfl) ?_
      refine lv_bipush (v := 64) hx hb dX4_namesOf_20 (by decide) ?_
      refine lv_ior hx hb dX4_namesOf_22 ?_
      refine lv_sipush (v := 128) hx hb dX4_namesOf_23 (by decide) ?_
      refine lv_ior hx hb dX4_namesOf_26 ?_
      exact r_iret hC hR hS hE hf dX4_namesOf_27
  · replace hf := if_t hf hc
    refine lv_sipush (v := 3608) hx hb dX4_namesOf_6 (by decide) ?_
    exact r_iret hC hR hS hE hf dX4_namesOf_9
abbrev rX4_isOpened : Room := { frames := 1, cells := 0, slots := 0, locals := 21 }
def f_X4_isOpened (n : Nat) (this : Nat) (a1 : Int32) (S : MS) : Option (Int32 × MS) :=
  jn (fun (S3 : MS) => (if (mI S3 this 0) = 0 then zb (1 : Int32) (some ((1 : Int32), S3)) else zb (0 : Int32) (some ((0 : Int32), S3)))) fun j35_2 => (if (mI S this 5) = (32 : Int32) then (if a1 < (8 : Int32) then cv (f_X4_advance n this S) fun S4 => j35_2 S4 else cv (f_X4_complain n this (3 : Int32) S) fun S7 => j35_2 S7) else cv (f_X4_complain n this (1 : Int32) S) fun S10 => j35_2 S10)
set_option maxRecDepth 100000 in
set_option maxHeartbeats 4000000 in
theorem c_X4_isOpened (l : Launch) (G : Gx) (n : Nat) (this : Nat) (a1 : Int32) (S : MS) (ro : Int32) (So : MS) (hf : f_X4_isOpened n this a1 S = some (ro, So)) (ok_this : Ok S this 4) : Cn G l yX4_isOpened cX4_isOpened 2 (some .boolean) rX4_isOpened [.ref this, .int a1] S (some (.int ro)) So := by
  refine Cn.of (by decide) (Nat.le_of_ble_eq_true rfl) ?_
  intro p e s m args below meth c hC hname hR ls hl
  have hC : Cx G RX4 cX4_isOpened 2 (some .boolean) p s m args meth c := hC
  have hl : lv_has ls 2 [(0, .ref this), (1, .int a1)] := hl
  have hx := hC.x
  have hb := hC.b
  have hS : va_S (gA G) s.heap s.heap [] := va_S.rf
  have hE : Ex S S := Ex.rf S
  unfold f_X4_isOpened at hf
  refine lv_aload_n hx hb dX4_isOpened_0 rfl (lv_at hl 0 rfl) ?_
  refine gf_RX4_45 hC hR ok_this dX4_isOpened_1 ?_
  refine lv_bipush (v := 32) hx hb dX4_isOpened_4 (by decide) ?_
  obtain ⟨j35_2, ej35_2, hf⟩ := jn_of1 hf
  have hj35_1 : ∀ (S3 : MS) (H : Heap) (locs : List Loc) (ls : Array Slot), j35_2 S3 = some (ro, So) → Rp G S3 H → va_S (gA G) s.heap H locs → Ex S S3 → Ok S3 this 4 → lv_has ls 2 [(0, .ref this)] → W p l e rX4_isOpened s m args below meth c H locs 0 0 (MQ below (Qn G S (some (.int ro)) So) args s 0 0 (gA G)) (F0 m 35 ls []) := by
    intro S3 H locs ls hf hR hS hE ok_this hl
    rw [ej35_2] at hf
    refine lv_aload_n hx hb dX4_isOpened_35 rfl (lv_at hl 0 rfl) ?_
    refine gf_RX4_9 hC hR ok_this dX4_isOpened_36 ?_
    refine lv_if_ne (tgt := 46) hx hb dX4_isOpened_39 (by decide) (fun hc => ?_) (fun hc => ?_)
    · replace hf := if_f hf hc
      refine lv_iconst (v := 0) hx hb dX4_isOpened_46 (by decide) ?_
      exact r_zret hC hR hS hE hf dX4_isOpened_47
    · replace hf := if_t hf hc
      refine lv_iconst (v := 1) hx hb dX4_isOpened_42 (by decide) ?_
      refine lv_goto (tgt := 47) hx hb dX4_isOpened_43 (by decide) ?_
      exact r_zret hC hR hS hE hf dX4_isOpened_47
  refine lv_icmp_eq (tgt := 17) hx hb dX4_isOpened_6 (by decide) (fun hc => ?_) (fun hc => ?_)
  · replace hf := if_t hf hc
    refine lv_iload_n hx hb dX4_isOpened_17 rfl (lv_at hl 1 rfl) ?_
    refine lv_bipush (v := 8) hx hb dX4_isOpened_18 (by decide) ?_
    refine lv_icmp_lt (tgt := 31) hx hb dX4_isOpened_20 (by decide) (fun hc => ?_) (fun hc => ?_)
    · replace hf := if_t hf hc
      refine lv_aload_n hx hb dX4_isOpened_31 rfl (lv_at hl 0 rfl) ?_
      obtain ⟨S4, hc5, hf⟩ := cv_of hf
      refine cl_RX4_51 (As := []) (rest := []) hC hR hS (c_X4_advance l G n this S S4 hc5 ok_this) ok_this rfl ⟨Nat.le_of_ble_eq_true rfl, Nat.le_of_ble_eq_true rfl⟩ hl.1 rfl (Nat.le_of_ble_eq_true rfl) dX4_isOpened_32 (Nat.zero_le _) (Nat.zero_le _) (fun H locs hR hS hE6 => ?_)
      have ok_this := hE6 _ _ ok_this
      have hE := hE.tr hE6
      exact hj35_1 S4 _ _ _ hf hR hS hE ok_this (lv_sub hl [0] rfl)
    · replace hf := if_f hf hc
      refine lv_aload_n hx hb dX4_isOpened_23 rfl (lv_at hl 0 rfl) ?_
      refine lv_iconst (v := 3) hx hb dX4_isOpened_24 (by decide) ?_
      obtain ⟨S7, hc8, hf⟩ := cv_of hf
      refine cl_RX4_54 (As := [.int (3 : Int32)]) (rest := []) hC hR hS (c_X4_complain l G n this (3 : Int32) S S7 hc8 ok_this) ok_this rfl ⟨Nat.le_of_ble_eq_true rfl, Nat.le_of_ble_eq_true rfl⟩ hl.1 rfl (Nat.le_of_ble_eq_true rfl) dX4_isOpened_25 (Nat.zero_le _) (Nat.zero_le _) (fun H locs hR hS hE9 => ?_)
      have ok_this := hE9 _ _ ok_this
      have hE := hE.tr hE9
      refine lv_goto (tgt := 35) hx hb dX4_isOpened_28 (by decide) ?_
      exact hj35_1 S7 _ _ _ hf hR hS hE ok_this (lv_sub hl [0] rfl)
  · replace hf := if_f hf hc
    refine lv_aload_n hx hb dX4_isOpened_9 rfl (lv_at hl 0 rfl) ?_
    refine lv_iconst (v := 1) hx hb dX4_isOpened_10 (by decide) ?_
    obtain ⟨S10, hc11, hf⟩ := cv_of hf
    refine cl_RX4_54 (As := [.int (1 : Int32)]) (rest := []) hC hR hS (c_X4_complain l G n this (1 : Int32) S S10 hc11 ok_this) ok_this rfl ⟨Nat.le_of_ble_eq_true rfl, Nat.le_of_ble_eq_true rfl⟩ hl.1 rfl (Nat.le_of_ble_eq_true rfl) dX4_isOpened_11 (Nat.zero_le _) (Nat.zero_le _) (fun H locs hR hS hE12 => ?_)
    have ok_this := hE12 _ _ ok_this
    have hE := hE.tr hE12
    refine lv_goto (tgt := 35) hx hb dX4_isOpened_14 (by decide) ?_
    exact hj35_1 S10 _ _ _ hf hR hS hE ok_this (lv_sub hl [0] rfl)
abbrev rX7_put : Room := { frames := 0, cells := 0, slots := 0, locals := 0 }
def f_X7_put (_n : Nat) (this : Nat) (a1 : Int32) (a2 : Int32) (S : MS) : Option (MS) :=
  (if (300 : Int32) ≤ (mI S this 6) then some S else gR S (mR S this 4) 12 fun q1 => ck (inb (mI S this 6) (mN S q1)) (bd (sI S q1 (mI S this 6).toNatClampNeg ((a2 <<< ((6 : Int32) &&& 31)) ||| a1)) fun S4 => bd (sI S4 this 6 ((mI S4 this 6) + (1 : Int32))) fun S6 => some S6))
set_option maxRecDepth 100000 in
set_option maxHeartbeats 4000000 in
theorem c_X7_put (l : Launch) (G : Gx) (n : Nat) (this : Nat) (a1 : Int32) (a2 : Int32) (S : MS) (So : MS) (hf : f_X7_put n this a1 a2 S = some So) (ok_this : Ok S this 7) : Cn G l yX7_put cX7_put 3 none rX7_put [.ref this, .int a1, .int a2] S none So := by
  refine Cn.of (by decide) (Nat.le_of_ble_eq_true rfl) ?_
  intro p e s m args below meth c hC hname hR ls hl
  have hC : Cx G RX7 cX7_put 3 none p s m args meth c := hC
  have hl : lv_has ls 3 [(0, .ref this), (1, .int a1), (2, .int a2)] := hl
  have hx := hC.x
  have hb := hC.b
  have hS : va_S (gA G) s.heap s.heap [] := va_S.rf
  have hE : Ex S S := Ex.rf S
  unfold f_X7_put at hf
  refine lv_aload_n hx hb dX7_put_0 rfl (lv_at hl 0 rfl) ?_
  refine gf_RX7_31 hC hR ok_this dX7_put_1 ?_
  refine lv_sipush (v := 300) hx hb dX7_put_4 (by decide) ?_
  refine lv_icmp_ge (tgt := 35) hx hb dX7_put_7 (by decide) (fun hc => ?_) (fun hc => ?_)
  · replace hf := if_t hf hc
    exact r_vret hC hR hS hE hf dX7_put_35
  · replace hf := if_f hf hc
    refine lv_aload_n hx hb dX7_put_10 rfl (lv_at hl 0 rfl) ?_
    obtain ⟨q1, hq2, ok_q1, hf⟩ := gR_of hf
    refine gf_RX7_24 hC hR ok_this hq2 dX7_put_11 ?_
    refine lv_aload_n hx hb dX7_put_14 rfl (lv_at hl 0 rfl) ?_
    refine gf_RX7_31 hC hR ok_this dX7_put_15 ?_
    refine lv_iload_n hx hb dX7_put_18 rfl (lv_at hl 2 rfl) ?_
    refine lv_bipush (v := 6) hx hb dX7_put_19 (by decide) ?_
    refine lv_ishl hx hb dX7_put_21 ?_
    refine lv_iload_n hx hb dX7_put_22 rfl (lv_at hl 1 rfl) ?_
    refine lv_ior hx hb dX7_put_23 ?_
    obtain ⟨hi3, hf⟩ := ck_of hf
    refine rB_iast hC hR hS ok_q1 hi3 dX7_put_24 hf (fun S4 H locs hf hR hS hE5 => ?_)
    have ok_this := hE5 _ _ ok_this
    have ok_q1 := hE5 _ _ ok_q1
    have hE := hE.tr hE5
    refine lv_aload_n hx hb dX7_put_25 rfl (lv_at hl 0 rfl) ?_
    refine lv_dup hx hb dX7_put_26 rfl ?_
    refine gf_RX7_31 hC hR ok_this dX7_put_27 ?_
    refine lv_iconst (v := 1) hx hb dX7_put_30 (by decide) ?_
    refine lv_iadd hx hb dX7_put_31 ?_
    refine pf_RX7_31 hC hR hS ok_this dX7_put_32 hf (fun S6 H locs hf hR hS hE7 => ?_)
    have ok_this := hE7 _ _ ok_this
    have ok_q1 := hE7 _ _ ok_q1
    have hE := hE.tr hE7
    exact r_vret hC hR hS hE hf dX7_put_35
abbrev rX4_readName : Room := { frames := 1, cells := 0, slots := 0, locals := 22 }
def f_X4_readName (n : Nat) (this : Nat) (S : MS) : Option (MS) :=
  (if ((iush (mI S this 6) (mI S this 5)) &&& (1 : Int32)) = 0 then cv (f_X4_complain n this (5 : Int32) S) fun S9 => some S9 else gR S (mR S this 3) 7 fun q1 => cv (f_X7_put n q1 (41 : Int32) (mI S this 5) S) fun S3 => cv (f_X4_advance n this S3) fun S6 => some S6)
set_option maxRecDepth 100000 in
set_option maxHeartbeats 4000000 in
theorem c_X4_readName (l : Launch) (G : Gx) (n : Nat) (this : Nat) (S : MS) (So : MS) (hf : f_X4_readName n this S = some So) (ok_this : Ok S this 4) : Cn G l yX4_readName cX4_readName 1 none rX4_readName [.ref this] S none So := by
  refine Cn.of (by decide) (Nat.le_of_ble_eq_true rfl) ?_
  intro p e s m args below meth c hC hname hR ls hl
  have hC : Cx G RX4 cX4_readName 1 none p s m args meth c := hC
  have hl : lv_has ls 1 [(0, .ref this)] := hl
  have hx := hC.x
  have hb := hC.b
  have hS : va_S (gA G) s.heap s.heap [] := va_S.rf
  have hE : Ex S S := Ex.rf S
  unfold f_X4_readName at hf
  refine lv_aload_n hx hb dX4_readName_0 rfl (lv_at hl 0 rfl) ?_
  refine gf_RX4_72 hC hR ok_this dX4_readName_1 ?_
  refine lv_aload_n hx hb dX4_readName_4 rfl (lv_at hl 0 rfl) ?_
  refine gf_RX4_45 hC hR ok_this dX4_readName_5 ?_
  refine lv_iushr (v := (iush (mI S this 6) (mI S this 5))) hx hb dX4_readName_8 rfl ?_
  refine lv_iconst (v := 1) hx hb dX4_readName_9 (by decide) ?_
  refine lv_iand hx hb dX4_readName_10 ?_
  refine lv_if_ne (tgt := 22) hx hb dX4_readName_11 (by decide) (fun hc => ?_) (fun hc => ?_)
  · replace hf := if_f hf hc
    refine lv_aload_n hx hb dX4_readName_22 rfl (lv_at hl 0 rfl) ?_
    obtain ⟨q1, hq2, ok_q1, hf⟩ := gR_of hf
    refine gf_RX4_25 hC hR ok_this hq2 dX4_readName_23 ?_
    refine lv_bipush (v := 41) hx hb dX4_readName_26 (by decide) ?_
    refine lv_aload_n hx hb dX4_readName_28 rfl (lv_at hl 0 rfl) ?_
    refine gf_RX4_45 hC hR ok_this dX4_readName_29 ?_
    obtain ⟨S3, hc4, hf⟩ := cv_of hf
    refine cl_RX4_110 (As := [.int (41 : Int32), .int (mI S this 5)]) (rest := []) hC hR hS (c_X7_put l G n q1 (41 : Int32) (mI S this 5) S S3 hc4 ok_q1) ok_q1 rfl ⟨Nat.le_of_ble_eq_true rfl, Nat.le_of_ble_eq_true rfl⟩ hl.1 rfl (Nat.le_of_ble_eq_true rfl) dX4_readName_32 (Nat.zero_le _) (Nat.zero_le _) (fun H locs hR hS hE5 => ?_)
    have ok_this := hE5 _ _ ok_this
    have ok_q1 := hE5 _ _ ok_q1
    have hE := hE.tr hE5
    refine lv_aload_n hx hb dX4_readName_35 rfl (lv_at hl 0 rfl) ?_
    obtain ⟨S6, hc7, hf⟩ := cv_of hf
    refine cl_RX4_51 (As := []) (rest := []) hC hR hS (c_X4_advance l G n this S3 S6 hc7 ok_this) ok_this rfl ⟨Nat.le_of_ble_eq_true rfl, Nat.le_of_ble_eq_true rfl⟩ hl.1 rfl (Nat.le_of_ble_eq_true rfl) dX4_readName_36 (Nat.zero_le _) (Nat.zero_le _) (fun H locs hR hS hE8 => ?_)
    have ok_this := hE8 _ _ ok_this
    have ok_q1 := hE8 _ _ ok_q1
    have hE := hE.tr hE8
    exact r_vret hC hR hS hE hf dX4_readName_39
  · replace hf := if_t hf hc
    refine lv_aload_n hx hb dX4_readName_14 rfl (lv_at hl 0 rfl) ?_
    refine lv_iconst (v := 5) hx hb dX4_readName_15 (by decide) ?_
    obtain ⟨S9, hc10, hf⟩ := cv_of hf
    refine cl_RX4_54 (As := [.int (5 : Int32)]) (rest := []) hC hR hS (c_X4_complain l G n this (5 : Int32) S S9 hc10 ok_this) ok_this rfl ⟨Nat.le_of_ble_eq_true rfl, Nat.le_of_ble_eq_true rfl⟩ hl.1 rfl (Nat.le_of_ble_eq_true rfl) dX4_readName_16 (Nat.zero_le _) (Nat.zero_le _) (fun H locs hR hS hE11 => ?_)
    have ok_this := hE11 _ _ ok_this
    have hE := hE.tr hE11
    refine lv_goto (tgt := 39) hx hb dX4_readName_19 (by decide) ?_
    exact r_vret hC hR hS hE hf dX4_readName_39
abbrev rX4_readNumber : Room := { frames := 1, cells := 0, slots := 0, locals := 21 }
def f_X4_readNumber (n : Nat) (this : Nat) (a1 : Int32) (a2 : Int32) (S : MS) : Option (Int32 × MS) :=
  gR S (mR S this 2) 0 fun q1 => gR S (mR S q1 2) 12 fun q3 => ck (inb (mI S this 4) (mN S q3)) (bd (mI S q3 (mI S this 4).toNatClampNeg) fun x6 => (if (mI S this 5) = (38 : Int32) then (if x6 < a1 then cv (f_X4_complain n this (2 : Int32) S) fun S7 => cv (f_X4_advance n this S7) fun S10 => some (x6, S10) else (if x6 ≤ a2 then cv (f_X4_advance n this S) fun S13 => some (x6, S13) else cv (f_X4_complain n this (2 : Int32) S) fun S16 => cv (f_X4_advance n this S16) fun S19 => some (x6, S19))) else cv (f_X4_complain n this (1 : Int32) S) fun S22 => cv (f_X4_advance n this S22) fun S25 => some (x6, S25)))
set_option maxRecDepth 100000 in
set_option maxHeartbeats 4000000 in
theorem c_X4_readNumber (l : Launch) (G : Gx) (n : Nat) (this : Nat) (a1 : Int32) (a2 : Int32) (S : MS) (ro : Int32) (So : MS) (hf : f_X4_readNumber n this a1 a2 S = some (ro, So)) (ok_this : Ok S this 4) : Cn G l yX4_readNumber cX4_readNumber 4 (some .int) rX4_readNumber [.ref this, .int a1, .int a2] S (some (.int ro)) So := by
  refine Cn.of (by decide) (Nat.le_of_ble_eq_true rfl) ?_
  intro p e s m args below meth c hC hname hR ls hl
  have hC : Cx G RX4 cX4_readNumber 4 (some .int) p s m args meth c := hC
  have hl : lv_has ls 4 [(0, .ref this), (1, .int a1), (2, .int a2)] := hl
  have hx := hC.x
  have hb := hC.b
  have hS : va_S (gA G) s.heap s.heap [] := va_S.rf
  have hE : Ex S S := Ex.rf S
  unfold f_X4_readNumber at hf
  refine lv_aload_n hx hb dX4_readNumber_0 rfl (lv_at hl 0 rfl) ?_
  obtain ⟨q1, hq2, ok_q1, hf⟩ := gR_of hf
  refine gf_RX4_21 hC hR ok_this hq2 dX4_readNumber_1 ?_
  obtain ⟨q3, hq4, ok_q3, hf⟩ := gR_of hf
  refine gf_RX4_104 hC hR ok_q1 hq4 dX4_readNumber_4 ?_
  refine lv_aload_n hx hb dX4_readNumber_7 rfl (lv_at hl 0 rfl) ?_
  refine gf_RX4_38 hC hR ok_this dX4_readNumber_8 ?_
  obtain ⟨hi5, hf⟩ := ck_of hf
  refine r_iald hC hR ok_q3 hi5 dX4_readNumber_11 ?_
  refine bdi hf (fun x6 hf => ?_)
  refine lv_istore_n (lv' := [(3, .int x6), (0, .ref this), (1, .int a1), (2, .int a2)]) hx hb dX4_readNumber_12 rfl hl (by decide) rfl (fun ls hl => ?_)
  refine lv_aload_n hx hb dX4_readNumber_13 rfl (lv_at hl 1 rfl) ?_
  refine gf_RX4_45 hC hR ok_this dX4_readNumber_14 ?_
  refine lv_bipush (v := 38) hx hb dX4_readNumber_17 (by decide) ?_
  refine lv_icmp_eq (tgt := 30) hx hb dX4_readNumber_19 (by decide) (fun hc => ?_) (fun hc => ?_)
  · replace hf := if_t hf hc
    refine lv_iload_n hx hb dX4_readNumber_30 rfl (lv_at hl 0 rfl) ?_
    refine lv_iload_n hx hb dX4_readNumber_31 rfl (lv_at hl 2 rfl) ?_
    refine lv_icmp_lt (tgt := 40) hx hb dX4_readNumber_32 (by decide) (fun hc => ?_) (fun hc => ?_)
    · replace hf := if_t hf hc
      refine lv_aload_n hx hb dX4_readNumber_40 rfl (lv_at hl 1 rfl) ?_
      refine lv_iconst (v := 2) hx hb dX4_readNumber_41 (by decide) ?_
      obtain ⟨S7, hc8, hf⟩ := cv_of hf
      refine cl_RX4_54 (As := [.int (2 : Int32)]) (rest := []) hC hR hS (c_X4_complain l G n this (2 : Int32) S S7 hc8 ok_this) ok_this rfl ⟨Nat.le_of_ble_eq_true rfl, Nat.le_of_ble_eq_true rfl⟩ hl.1 rfl (Nat.le_of_ble_eq_true rfl) dX4_readNumber_42 (Nat.zero_le _) (Nat.zero_le _) (fun H locs hR hS hE9 => ?_)
      have ok_this := hE9 _ _ ok_this
      have ok_q1 := hE9 _ _ ok_q1
      have ok_q3 := hE9 _ _ ok_q3
      have hE := hE.tr hE9
      refine lv_aload_n hx hb dX4_readNumber_45 rfl (lv_at hl 1 rfl) ?_
      obtain ⟨S10, hc11, hf⟩ := cv_of hf
      refine cl_RX4_51 (As := []) (rest := []) hC hR hS (c_X4_advance l G n this S7 S10 hc11 ok_this) ok_this rfl ⟨Nat.le_of_ble_eq_true rfl, Nat.le_of_ble_eq_true rfl⟩ hl.1 rfl (Nat.le_of_ble_eq_true rfl) dX4_readNumber_46 (Nat.zero_le _) (Nat.zero_le _) (fun H locs hR hS hE12 => ?_)
      have ok_this := hE12 _ _ ok_this
      have ok_q1 := hE12 _ _ ok_q1
      have ok_q3 := hE12 _ _ ok_q3
      have hE := hE.tr hE12
      refine lv_iload_n hx hb dX4_readNumber_49 rfl (lv_at hl 0 rfl) ?_
      exact r_iret hC hR hS hE hf dX4_readNumber_50
    · replace hf := if_f hf hc
      refine lv_iload_n hx hb dX4_readNumber_35 rfl (lv_at hl 0 rfl) ?_
      refine lv_iload_n hx hb dX4_readNumber_36 rfl (lv_at hl 3 rfl) ?_
      refine lv_icmp_le (tgt := 45) hx hb dX4_readNumber_37 (by decide) (fun hc => ?_) (fun hc => ?_)
      · replace hf := if_t hf hc
        refine lv_aload_n hx hb dX4_readNumber_45 rfl (lv_at hl 1 rfl) ?_
        obtain ⟨S13, hc14, hf⟩ := cv_of hf
        refine cl_RX4_51 (As := []) (rest := []) hC hR hS (c_X4_advance l G n this S S13 hc14 ok_this) ok_this rfl ⟨Nat.le_of_ble_eq_true rfl, Nat.le_of_ble_eq_true rfl⟩ hl.1 rfl (Nat.le_of_ble_eq_true rfl) dX4_readNumber_46 (Nat.zero_le _) (Nat.zero_le _) (fun H locs hR hS hE15 => ?_)
        have ok_this := hE15 _ _ ok_this
        have ok_q1 := hE15 _ _ ok_q1
        have ok_q3 := hE15 _ _ ok_q3
        have hE := hE.tr hE15
        refine lv_iload_n hx hb dX4_readNumber_49 rfl (lv_at hl 0 rfl) ?_
        exact r_iret hC hR hS hE hf dX4_readNumber_50
      · replace hf := if_f hf hc
        refine lv_aload_n hx hb dX4_readNumber_40 rfl (lv_at hl 1 rfl) ?_
        refine lv_iconst (v := 2) hx hb dX4_readNumber_41 (by decide) ?_
        obtain ⟨S16, hc17, hf⟩ := cv_of hf
        refine cl_RX4_54 (As := [.int (2 : Int32)]) (rest := []) hC hR hS (c_X4_complain l G n this (2 : Int32) S S16 hc17 ok_this) ok_this rfl ⟨Nat.le_of_ble_eq_true rfl, Nat.le_of_ble_eq_true rfl⟩ hl.1 rfl (Nat.le_of_ble_eq_true rfl) dX4_readNumber_42 (Nat.zero_le _) (Nat.zero_le _) (fun H locs hR hS hE18 => ?_)
        have ok_this := hE18 _ _ ok_this
        have ok_q1 := hE18 _ _ ok_q1
        have ok_q3 := hE18 _ _ ok_q3
        have hE := hE.tr hE18
        refine lv_aload_n hx hb dX4_readNumber_45 rfl (lv_at hl 1 rfl) ?_
        obtain ⟨S19, hc20, hf⟩ := cv_of hf
        refine cl_RX4_51 (As := []) (rest := []) hC hR hS (c_X4_advance l G n this S16 S19 hc20 ok_this) ok_this rfl ⟨Nat.le_of_ble_eq_true rfl, Nat.le_of_ble_eq_true rfl⟩ hl.1 rfl (Nat.le_of_ble_eq_true rfl) dX4_readNumber_46 (Nat.zero_le _) (Nat.zero_le _) (fun H locs hR hS hE21 => ?_)
        have ok_this := hE21 _ _ ok_this
        have ok_q1 := hE21 _ _ ok_q1
        have ok_q3 := hE21 _ _ ok_q3
        have hE := hE.tr hE21
        refine lv_iload_n hx hb dX4_readNumber_49 rfl (lv_at hl 0 rfl) ?_
        exact r_iret hC hR hS hE hf dX4_readNumber_50
  · replace hf := if_f hf hc
    refine lv_aload_n hx hb dX4_readNumber_22 rfl (lv_at hl 1 rfl) ?_
    refine lv_iconst (v := 1) hx hb dX4_readNumber_23 (by decide) ?_
    obtain ⟨S22, hc23, hf⟩ := cv_of hf
    refine cl_RX4_54 (As := [.int (1 : Int32)]) (rest := []) hC hR hS (c_X4_complain l G n this (1 : Int32) S S22 hc23 ok_this) ok_this rfl ⟨Nat.le_of_ble_eq_true rfl, Nat.le_of_ble_eq_true rfl⟩ hl.1 rfl (Nat.le_of_ble_eq_true rfl) dX4_readNumber_24 (Nat.zero_le _) (Nat.zero_le _) (fun H locs hR hS hE24 => ?_)
    have ok_this := hE24 _ _ ok_this
    have ok_q1 := hE24 _ _ ok_q1
    have ok_q3 := hE24 _ _ ok_q3
    have hE := hE.tr hE24
    refine lv_goto (tgt := 45) hx hb dX4_readNumber_27 (by decide) ?_
    refine lv_aload_n hx hb dX4_readNumber_45 rfl (lv_at hl 1 rfl) ?_
    obtain ⟨S25, hc26, hf⟩ := cv_of hf
    refine cl_RX4_51 (As := []) (rest := []) hC hR hS (c_X4_advance l G n this S22 S25 hc26 ok_this) ok_this rfl ⟨Nat.le_of_ble_eq_true rfl, Nat.le_of_ble_eq_true rfl⟩ hl.1 rfl (Nat.le_of_ble_eq_true rfl) dX4_readNumber_46 (Nat.zero_le _) (Nat.zero_le _) (fun H locs hR hS hE27 => ?_)
    have ok_this := hE27 _ _ ok_this
    have ok_q1 := hE27 _ _ ok_q1
    have ok_q3 := hE27 _ _ ok_q3
    have hE := hE.tr hE27
    refine lv_iload_n hx hb dX4_readNumber_49 rfl (lv_at hl 0 rfl) ?_
    exact r_iret hC hR hS hE hf dX4_readNumber_50
abbrev rX4_readOne (fr lo : Nat) : Room := { frames := fr + 2, cells := 0, slots := 0, locals := lo + 44 }
def f_X4_readOne_L169 (n : Nat) (this : Nat) (x3 : Int32) : Nat → Int32 → MS → Option (MS)
  | 0, _, _ => none
  | k + 1, x11, S12 => jn (f_X4_readOne_L169 n this x3 k) fun rec169_10 => (if x3 ≤ x11 then some S12 else gR S12 (mR S12 this 3) 7 fun q13 => cv (f_X7_put n q13 (42 : Int32) (0 : Int32) S12) fun S15 => bd (x11 + (1 : Int32)) fun x18 => rec169_10 x18 S15)
def f_X4_readOne_L2 (n : Nat) (this : Nat) (a1 : Int32) (j27_2 : Int32 → MS → Option (MS)) : Nat → Int32 → MS → Option (MS)
  | 0, _, _ => none
  | k + 1, x82, S83 => jn (f_X4_readOne_L2 n this a1 j27_2 k) fun rec2_81 => (if (8 : Int32) ≤ x82 then j27_2 x82 S83 else (if (mI S83 this 5) = (29 : Int32) then bd (x82 + (1 : Int32)) fun x84 => cv (f_X4_advance n this S83) fun S85 => rec2_81 x84 S85 else j27_2 x82 S83))
def B_X4_readOne (n : Nat) (rec : Nat → Int32 → MS → Option (MS)) (this : Nat) (a1 : Int32) (S : MS) : Option (MS) :=
  jn (fun (x3 : Int32) (S4 : MS) => bd (mI S4 this 5) fun x5 => jn (fun (S8 : MS) => f_X4_readOne_L169 n this x3 n a1 S8) fun j166_7 => (if x5 = (38 : Int32) then gR S4 (mR S4 this 3) 7 fun q70 => cl (f_X4_readNumber n this (0 : Int32) (9999 : Int32) S4) fun x75 S72 => cv (f_X7_put n q70 (38 : Int32) x75 S72) fun S76 => j166_7 S76 else (if (12 : Int32) ≤ x5 then jn (fun (S22 : MS) => jn (fun (S25 : MS) => cl (f_X4_isOpened n this x3 S25) fun x29 S26 => (if x29 = 0 then j166_7 S26 else cv (rec this (x3 + (1 : Int32)) S26) fun S30 => jn (fun (S35 : MS) => cv (f_X4_expect n this (33 : Int32) S35) fun S36 => j166_7 S36) fun j142_34 => (if x5 = (32 : Int32) then j142_34 S30 else cv (f_X4_expect n this (34 : Int32) S30) fun S39 => cv (rec this (x3 + (1 : Int32)) S39) fun S42 => gR S42 (mR S42 this 3) 7 fun q45 => cv (f_X7_put n q45 x5 (0 : Int32) S42) fun S47 => j142_34 S47))) fun j99_24 => (if x5 = (32 : Int32) then j99_24 S22 else cv (f_X4_advance n this S22) fun S51 => j99_24 S51)) fun j89_21 => (if x5 = (32 : Int32) then j89_21 S4 else (if x5 = (12 : Int32) then j89_21 S4 else (if x5 = (13 : Int32) then j89_21 S4 else jn (fun (q57 : Nat) (x58 : Int32) (S59 : MS) => cv (f_X4_complain n q57 x58 S59) fun S60 => j166_7 S60) fun j163_56 => (if x5 = (29 : Int32) then j163_56 this (3 : Int32) S4 else j163_56 this (1 : Int32) S4)))) else cv (f_X4_readName n this S4) fun S67 => j166_7 S67))) fun j27_2 => f_X4_readOne_L2 n this a1 j27_2 n a1 S
set_option maxRecDepth 100000 in
set_option maxHeartbeats 4000000 in
theorem o_X4_readOne (l : Launch) (G : Gx) (n fr lo : Nat) (rec : Nat → Int32 → MS → Option (MS)) (hrec : ∀ (this : Nat) (b1 : Int32) (S : MS) (So : MS), rec this b1 S = some So → Ok S this 4 → Cn G l yX4_readSum cX4_readSum 6 none { frames := fr, cells := 0, slots := 0, locals := lo } [.ref this, .int b1] S none So) (this : Nat) (a1 : Int32) (S : MS) (So : MS) (hf : B_X4_readOne n rec this a1 S = some So) (ok_this : Ok S this 4) : Cn G l yX4_readOne cX4_readOne 5 none (rX4_readOne fr lo) [.ref this, .int a1] S none So := by
  refine Cn.of (by decide) (Nat.le_of_ble_eq_true rfl) ?_
  intro p e s m args below meth c hC hname hR ls hl
  have hC : Cx G RX4 cX4_readOne 5 none p s m args meth c := hC
  have hl : lv_has ls 5 [(0, .ref this), (1, .int a1)] := hl
  have hx := hC.x
  have hb := hC.b
  have hS : va_S (gA G) s.heap s.heap [] := va_S.rf
  have hE : Ex S S := Ex.rf S
  unfold B_X4_readOne at hf
  refine lv_iload_n hx hb dX4_readOne_0 rfl (lv_at hl 1 rfl) ?_
  refine lv_istore_n (lv' := [(2, .int a1), (0, .ref this), (1, .int a1)]) hx hb dX4_readOne_1 rfl hl (by decide) rfl (fun ls hl => ?_)
  obtain ⟨j27_2, ej27_2, hf⟩ := jn_of2 hf
  have hj27_1 : ∀ (x3 : Int32) (S4 : MS) (H : Heap) (locs : List Loc) (ls : Array Slot), j27_2 x3 S4 = some So → Rp G S4 H → va_S (gA G) s.heap H locs → Ex S S4 → Ok S4 this 4 → lv_has ls 5 [(0, .ref this), (1, .int a1), (2, .int x3)] → W p l e (rX4_readOne fr lo) s m args below meth c H locs 0 0 (MQ below (Qn G S none So) args s 0 0 (gA G)) (F0 m 27 ls []) := by
    intro x3 S4 H locs ls hf hR hS hE ok_this hl
    rw [ej27_2] at hf
    refine lv_aload_n hx hb dX4_readOne_27 rfl (lv_at hl 0 rfl) ?_
    refine gf_RX4_45 hC hR ok_this dX4_readOne_28 ?_
    refine bdi hf (fun x5 hf => ?_)
    refine lv_istore_n (lv' := [(3, .int x5), (0, .ref this), (1, .int a1), (2, .int x3)]) hx hb dX4_readOne_31 rfl hl (by decide) rfl (fun ls hl => ?_)
    refine lv_iload_n hx hb dX4_readOne_32 rfl (lv_at hl 0 rfl) ?_
    refine lv_bipush (v := 38) hx hb dX4_readOne_33 (by decide) ?_
    obtain ⟨j166_7, ej166_7, hf⟩ := jn_of1 hf
    have hj166_6 : ∀ (S8 : MS) (H : Heap) (locs : List Loc) (ls : Array Slot), j166_7 S8 = some So → Rp G S8 H → va_S (gA G) s.heap H locs → Ex S S8 → Ok S8 this 4 → lv_has ls 5 [(0, .ref this), (1, .int a1), (2, .int x3)] → W p l e (rX4_readOne fr lo) s m args below meth c H locs 0 0 (MQ below (Qn G S none So) args s 0 0 (gA G)) (F0 m 166 ls []) := by
      intro S8 H locs ls hf hR hS hE ok_this hl
      rw [ej166_7] at hf
      refine lv_iload_n hx hb dX4_readOne_166 rfl (lv_at hl 1 rfl) ?_
      refine lv_istore (lv' := [(4, .int a1), (0, .ref this), (1, .int a1), (2, .int x3)]) hx hb dX4_readOne_167 hl (by decide) rfl (fun ls hl => ?_)
      have hh19 : ∀ k : Nat, ∀ (x11 : Int32) (S12 : MS) (H : Heap) (locs : List Loc) (ls : Array Slot), f_X4_readOne_L169 n this x3 k x11 S12 = some So → Rp G S12 H → va_S (gA G) s.heap H locs → Ex S S12 → Ok S12 this 4 → lv_has ls 5 [(0, .ref this), (2, .int x3), (4, .int x11)] → W p l e (rX4_readOne fr lo) s m args below meth c H locs 0 0 (MQ below (Qn G S none So) args s 0 0 (gA G)) (F0 m 169 ls []) := by
        intro k
        induction k with
        | zero =>
          intro x11 S12 H locs ls hf hR hS hE ok_this hl
          exact absurd hf (by rw [f_X4_readOne_L169]; exact fun h => by cases h)
        | succ k ih =>
          intro x11 S12 H locs ls hf hR hS hE ok_this hl
          rw [f_X4_readOne_L169] at hf
          obtain ⟨rec169_10, erec169_10, hf⟩ := jn_of2 hf
          have hL169_9 : ∀ (x11 : Int32) (S12 : MS) (H : Heap) (locs : List Loc) (ls : Array Slot), rec169_10 x11 S12 = some So → Rp G S12 H → va_S (gA G) s.heap H locs → Ex S S12 → Ok S12 this 4 → lv_has ls 5 [(0, .ref this), (2, .int x3), (4, .int x11)] → W p l e (rX4_readOne fr lo) s m args below meth c H locs 0 0 (MQ below (Qn G S none So) args s 0 0 (gA G)) (F0 m 169 ls []) := by
            intro x11 S12 H locs ls hf hR hS hE ok_this hl
            rw [erec169_10] at hf
            exact ih x11 S12 _ _ _ hf hR hS hE ok_this hl
          refine lv_iload hx hb dX4_readOne_169 (lv_at hl 2 rfl) ?_
          refine lv_iload_n hx hb dX4_readOne_171 rfl (lv_at hl 1 rfl) ?_
          refine lv_icmp_ge (tgt := 191) hx hb dX4_readOne_172 (by decide) (fun hc => ?_) (fun hc => ?_)
          · replace hf := if_t hf hc
            exact r_vret hC hR hS hE hf dX4_readOne_191
          · replace hf := if_f hf hc
            refine lv_aload_n hx hb dX4_readOne_175 rfl (lv_at hl 0 rfl) ?_
            obtain ⟨q13, hq14, ok_q13, hf⟩ := gR_of hf
            refine gf_RX4_25 hC hR ok_this hq14 dX4_readOne_176 ?_
            refine lv_bipush (v := 42) hx hb dX4_readOne_179 (by decide) ?_
            refine lv_iconst (v := 0) hx hb dX4_readOne_181 (by decide) ?_
            obtain ⟨S15, hc16, hf⟩ := cv_of hf
            refine cl_RX4_110 (As := [.int (42 : Int32), .int (0 : Int32)]) (rest := []) hC hR hS (c_X7_put l G n q13 (42 : Int32) (0 : Int32) S12 S15 hc16 ok_q13) ok_q13 rfl ⟨Nat.le_trans (show rX7_put.frames + 1 ≤ 2 by decide) (Nat.le_add_left _ _), Nat.le_trans (show 8 + (3 + 11) + rX7_put.locals ≤ 44 by decide) (Nat.le_add_left _ _)⟩ hl.1 rfl (Nat.le_of_ble_eq_true rfl) dX4_readOne_182 (Nat.zero_le _) (Nat.zero_le _) (fun H locs hR hS hE17 => ?_)
            have ok_this := hE17 _ _ ok_this
            have ok_q13 := hE17 _ _ ok_q13
            have hE := hE.tr hE17
            refine r_iinc (n := 1) (z := 1) (lv' := fun x18 => [(4, .int x18), (0, .ref this), (2, .int x3)]) hx hb dX4_readOne_185 hl (k := 2) rfl (by decide) (by decide) (fun _ => rfl) hf (fun x18 ls hf hl => ?_)
            refine lv_goto (tgt := 169) hx hb dX4_readOne_188 (by decide) ?_
            exact hL169_9 x18 S15 _ _ _ hf hR hS hE ok_this (lv_sub hl [1, 2, 0] rfl)
      exact hh19 n a1 S8 _ _ _ hf hR hS hE ok_this (lv_sub hl [1, 3, 0] rfl)
    refine lv_icmp_ne (tgt := 58) hx hb dX4_readOne_35 (by decide) (fun hc => ?_) (fun hc => ?_)
    · replace hf := if_f hf hc
      refine lv_iload_n hx hb dX4_readOne_58 rfl (lv_at hl 0 rfl) ?_
      refine lv_bipush (v := 12) hx hb dX4_readOne_59 (by decide) ?_
      refine lv_icmp_ge (tgt := 71) hx hb dX4_readOne_61 (by decide) (fun hc => ?_) (fun hc => ?_)
      · replace hf := if_t hf hc
        refine lv_iload_n hx hb dX4_readOne_71 rfl (lv_at hl 0 rfl) ?_
        refine lv_bipush (v := 32) hx hb dX4_readOne_72 (by decide) ?_
        obtain ⟨j89_21, ej89_21, hf⟩ := jn_of1 hf
        have hj89_20 : ∀ (S22 : MS) (H : Heap) (locs : List Loc) (ls : Array Slot), j89_21 S22 = some So → Rp G S22 H → va_S (gA G) s.heap H locs → Ex S S22 → Ok S22 this 4 → lv_has ls 5 [(0, .ref this), (1, .int a1), (2, .int x3), (3, .int x5)] → W p l e (rX4_readOne fr lo) s m args below meth c H locs 0 0 (MQ below (Qn G S none So) args s 0 0 (gA G)) (F0 m 89 ls []) := by
          intro S22 H locs ls hf hR hS hE ok_this hl
          rw [ej89_21] at hf
          refine lv_iload_n hx hb dX4_readOne_89 rfl (lv_at hl 3 rfl) ?_
          refine lv_bipush (v := 32) hx hb dX4_readOne_90 (by decide) ?_
          obtain ⟨j99_24, ej99_24, hf⟩ := jn_of1 hf
          have hj99_23 : ∀ (S25 : MS) (H : Heap) (locs : List Loc) (ls : Array Slot), j99_24 S25 = some So → Rp G S25 H → va_S (gA G) s.heap H locs → Ex S S25 → Ok S25 this 4 → lv_has ls 5 [(0, .ref this), (1, .int a1), (2, .int x3), (3, .int x5)] → W p l e (rX4_readOne fr lo) s m args below meth c H locs 0 0 (MQ below (Qn G S none So) args s 0 0 (gA G)) (F0 m 99 ls []) := by
            intro S25 H locs ls hf hR hS hE ok_this hl
            rw [ej99_24] at hf
            refine lv_aload_n hx hb dX4_readOne_99 rfl (lv_at hl 0 rfl) ?_
            refine lv_iload_n hx hb dX4_readOne_100 rfl (lv_at hl 2 rfl) ?_
            obtain ⟨x29, S26, hc27, hf⟩ := cl_of hf
            refine cl_RX4_119 (As := [.int x3]) (rest := []) hC hR hS (c_X4_isOpened l G n this x3 S25 x29 S26 hc27 ok_this) ok_this rfl ⟨Nat.le_trans (show rX4_isOpened.frames + 1 ≤ 2 by decide) (Nat.le_add_left _ _), Nat.le_trans (show 8 + (2 + 11) + rX4_isOpened.locals ≤ 44 by decide) (Nat.le_add_left _ _)⟩ hl.1 rfl (Nat.le_of_ble_eq_true rfl) dX4_readOne_101 (Nat.zero_le _) (Nat.zero_le _) (fun H locs hR hS hE28 => ?_)
            have ok_this := hE28 _ _ ok_this
            have hE := hE.tr hE28
            refine lv_if_eq (tgt := 166) hx hb dX4_readOne_104 (by decide) (fun hc => ?_) (fun hc => ?_)
            · replace hf := if_t hf hc
              exact hj166_6 S26 _ _ _ hf hR hS hE ok_this (lv_sub hl [0, 1, 2] rfl)
            · replace hf := if_f hf hc
              refine lv_aload_n hx hb dX4_readOne_107 rfl (lv_at hl 0 rfl) ?_
              refine lv_iload_n hx hb dX4_readOne_108 rfl (lv_at hl 2 rfl) ?_
              refine lv_iconst (v := 1) hx hb dX4_readOne_109 (by decide) ?_
              refine lv_iadd hx hb dX4_readOne_110 ?_
              obtain ⟨S30, hc31, hf⟩ := cv_of hf
              refine cl_RX4_88 (As := [.int (x3 + (1 : Int32))]) (rest := []) hC hR hS (hrec this (x3 + (1 : Int32)) S26 S30 hc31 ok_this) ok_this rfl ⟨Nat.add_le_add_left (Nat.le_of_ble_eq_true rfl) _, (by show 8 + (6 + 11) + lo ≤ lo + 44; omega)⟩ hl.1 rfl (Nat.le_of_ble_eq_true rfl) dX4_readOne_111 (Nat.zero_le _) (Nat.zero_le _) (fun H locs hR hS hE32 => ?_)
              have ok_this := hE32 _ _ ok_this
              have hE := hE.tr hE32
              refine lv_iload_n hx hb dX4_readOne_114 rfl (lv_at hl 3 rfl) ?_
              refine lv_bipush (v := 32) hx hb dX4_readOne_115 (by decide) ?_
              obtain ⟨j142_34, ej142_34, hf⟩ := jn_of1 hf
              have hj142_33 : ∀ (S35 : MS) (H : Heap) (locs : List Loc) (ls : Array Slot), j142_34 S35 = some So → Rp G S35 H → va_S (gA G) s.heap H locs → Ex S S35 → Ok S35 this 4 → lv_has ls 5 [(0, .ref this), (1, .int a1), (2, .int x3)] → W p l e (rX4_readOne fr lo) s m args below meth c H locs 0 0 (MQ below (Qn G S none So) args s 0 0 (gA G)) (F0 m 142 ls []) := by
                intro S35 H locs ls hf hR hS hE ok_this hl
                rw [ej142_34] at hf
                refine lv_aload_n hx hb dX4_readOne_142 rfl (lv_at hl 0 rfl) ?_
                refine lv_bipush (v := 33) hx hb dX4_readOne_143 (by decide) ?_
                obtain ⟨S36, hc37, hf⟩ := cv_of hf
                refine cl_RX4_94 (As := [.int (33 : Int32)]) (rest := []) hC hR hS (c_X4_expect l G n this (33 : Int32) S35 S36 hc37 ok_this) ok_this rfl ⟨Nat.le_trans (show rX4_expect.frames + 1 ≤ 2 by decide) (Nat.le_add_left _ _), Nat.le_trans (show 8 + (2 + 11) + rX4_expect.locals ≤ 44 by decide) (Nat.le_add_left _ _)⟩ hl.1 rfl (Nat.le_of_ble_eq_true rfl) dX4_readOne_145 (Nat.zero_le _) (Nat.zero_le _) (fun H locs hR hS hE38 => ?_)
                have ok_this := hE38 _ _ ok_this
                have hE := hE.tr hE38
                refine lv_goto (tgt := 166) hx hb dX4_readOne_148 (by decide) ?_
                exact hj166_6 S36 _ _ _ hf hR hS hE ok_this (lv_sub hl [0, 1, 2] rfl)
              refine lv_icmp_eq (tgt := 142) hx hb dX4_readOne_117 (by decide) (fun hc => ?_) (fun hc => ?_)
              · replace hf := if_t hf hc
                exact hj142_33 S30 _ _ _ hf hR hS hE ok_this (lv_sub hl [0, 1, 2] rfl)
              · replace hf := if_f hf hc
                refine lv_aload_n hx hb dX4_readOne_120 rfl (lv_at hl 0 rfl) ?_
                refine lv_bipush (v := 34) hx hb dX4_readOne_121 (by decide) ?_
                obtain ⟨S39, hc40, hf⟩ := cv_of hf
                refine cl_RX4_94 (As := [.int (34 : Int32)]) (rest := []) hC hR hS (c_X4_expect l G n this (34 : Int32) S30 S39 hc40 ok_this) ok_this rfl ⟨Nat.le_trans (show rX4_expect.frames + 1 ≤ 2 by decide) (Nat.le_add_left _ _), Nat.le_trans (show 8 + (2 + 11) + rX4_expect.locals ≤ 44 by decide) (Nat.le_add_left _ _)⟩ hl.1 rfl (Nat.le_of_ble_eq_true rfl) dX4_readOne_123 (Nat.zero_le _) (Nat.zero_le _) (fun H locs hR hS hE41 => ?_)
                have ok_this := hE41 _ _ ok_this
                have hE := hE.tr hE41
                refine lv_aload_n hx hb dX4_readOne_126 rfl (lv_at hl 0 rfl) ?_
                refine lv_iload_n hx hb dX4_readOne_127 rfl (lv_at hl 2 rfl) ?_
                refine lv_iconst (v := 1) hx hb dX4_readOne_128 (by decide) ?_
                refine lv_iadd hx hb dX4_readOne_129 ?_
                obtain ⟨S42, hc43, hf⟩ := cv_of hf
                refine cl_RX4_88 (As := [.int (x3 + (1 : Int32))]) (rest := []) hC hR hS (hrec this (x3 + (1 : Int32)) S39 S42 hc43 ok_this) ok_this rfl ⟨Nat.add_le_add_left (Nat.le_of_ble_eq_true rfl) _, (by show 8 + (6 + 11) + lo ≤ lo + 44; omega)⟩ hl.1 rfl (Nat.le_of_ble_eq_true rfl) dX4_readOne_130 (Nat.zero_le _) (Nat.zero_le _) (fun H locs hR hS hE44 => ?_)
                have ok_this := hE44 _ _ ok_this
                have hE := hE.tr hE44
                refine lv_aload_n hx hb dX4_readOne_133 rfl (lv_at hl 0 rfl) ?_
                obtain ⟨q45, hq46, ok_q45, hf⟩ := gR_of hf
                refine gf_RX4_25 hC hR ok_this hq46 dX4_readOne_134 ?_
                refine lv_iload_n hx hb dX4_readOne_137 rfl (lv_at hl 3 rfl) ?_
                refine lv_iconst (v := 0) hx hb dX4_readOne_138 (by decide) ?_
                obtain ⟨S47, hc48, hf⟩ := cv_of hf
                refine cl_RX4_110 (As := [.int x5, .int (0 : Int32)]) (rest := []) hC hR hS (c_X7_put l G n q45 x5 (0 : Int32) S42 S47 hc48 ok_q45) ok_q45 rfl ⟨Nat.le_trans (show rX7_put.frames + 1 ≤ 2 by decide) (Nat.le_add_left _ _), Nat.le_trans (show 8 + (3 + 11) + rX7_put.locals ≤ 44 by decide) (Nat.le_add_left _ _)⟩ hl.1 rfl (Nat.le_of_ble_eq_true rfl) dX4_readOne_139 (Nat.zero_le _) (Nat.zero_le _) (fun H locs hR hS hE49 => ?_)
                have ok_this := hE49 _ _ ok_this
                have ok_q45 := hE49 _ _ ok_q45
                have hE := hE.tr hE49
                exact hj142_33 S47 _ _ _ hf hR hS hE ok_this (lv_sub hl [0, 1, 2] rfl)
          refine lv_icmp_eq (tgt := 99) hx hb dX4_readOne_92 (by decide) (fun hc => ?_) (fun hc => ?_)
          · replace hf := if_t hf hc
            exact hj99_23 S22 _ _ _ hf hR hS hE ok_this (lv_sub hl [0, 1, 2, 3] rfl)
          · replace hf := if_f hf hc
            refine lv_aload_n hx hb dX4_readOne_95 rfl (lv_at hl 0 rfl) ?_
            obtain ⟨S51, hc52, hf⟩ := cv_of hf
            refine cl_RX4_51 (As := []) (rest := []) hC hR hS (c_X4_advance l G n this S22 S51 hc52 ok_this) ok_this rfl ⟨Nat.le_trans (show rX4_advance.frames + 1 ≤ 2 by decide) (Nat.le_add_left _ _), Nat.le_trans (show 8 + (1 + 11) + rX4_advance.locals ≤ 44 by decide) (Nat.le_add_left _ _)⟩ hl.1 rfl (Nat.le_of_ble_eq_true rfl) dX4_readOne_96 (Nat.zero_le _) (Nat.zero_le _) (fun H locs hR hS hE53 => ?_)
            have ok_this := hE53 _ _ ok_this
            have hE := hE.tr hE53
            exact hj99_23 S51 _ _ _ hf hR hS hE ok_this (lv_sub hl [0, 1, 2, 3] rfl)
        refine lv_icmp_eq (tgt := 89) hx hb dX4_readOne_74 (by decide) (fun hc => ?_) (fun hc => ?_)
        · replace hf := if_t hf hc
          exact hj89_20 S4 _ _ _ hf hR hS hE ok_this (lv_sub hl [1, 2, 3, 0] rfl)
        · replace hf := if_f hf hc
          refine lv_iload_n hx hb dX4_readOne_77 rfl (lv_at hl 0 rfl) ?_
          refine lv_bipush (v := 12) hx hb dX4_readOne_78 (by decide) ?_
          refine lv_icmp_eq (tgt := 89) hx hb dX4_readOne_80 (by decide) (fun hc => ?_) (fun hc => ?_)
          · replace hf := if_t hf hc
            exact hj89_20 S4 _ _ _ hf hR hS hE ok_this (lv_sub hl [1, 2, 3, 0] rfl)
          · replace hf := if_f hf hc
            refine lv_iload_n hx hb dX4_readOne_83 rfl (lv_at hl 0 rfl) ?_
            refine lv_bipush (v := 13) hx hb dX4_readOne_84 (by decide) ?_
            refine lv_icmp_ne (tgt := 151) hx hb dX4_readOne_86 (by decide) (fun hc => ?_) (fun hc => ?_)
            · replace hf := if_f hf hc
              refine lv_aload_n hx hb dX4_readOne_151 rfl (lv_at hl 1 rfl) ?_
              refine lv_iload_n hx hb dX4_readOne_152 rfl (lv_at hl 0 rfl) ?_
              refine lv_bipush (v := 29) hx hb dX4_readOne_153 (by decide) ?_
              obtain ⟨j163_56, ej163_56, hf⟩ := jn_of3 hf
              have hj163_55 : ∀ (q57 : Nat) (x58 : Int32) (S59 : MS) (H : Heap) (locs : List Loc) (ls : Array Slot), j163_56 q57 x58 S59 = some So → Rp G S59 H → va_S (gA G) s.heap H locs → Ex S S59 → Ok S59 this 4 → Ok S59 q57 4 → lv_has ls 5 [(0, .ref this), (1, .int a1), (2, .int x3)] → W p l e (rX4_readOne fr lo) s m args below meth c H locs 0 0 (MQ below (Qn G S none So) args s 0 0 (gA G)) (F0 m 163 ls [.int x58, .ref q57]) := by
                intro q57 x58 S59 H locs ls hf hR hS hE ok_this ok_q57 hl
                rw [ej163_56] at hf
                obtain ⟨S60, hc61, hf⟩ := cv_of hf
                refine cl_RX4_54 (As := [.int x58]) (rest := []) hC hR hS (c_X4_complain l G n q57 x58 S59 S60 hc61 ok_q57) ok_q57 rfl ⟨Nat.le_trans (show rX4_complain.frames + 1 ≤ 2 by decide) (Nat.le_add_left _ _), Nat.le_trans (show 8 + (2 + 11) + rX4_complain.locals ≤ 44 by decide) (Nat.le_add_left _ _)⟩ hl.1 rfl (Nat.le_of_ble_eq_true rfl) dX4_readOne_163 (Nat.zero_le _) (Nat.zero_le _) (fun H locs hR hS hE62 => ?_)
                have ok_this := hE62 _ _ ok_this
                have ok_q57 := hE62 _ _ ok_q57
                have hE := hE.tr hE62
                exact hj166_6 S60 _ _ _ hf hR hS hE ok_this (lv_sub hl [0, 1, 2] rfl)
              refine lv_icmp_ne (tgt := 162) hx hb dX4_readOne_155 (by decide) (fun hc => ?_) (fun hc => ?_)
              · replace hf := if_f hf hc
                refine lv_iconst (v := 1) hx hb dX4_readOne_162 (by decide) ?_
                exact hj163_55 this (1 : Int32) S4 _ _ _ hf hR hS hE ok_this ok_this (lv_sub hl [1, 2, 3] rfl)
              · replace hf := if_t hf hc
                refine lv_iconst (v := 3) hx hb dX4_readOne_158 (by decide) ?_
                refine lv_goto (tgt := 163) hx hb dX4_readOne_159 (by decide) ?_
                exact hj163_55 this (3 : Int32) S4 _ _ _ hf hR hS hE ok_this ok_this (lv_sub hl [1, 2, 3] rfl)
            · replace hf := if_t hf hc
              exact hj89_20 S4 _ _ _ hf hR hS hE ok_this (lv_sub hl [1, 2, 3, 0] rfl)
      · replace hf := if_f hf hc
        refine lv_aload_n hx hb dX4_readOne_64 rfl (lv_at hl 1 rfl) ?_
        obtain ⟨S67, hc68, hf⟩ := cv_of hf
        refine cl_RX4_116 (As := []) (rest := []) hC hR hS (c_X4_readName l G n this S4 S67 hc68 ok_this) ok_this rfl ⟨Nat.le_trans (show rX4_readName.frames + 1 ≤ 2 by decide) (Nat.le_add_left _ _), Nat.le_trans (show 8 + (1 + 11) + rX4_readName.locals ≤ 44 by decide) (Nat.le_add_left _ _)⟩ hl.1 rfl (Nat.le_of_ble_eq_true rfl) dX4_readOne_65 (Nat.zero_le _) (Nat.zero_le _) (fun H locs hR hS hE69 => ?_)
        have ok_this := hE69 _ _ ok_this
        have hE := hE.tr hE69
        refine lv_goto (tgt := 166) hx hb dX4_readOne_68 (by decide) ?_
        exact hj166_6 S67 _ _ _ hf hR hS hE ok_this (lv_sub hl [1, 2, 3] rfl)
    · replace hf := if_t hf hc
      refine lv_aload_n hx hb dX4_readOne_38 rfl (lv_at hl 1 rfl) ?_
      obtain ⟨q70, hq71, ok_q70, hf⟩ := gR_of hf
      refine gf_RX4_25 hC hR ok_this hq71 dX4_readOne_39 ?_
      refine lv_bipush (v := 38) hx hb dX4_readOne_42 (by decide) ?_
      refine lv_aload_n hx hb dX4_readOne_44 rfl (lv_at hl 1 rfl) ?_
      refine lv_iconst (v := 0) hx hb dX4_readOne_45 (by decide) ?_
      refine lv_sipush (v := 9999) hx hb dX4_readOne_46 (by decide) ?_
      obtain ⟨x75, S72, hc73, hf⟩ := cl_of hf
      refine cl_RX4_97 (As := [.int (0 : Int32), .int (9999 : Int32)]) (rest := [.int (38 : Int32), .ref q70]) hC hR hS (c_X4_readNumber l G n this (0 : Int32) (9999 : Int32) S4 x75 S72 hc73 ok_this) ok_this rfl ⟨Nat.le_trans (show rX4_readNumber.frames + 1 ≤ 2 by decide) (Nat.le_add_left _ _), Nat.le_trans (show 8 + (4 + 11) + rX4_readNumber.locals ≤ 44 by decide) (Nat.le_add_left _ _)⟩ hl.1 rfl (Nat.le_of_ble_eq_true rfl) dX4_readOne_49 (Nat.zero_le _) (Nat.zero_le _) (fun H locs hR hS hE74 => ?_)
      have ok_this := hE74 _ _ ok_this
      have ok_q70 := hE74 _ _ ok_q70
      have hE := hE.tr hE74
      obtain ⟨S76, hc77, hf⟩ := cv_of hf
      refine cl_RX4_110 (As := [.int (38 : Int32), .int x75]) (rest := []) hC hR hS (c_X7_put l G n q70 (38 : Int32) x75 S72 S76 hc77 ok_q70) ok_q70 rfl ⟨Nat.le_trans (show rX7_put.frames + 1 ≤ 2 by decide) (Nat.le_add_left _ _), Nat.le_trans (show 8 + (3 + 11) + rX7_put.locals ≤ 44 by decide) (Nat.le_add_left _ _)⟩ hl.1 rfl (Nat.le_of_ble_eq_true rfl) dX4_readOne_52 (Nat.zero_le _) (Nat.zero_le _) (fun H locs hR hS hE78 => ?_)
      have ok_this := hE78 _ _ ok_this
      have ok_q70 := hE78 _ _ ok_q70
      have hE := hE.tr hE78
      refine lv_goto (tgt := 166) hx hb dX4_readOne_55 (by decide) ?_
      exact hj166_6 S76 _ _ _ hf hR hS hE ok_this (lv_sub hl [1, 2, 3] rfl)
  have hh88 : ∀ k : Nat, ∀ (x82 : Int32) (S83 : MS) (H : Heap) (locs : List Loc) (ls : Array Slot), f_X4_readOne_L2 n this a1 j27_2 k x82 S83 = some So → Rp G S83 H → va_S (gA G) s.heap H locs → Ex S S83 → Ok S83 this 4 → lv_has ls 5 [(0, .ref this), (1, .int a1), (2, .int x82)] → W p l e (rX4_readOne fr lo) s m args below meth c H locs 0 0 (MQ below (Qn G S none So) args s 0 0 (gA G)) (F0 m 2 ls []) := by
    intro k
    induction k with
    | zero =>
      intro x82 S83 H locs ls hf hR hS hE ok_this hl
      exact absurd hf (by rw [f_X4_readOne_L2]; exact fun h => by cases h)
    | succ k ih =>
      intro x82 S83 H locs ls hf hR hS hE ok_this hl
      rw [f_X4_readOne_L2] at hf
      obtain ⟨rec2_81, erec2_81, hf⟩ := jn_of2 hf
      have hL2_80 : ∀ (x82 : Int32) (S83 : MS) (H : Heap) (locs : List Loc) (ls : Array Slot), rec2_81 x82 S83 = some So → Rp G S83 H → va_S (gA G) s.heap H locs → Ex S S83 → Ok S83 this 4 → lv_has ls 5 [(0, .ref this), (1, .int a1), (2, .int x82)] → W p l e (rX4_readOne fr lo) s m args below meth c H locs 0 0 (MQ below (Qn G S none So) args s 0 0 (gA G)) (F0 m 2 ls []) := by
        intro x82 S83 H locs ls hf hR hS hE ok_this hl
        rw [erec2_81] at hf
        exact ih x82 S83 _ _ _ hf hR hS hE ok_this hl
      refine lv_iload_n hx hb dX4_readOne_2 rfl (lv_at hl 2 rfl) ?_
      refine lv_bipush (v := 8) hx hb dX4_readOne_3 (by decide) ?_
      refine lv_icmp_ge (tgt := 27) hx hb dX4_readOne_5 (by decide) (fun hc => ?_) (fun hc => ?_)
      · replace hf := if_t hf hc
        exact hj27_1 x82 S83 _ _ _ hf hR hS hE ok_this (lv_sub hl [0, 1, 2] rfl)
      · replace hf := if_f hf hc
        refine lv_aload_n hx hb dX4_readOne_8 rfl (lv_at hl 0 rfl) ?_
        refine gf_RX4_45 hC hR ok_this dX4_readOne_9 ?_
        refine lv_bipush (v := 29) hx hb dX4_readOne_12 (by decide) ?_
        refine lv_icmp_ne (tgt := 27) hx hb dX4_readOne_14 (by decide) (fun hc => ?_) (fun hc => ?_)
        · replace hf := if_f hf hc
          exact hj27_1 x82 S83 _ _ _ hf hR hS hE ok_this (lv_sub hl [0, 1, 2] rfl)
        · replace hf := if_t hf hc
          refine r_iinc (n := 1) (z := 1) (lv' := fun x84 => [(2, .int x84), (0, .ref this), (1, .int a1)]) hx hb dX4_readOne_17 hl (k := 2) rfl (by decide) (by decide) (fun _ => rfl) hf (fun x84 ls hf hl => ?_)
          refine lv_aload_n hx hb dX4_readOne_20 rfl (lv_at hl 1 rfl) ?_
          obtain ⟨S85, hc86, hf⟩ := cv_of hf
          refine cl_RX4_51 (As := []) (rest := []) hC hR hS (c_X4_advance l G n this S83 S85 hc86 ok_this) ok_this rfl ⟨Nat.le_trans (show rX4_advance.frames + 1 ≤ 2 by decide) (Nat.le_add_left _ _), Nat.le_trans (show 8 + (1 + 11) + rX4_advance.locals ≤ 44 by decide) (Nat.le_add_left _ _)⟩ hl.1 rfl (Nat.le_of_ble_eq_true rfl) dX4_readOne_21 (Nat.zero_le _) (Nat.zero_le _) (fun H locs hR hS hE87 => ?_)
          have ok_this := hE87 _ _ ok_this
          have hE := hE.tr hE87
          refine lv_goto (tgt := 2) hx hb dX4_readOne_24 (by decide) ?_
          exact hL2_80 x84 S85 _ _ _ hf hR hS hE ok_this (lv_sub hl [1, 2, 0] rfl)
  exact hh88 n a1 S _ _ _ hf hR hS hE ok_this (lv_sub hl [1, 2, 0] rfl)
abbrev rX4_readSum (fr lo : Nat) : Room := { frames := fr + 1, cells := 0, slots := 0, locals := lo + 24 }
def f_X4_readSum_L9 (n : Nat) (this : Nat) (a1 : Int32) (rec : Nat → Int32 → MS → Option (MS)) (j122_5 : Int32 → MS → Option (MS)) : Nat → Int32 → Int32 → MS → Option (MS)
  | 0, _, _, _ => none
  | k + 1, x15, x16, S17 => jn (f_X4_readSum_L9 n this a1 rec j122_5 k) fun rec9_14 => (if (300 : Int32) ≤ x16 then j122_5 x15 S17 else (if (mI S17 this 5) < (28 : Int32) then j122_5 x15 S17 else (if (31 : Int32) < (mI S17 this 5) then j122_5 x15 S17 else bd (mI S17 this 5) fun x18 => jn (fun (x21 : Int32) (S22 : MS) => jn (fun (S25 : MS) => jn (fun (x28 : Int32) (S29 : MS) => cv (f_X4_advance n this S29) fun S30 => cv (rec this a1 S30) fun S33 => jn (fun (S38 : MS) => bd (x16 + (1 : Int32)) fun x39 => rec9_14 x28 x39 S38) fun j116_37 => (if x21 = 0 then j116_37 S33 else gR S33 (mR S33 this 3) 7 fun q40 => cv (f_X7_put n q40 x18 (0 : Int32) S33) fun S42 => j116_37 S42)) fun j91_27 => (if x21 = 0 then j91_27 x18 S25 else j91_27 x15 S25)) fun j80_24 => (if x21 = 0 then (if x15 = (-1 : Int32) then j80_24 S22 else gR S22 (mR S22 this 3) 7 fun q48 => cv (f_X7_put n q48 x15 (0 : Int32) S22) fun S50 => j80_24 S50) else j80_24 S22)) fun j59_20 => jn (fun (S56 : MS) => j59_20 (1 : Int32) S56) fun j54_55 => (if x18 = (30 : Int32) then j54_55 S17 else (if x18 = (31 : Int32) then j54_55 S17 else j59_20 (0 : Int32) S17)))))
def B_X4_readSum (n : Nat) (rec : Nat → Int32 → MS → Option (MS)) (this : Nat) (a1 : Int32) (S : MS) : Option (MS) :=
  cv (rec this a1 S) fun S1 => jn (fun (x6 : Int32) (S7 : MS) => (if x6 = (-1 : Int32) then some S7 else gR S7 (mR S7 this 3) 7 fun q8 => cv (f_X7_put n q8 x6 (0 : Int32) S7) fun S10 => some S10)) fun j122_5 => f_X4_readSum_L9 n this a1 rec j122_5 n (-1 : Int32) (0 : Int32) S1
set_option maxRecDepth 100000 in
set_option maxHeartbeats 4000000 in
theorem o_X4_readSum (l : Launch) (G : Gx) (n fr lo : Nat) (rec : Nat → Int32 → MS → Option (MS)) (hrec : ∀ (this : Nat) (b1 : Int32) (S : MS) (So : MS), rec this b1 S = some So → Ok S this 4 → Cn G l yX4_readOne cX4_readOne 5 none { frames := fr, cells := 0, slots := 0, locals := lo } [.ref this, .int b1] S none So) (this : Nat) (a1 : Int32) (S : MS) (So : MS) (hf : B_X4_readSum n rec this a1 S = some So) (ok_this : Ok S this 4) : Cn G l yX4_readSum cX4_readSum 6 none (rX4_readSum fr lo) [.ref this, .int a1] S none So := by
  refine Cn.of (by decide) (Nat.le_of_ble_eq_true rfl) ?_
  intro p e s m args below meth c hC hname hR ls hl
  have hC : Cx G RX4 cX4_readSum 6 none p s m args meth c := hC
  have hl : lv_has ls 6 [(0, .ref this), (1, .int a1)] := hl
  have hx := hC.x
  have hb := hC.b
  have hS : va_S (gA G) s.heap s.heap [] := va_S.rf
  have hE : Ex S S := Ex.rf S
  unfold B_X4_readSum at hf
  refine lv_iconst (v := -1) hx hb dX4_readSum_0 (by decide) ?_
  refine lv_istore_n (lv' := [(2, .int (-1 : Int32)), (0, .ref this), (1, .int a1)]) hx hb dX4_readSum_1 rfl hl (by decide) rfl (fun ls hl => ?_)
  refine lv_aload_n hx hb dX4_readSum_2 rfl (lv_at hl 1 rfl) ?_
  refine lv_iload_n hx hb dX4_readSum_3 rfl (lv_at hl 2 rfl) ?_
  obtain ⟨S1, hc2, hf⟩ := cv_of hf
  refine cl_RX4_113 (As := [.int a1]) (rest := []) hC hR hS (hrec this a1 S S1 hc2 ok_this) ok_this rfl ⟨Nat.add_le_add_left (Nat.le_of_ble_eq_true rfl) _, (by show 8 + (5 + 11) + lo ≤ lo + 24; omega)⟩ hl.1 rfl (Nat.le_of_ble_eq_true rfl) dX4_readSum_4 (Nat.zero_le _) (Nat.zero_le _) (fun H locs hR hS hE3 => ?_)
  have ok_this := hE3 _ _ ok_this
  have hE := hE.tr hE3
  refine lv_iconst (v := 0) hx hb dX4_readSum_7 (by decide) ?_
  refine lv_istore_n (lv' := [(3, .int (0 : Int32)), (2, .int (-1 : Int32)), (0, .ref this), (1, .int a1)]) hx hb dX4_readSum_8 rfl hl (by decide) rfl (fun ls hl => ?_)
  obtain ⟨j122_5, ej122_5, hf⟩ := jn_of2 hf
  have hj122_4 : ∀ (x6 : Int32) (S7 : MS) (H : Heap) (locs : List Loc) (ls : Array Slot), j122_5 x6 S7 = some So → Rp G S7 H → va_S (gA G) s.heap H locs → Ex S S7 → Ok S7 this 4 → lv_has ls 6 [(0, .ref this), (2, .int x6)] → W p l e (rX4_readSum fr lo) s m args below meth c H locs 0 0 (MQ below (Qn G S none So) args s 0 0 (gA G)) (F0 m 122 ls []) := by
    intro x6 S7 H locs ls hf hR hS hE ok_this hl
    rw [ej122_5] at hf
    refine lv_iload_n hx hb dX4_readSum_122 rfl (lv_at hl 1 rfl) ?_
    refine lv_iconst (v := -1) hx hb dX4_readSum_123 (by decide) ?_
    refine lv_icmp_eq (tgt := 136) hx hb dX4_readSum_124 (by decide) (fun hc => ?_) (fun hc => ?_)
    · replace hf := if_t hf hc
      exact r_vret hC hR hS hE hf dX4_readSum_136
    · replace hf := if_f hf hc
      refine lv_aload_n hx hb dX4_readSum_127 rfl (lv_at hl 0 rfl) ?_
      obtain ⟨q8, hq9, ok_q8, hf⟩ := gR_of hf
      refine gf_RX4_25 hC hR ok_this hq9 dX4_readSum_128 ?_
      refine lv_iload_n hx hb dX4_readSum_131 rfl (lv_at hl 1 rfl) ?_
      refine lv_iconst (v := 0) hx hb dX4_readSum_132 (by decide) ?_
      obtain ⟨S10, hc11, hf⟩ := cv_of hf
      refine cl_RX4_110 (As := [.int x6, .int (0 : Int32)]) (rest := []) hC hR hS (c_X7_put l G n q8 x6 (0 : Int32) S7 S10 hc11 ok_q8) ok_q8 rfl ⟨Nat.le_trans (show rX7_put.frames + 1 ≤ 1 by decide) (Nat.le_add_left _ _), Nat.le_trans (show 8 + (3 + 11) + rX7_put.locals ≤ 24 by decide) (Nat.le_add_left _ _)⟩ hl.1 rfl (Nat.le_of_ble_eq_true rfl) dX4_readSum_133 (Nat.zero_le _) (Nat.zero_le _) (fun H locs hR hS hE12 => ?_)
      have ok_this := hE12 _ _ ok_this
      have ok_q8 := hE12 _ _ ok_q8
      have hE := hE.tr hE12
      exact r_vret hC hR hS hE hf dX4_readSum_136
  have hh60 : ∀ k : Nat, ∀ (x15 : Int32) (x16 : Int32) (S17 : MS) (H : Heap) (locs : List Loc) (ls : Array Slot), f_X4_readSum_L9 n this a1 rec j122_5 k x15 x16 S17 = some So → Rp G S17 H → va_S (gA G) s.heap H locs → Ex S S17 → Ok S17 this 4 → lv_has ls 6 [(0, .ref this), (1, .int a1), (2, .int x15), (3, .int x16)] → W p l e (rX4_readSum fr lo) s m args below meth c H locs 0 0 (MQ below (Qn G S none So) args s 0 0 (gA G)) (F0 m 9 ls []) := by
    intro k
    induction k with
    | zero =>
      intro x15 x16 S17 H locs ls hf hR hS hE ok_this hl
      exact absurd hf (by rw [f_X4_readSum_L9]; exact fun h => by cases h)
    | succ k ih =>
      intro x15 x16 S17 H locs ls hf hR hS hE ok_this hl
      rw [f_X4_readSum_L9] at hf
      obtain ⟨rec9_14, erec9_14, hf⟩ := jn_of3 hf
      have hL9_13 : ∀ (x15 : Int32) (x16 : Int32) (S17 : MS) (H : Heap) (locs : List Loc) (ls : Array Slot), rec9_14 x15 x16 S17 = some So → Rp G S17 H → va_S (gA G) s.heap H locs → Ex S S17 → Ok S17 this 4 → lv_has ls 6 [(0, .ref this), (1, .int a1), (2, .int x15), (3, .int x16)] → W p l e (rX4_readSum fr lo) s m args below meth c H locs 0 0 (MQ below (Qn G S none So) args s 0 0 (gA G)) (F0 m 9 ls []) := by
        intro x15 x16 S17 H locs ls hf hR hS hE ok_this hl
        rw [erec9_14] at hf
        exact ih x15 x16 S17 _ _ _ hf hR hS hE ok_this hl
      refine lv_iload_n hx hb dX4_readSum_9 rfl (lv_at hl 3 rfl) ?_
      refine lv_sipush (v := 300) hx hb dX4_readSum_10 (by decide) ?_
      refine lv_icmp_ge (tgt := 122) hx hb dX4_readSum_13 (by decide) (fun hc => ?_) (fun hc => ?_)
      · replace hf := if_t hf hc
        exact hj122_4 x15 S17 _ _ _ hf hR hS hE ok_this (lv_sub hl [0, 2] rfl)
      · replace hf := if_f hf hc
        refine lv_aload_n hx hb dX4_readSum_16 rfl (lv_at hl 0 rfl) ?_
        refine gf_RX4_45 hC hR ok_this dX4_readSum_17 ?_
        refine lv_bipush (v := 28) hx hb dX4_readSum_20 (by decide) ?_
        refine lv_icmp_lt (tgt := 122) hx hb dX4_readSum_22 (by decide) (fun hc => ?_) (fun hc => ?_)
        · replace hf := if_t hf hc
          exact hj122_4 x15 S17 _ _ _ hf hR hS hE ok_this (lv_sub hl [0, 2] rfl)
        · replace hf := if_f hf hc
          refine lv_aload_n hx hb dX4_readSum_25 rfl (lv_at hl 0 rfl) ?_
          refine gf_RX4_45 hC hR ok_this dX4_readSum_26 ?_
          refine lv_bipush (v := 31) hx hb dX4_readSum_29 (by decide) ?_
          refine lv_icmp_gt (tgt := 122) hx hb dX4_readSum_31 (by decide) (fun hc => ?_) (fun hc => ?_)
          · replace hf := if_t hf hc
            exact hj122_4 x15 S17 _ _ _ hf hR hS hE ok_this (lv_sub hl [0, 2] rfl)
          · replace hf := if_f hf hc
            refine lv_aload_n hx hb dX4_readSum_34 rfl (lv_at hl 0 rfl) ?_
            refine gf_RX4_45 hC hR ok_this dX4_readSum_35 ?_
            refine bdi hf (fun x18 hf => ?_)
            refine lv_istore (lv' := [(4, .int x18), (0, .ref this), (1, .int a1), (2, .int x15), (3, .int x16)]) hx hb dX4_readSum_38 hl (by decide) rfl (fun ls hl => ?_)
            refine lv_iload hx hb dX4_readSum_40 (lv_at hl 0 rfl) ?_
            refine lv_bipush (v := 30) hx hb dX4_readSum_42 (by decide) ?_
            obtain ⟨j59_20, ej59_20, hf⟩ := jn_of2 hf
            have hj59_19 : ∀ (x21 : Int32) (S22 : MS) (H : Heap) (locs : List Loc) (ls : Array Slot), j59_20 x21 S22 = some So → Rp G S22 H → va_S (gA G) s.heap H locs → Ex S S22 → Ok S22 this 4 → lv_has ls 6 [(0, .ref this), (1, .int a1), (2, .int x15), (3, .int x16), (4, .int x18)] → W p l e (rX4_readSum fr lo) s m args below meth c H locs 0 0 (MQ below (Qn G S none So) args s 0 0 (gA G)) (F0 m 59 ls [.int x21]) := by
              intro x21 S22 H locs ls hf hR hS hE ok_this hl
              rw [ej59_20] at hf
              refine lv_istore (lv' := [(5, .int x21), (0, .ref this), (1, .int a1), (2, .int x15), (3, .int x16), (4, .int x18)]) hx hb dX4_readSum_59 hl (by decide) rfl (fun ls hl => ?_)
              refine lv_iload hx hb dX4_readSum_61 (lv_at hl 0 rfl) ?_
              obtain ⟨j80_24, ej80_24, hf⟩ := jn_of1 hf
              have hj80_23 : ∀ (S25 : MS) (H : Heap) (locs : List Loc) (ls : Array Slot), j80_24 S25 = some So → Rp G S25 H → va_S (gA G) s.heap H locs → Ex S S25 → Ok S25 this 4 → lv_has ls 6 [(0, .ref this), (1, .int a1), (2, .int x15), (3, .int x16), (4, .int x18), (5, .int x21)] → W p l e (rX4_readSum fr lo) s m args below meth c H locs 0 0 (MQ below (Qn G S none So) args s 0 0 (gA G)) (F0 m 80 ls []) := by
                intro S25 H locs ls hf hR hS hE ok_this hl
                rw [ej80_24] at hf
                refine lv_iload hx hb dX4_readSum_80 (lv_at hl 5 rfl) ?_
                obtain ⟨j91_27, ej91_27, hf⟩ := jn_of2 hf
                have hj91_26 : ∀ (x28 : Int32) (S29 : MS) (H : Heap) (locs : List Loc) (ls : Array Slot), j91_27 x28 S29 = some So → Rp G S29 H → va_S (gA G) s.heap H locs → Ex S S29 → Ok S29 this 4 → lv_has ls 6 [(0, .ref this), (1, .int a1), (3, .int x16), (4, .int x18), (5, .int x21)] → W p l e (rX4_readSum fr lo) s m args below meth c H locs 0 0 (MQ below (Qn G S none So) args s 0 0 (gA G)) (F0 m 91 ls [.int x28]) := by
                  intro x28 S29 H locs ls hf hR hS hE ok_this hl
                  rw [ej91_27] at hf
                  refine lv_istore_n (lv' := [(2, .int x28), (0, .ref this), (1, .int a1), (3, .int x16), (4, .int x18), (5, .int x21)]) hx hb dX4_readSum_91 rfl hl (by decide) rfl (fun ls hl => ?_)
                  refine lv_aload_n hx hb dX4_readSum_92 rfl (lv_at hl 1 rfl) ?_
                  obtain ⟨S30, hc31, hf⟩ := cv_of hf
                  refine cl_RX4_51 (As := []) (rest := []) hC hR hS (c_X4_advance l G n this S29 S30 hc31 ok_this) ok_this rfl ⟨Nat.le_trans (show rX4_advance.frames + 1 ≤ 1 by decide) (Nat.le_add_left _ _), Nat.le_trans (show 8 + (1 + 11) + rX4_advance.locals ≤ 24 by decide) (Nat.le_add_left _ _)⟩ hl.1 rfl (Nat.le_of_ble_eq_true rfl) dX4_readSum_93 (Nat.zero_le _) (Nat.zero_le _) (fun H locs hR hS hE32 => ?_)
                  have ok_this := hE32 _ _ ok_this
                  have hE := hE.tr hE32
                  refine lv_aload_n hx hb dX4_readSum_96 rfl (lv_at hl 1 rfl) ?_
                  refine lv_iload_n hx hb dX4_readSum_97 rfl (lv_at hl 2 rfl) ?_
                  obtain ⟨S33, hc34, hf⟩ := cv_of hf
                  refine cl_RX4_113 (As := [.int a1]) (rest := []) hC hR hS (hrec this a1 S30 S33 hc34 ok_this) ok_this rfl ⟨Nat.add_le_add_left (Nat.le_of_ble_eq_true rfl) _, (by show 8 + (5 + 11) + lo ≤ lo + 24; omega)⟩ hl.1 rfl (Nat.le_of_ble_eq_true rfl) dX4_readSum_98 (Nat.zero_le _) (Nat.zero_le _) (fun H locs hR hS hE35 => ?_)
                  have ok_this := hE35 _ _ ok_this
                  have hE := hE.tr hE35
                  refine lv_iload hx hb dX4_readSum_101 (lv_at hl 5 rfl) ?_
                  obtain ⟨j116_37, ej116_37, hf⟩ := jn_of1 hf
                  have hj116_36 : ∀ (S38 : MS) (H : Heap) (locs : List Loc) (ls : Array Slot), j116_37 S38 = some So → Rp G S38 H → va_S (gA G) s.heap H locs → Ex S S38 → Ok S38 this 4 → lv_has ls 6 [(0, .ref this), (1, .int a1), (2, .int x28), (3, .int x16)] → W p l e (rX4_readSum fr lo) s m args below meth c H locs 0 0 (MQ below (Qn G S none So) args s 0 0 (gA G)) (F0 m 116 ls []) := by
                    intro S38 H locs ls hf hR hS hE ok_this hl
                    rw [ej116_37] at hf
                    refine r_iinc (n := 1) (z := 1) (lv' := fun x39 => [(3, .int x39), (0, .ref this), (1, .int a1), (2, .int x28)]) hx hb dX4_readSum_116 hl (k := 3) rfl (by decide) (by decide) (fun _ => rfl) hf (fun x39 ls hf hl => ?_)
                    refine lv_goto (tgt := 9) hx hb dX4_readSum_119 (by decide) ?_
                    exact hL9_13 x28 x39 S38 _ _ _ hf hR hS hE ok_this (lv_sub hl [1, 2, 3, 0] rfl)
                  refine lv_if_eq (tgt := 116) hx hb dX4_readSum_103 (by decide) (fun hc => ?_) (fun hc => ?_)
                  · replace hf := if_t hf hc
                    exact hj116_36 S33 _ _ _ hf hR hS hE ok_this (lv_sub hl [1, 2, 0, 3] rfl)
                  · replace hf := if_f hf hc
                    refine lv_aload_n hx hb dX4_readSum_106 rfl (lv_at hl 1 rfl) ?_
                    obtain ⟨q40, hq41, ok_q40, hf⟩ := gR_of hf
                    refine gf_RX4_25 hC hR ok_this hq41 dX4_readSum_107 ?_
                    refine lv_iload hx hb dX4_readSum_110 (lv_at hl 4 rfl) ?_
                    refine lv_iconst (v := 0) hx hb dX4_readSum_112 (by decide) ?_
                    obtain ⟨S42, hc43, hf⟩ := cv_of hf
                    refine cl_RX4_110 (As := [.int x18, .int (0 : Int32)]) (rest := []) hC hR hS (c_X7_put l G n q40 x18 (0 : Int32) S33 S42 hc43 ok_q40) ok_q40 rfl ⟨Nat.le_trans (show rX7_put.frames + 1 ≤ 1 by decide) (Nat.le_add_left _ _), Nat.le_trans (show 8 + (3 + 11) + rX7_put.locals ≤ 24 by decide) (Nat.le_add_left _ _)⟩ hl.1 rfl (Nat.le_of_ble_eq_true rfl) dX4_readSum_113 (Nat.zero_le _) (Nat.zero_le _) (fun H locs hR hS hE44 => ?_)
                    have ok_this := hE44 _ _ ok_this
                    have ok_q40 := hE44 _ _ ok_q40
                    have hE := hE.tr hE44
                    exact hj116_36 S42 _ _ _ hf hR hS hE ok_this (lv_sub hl [1, 2, 0, 3] rfl)
                refine lv_if_eq (tgt := 89) hx hb dX4_readSum_82 (by decide) (fun hc => ?_) (fun hc => ?_)
                · replace hf := if_t hf hc
                  refine lv_iload hx hb dX4_readSum_89 (lv_at hl 4 rfl) ?_
                  exact hj91_26 x18 S25 _ _ _ hf hR hS hE ok_this (lv_sub hl [0, 1, 3, 4, 5] rfl)
                · replace hf := if_f hf hc
                  refine lv_iload_n hx hb dX4_readSum_85 rfl (lv_at hl 2 rfl) ?_
                  refine lv_goto (tgt := 91) hx hb dX4_readSum_86 (by decide) ?_
                  exact hj91_26 x15 S25 _ _ _ hf hR hS hE ok_this (lv_sub hl [0, 1, 3, 4, 5] rfl)
              refine lv_if_ne (tgt := 80) hx hb dX4_readSum_63 (by decide) (fun hc => ?_) (fun hc => ?_)
              · replace hf := if_f hf hc
                exact hj80_23 S22 _ _ _ hf hR hS hE ok_this (lv_sub hl [1, 2, 3, 4, 5, 0] rfl)
              · replace hf := if_t hf hc
                refine lv_iload_n hx hb dX4_readSum_66 rfl (lv_at hl 3 rfl) ?_
                refine lv_iconst (v := -1) hx hb dX4_readSum_67 (by decide) ?_
                refine lv_icmp_eq (tgt := 80) hx hb dX4_readSum_68 (by decide) (fun hc => ?_) (fun hc => ?_)
                · replace hf := if_t hf hc
                  exact hj80_23 S22 _ _ _ hf hR hS hE ok_this (lv_sub hl [1, 2, 3, 4, 5, 0] rfl)
                · replace hf := if_f hf hc
                  refine lv_aload_n hx hb dX4_readSum_71 rfl (lv_at hl 1 rfl) ?_
                  obtain ⟨q48, hq49, ok_q48, hf⟩ := gR_of hf
                  refine gf_RX4_25 hC hR ok_this hq49 dX4_readSum_72 ?_
                  refine lv_iload_n hx hb dX4_readSum_75 rfl (lv_at hl 3 rfl) ?_
                  refine lv_iconst (v := 0) hx hb dX4_readSum_76 (by decide) ?_
                  obtain ⟨S50, hc51, hf⟩ := cv_of hf
                  refine cl_RX4_110 (As := [.int x15, .int (0 : Int32)]) (rest := []) hC hR hS (c_X7_put l G n q48 x15 (0 : Int32) S22 S50 hc51 ok_q48) ok_q48 rfl ⟨Nat.le_trans (show rX7_put.frames + 1 ≤ 1 by decide) (Nat.le_add_left _ _), Nat.le_trans (show 8 + (3 + 11) + rX7_put.locals ≤ 24 by decide) (Nat.le_add_left _ _)⟩ hl.1 rfl (Nat.le_of_ble_eq_true rfl) dX4_readSum_77 (Nat.zero_le _) (Nat.zero_le _) (fun H locs hR hS hE52 => ?_)
                  have ok_this := hE52 _ _ ok_this
                  have ok_q48 := hE52 _ _ ok_q48
                  have hE := hE.tr hE52
                  exact hj80_23 S50 _ _ _ hf hR hS hE ok_this (lv_sub hl [1, 2, 3, 4, 5, 0] rfl)
            obtain ⟨j54_55, ej54_55, hf⟩ := jn_of1 hf
            have hj54_54 : ∀ (S56 : MS) (H : Heap) (locs : List Loc) (ls : Array Slot), j54_55 S56 = some So → Rp G S56 H → va_S (gA G) s.heap H locs → Ex S S56 → Ok S56 this 4 → lv_has ls 6 [(0, .ref this), (1, .int a1), (2, .int x15), (3, .int x16), (4, .int x18)] → W p l e (rX4_readSum fr lo) s m args below meth c H locs 0 0 (MQ below (Qn G S none So) args s 0 0 (gA G)) (F0 m 54 ls []) := by
              intro S56 H locs ls hf hR hS hE ok_this hl
              rw [ej54_55] at hf
              refine lv_iconst (v := 1) hx hb dX4_readSum_54 (by decide) ?_
              refine lv_goto (tgt := 59) hx hb dX4_readSum_55 (by decide) ?_
              exact hj59_19 (1 : Int32) S56 _ _ _ hf hR hS hE ok_this (lv_sub hl [0, 1, 2, 3, 4] rfl)
            refine lv_icmp_eq (tgt := 54) hx hb dX4_readSum_44 (by decide) (fun hc => ?_) (fun hc => ?_)
            · replace hf := if_t hf hc
              exact hj54_54 S17 _ _ _ hf hR hS hE ok_this (lv_sub hl [1, 2, 3, 4, 0] rfl)
            · replace hf := if_f hf hc
              refine lv_iload hx hb dX4_readSum_47 (lv_at hl 0 rfl) ?_
              refine lv_bipush (v := 31) hx hb dX4_readSum_49 (by decide) ?_
              refine lv_icmp_ne (tgt := 58) hx hb dX4_readSum_51 (by decide) (fun hc => ?_) (fun hc => ?_)
              · replace hf := if_f hf hc
                refine lv_iconst (v := 0) hx hb dX4_readSum_58 (by decide) ?_
                exact hj59_19 (0 : Int32) S17 _ _ _ hf hR hS hE ok_this (lv_sub hl [1, 2, 3, 4, 0] rfl)
              · replace hf := if_t hf hc
                exact hj54_54 S17 _ _ _ hf hR hS hE ok_this (lv_sub hl [1, 2, 3, 4, 0] rfl)
  exact hh60 n (-1 : Int32) (0 : Int32) S1 _ _ _ hf hR hS hE ok_this (lv_sub hl [2, 3, 1, 0] rfl)
def g_X4_readSum (n : Nat) : Nat → Nat → Int32 → MS → Option (MS)
  | 0, _, _, _ => none
  | d + 1, this, a1, S => B_X4_readSum n (B_X4_readOne n (g_X4_readSum n d)) this a1 S
def f_X4_readSum (n : Nat) (this : Nat) (a1 : Int32) (S : MS) : Option (MS) := g_X4_readSum n 12 this a1 S
theorem g_X4_readSum_c (l : Launch) (G : Gx) (n : Nat) : ∀ (d : Nat) (this : Nat) (a1 : Int32) (S : MS) (So : MS), g_X4_readSum n d this a1 S = some So → Ok S this 4 → Cn G l yX4_readSum cX4_readSum 6 none { frames := 3 * d, cells := 0, slots := 0, locals := 68 * d } [.ref this, .int a1] S none So := by
  intro d
  induction d with
  | zero => intro this a1 S So hf; exact absurd hf (by rw [g_X4_readSum]; exact fun h => by cases h)
  | succ d ih =>
    intro this a1 S So hf ok
    rw [g_X4_readSum] at hf
    exact o_X4_readSum l G n (3 * d + 2) (68 * d + 44) _ (fun this b1 S So h o => o_X4_readOne l G n _ _ _ (fun this b1 S So h o => ih this b1 S So h o) this b1 S So h o) this a1 S So hf ok
abbrev rX4_readSum12 : Room := { frames := 36, cells := 0, slots := 0, locals := 816 }
theorem c_X4_readSum (l : Launch) (G : Gx) (n : Nat) (this : Nat) (a1 : Int32) (S : MS) (So : MS) (hf : f_X4_readSum n this a1 S = some So) (ok_this : Ok S this 4) : Cn G l yX4_readSum cX4_readSum 6 none rX4_readSum12 [.ref this, .int a1] S none So := g_X4_readSum_c l G n 12 this a1 S So hf ok_this
