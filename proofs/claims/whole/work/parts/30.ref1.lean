abbrev rX11_copy : Room := { frames := 0, cells := 0, slots := 0, locals := 0 }
def f_X11_copy_L2 (n : Nat) (this : Nat) (a1 : Int32) (a2 : Int32) : Nat → Int32 → MS → Option (MS)
  | 0, _, _ => none
  | k + 1, x3, S4 => jn (f_X11_copy_L2 n this a1 a2 k) fun rec2_2 => (if (340 : Int32) ≤ x3 then some S4 else gR S4 (mR S4 this 0) 12 fun q5 => gR S4 (mR S4 this 0) 12 fun q7 => ck (inb (((340 : Int32) * a1) + x3) (mN S4 q7)) (ck (inb (((340 : Int32) * a2) + x3) (mN S4 q5)) (bd (sI S4 q5 (((340 : Int32) * a2) + x3).toNatClampNeg (mI S4 q7 (((340 : Int32) * a1) + x3).toNatClampNeg)) fun S11 => bd (x3 + (1 : Int32)) fun x13 => rec2_2 x13 S11)))
def f_X11_copy (n : Nat) (this : Nat) (a1 : Int32) (a2 : Int32) (S : MS) : Option (MS) :=
  f_X11_copy_L2 n this a1 a2 n (0 : Int32) S
set_option maxRecDepth 100000 in
set_option maxHeartbeats 4000000 in
theorem c_X11_copy (l : Launch) (G : Gx) (n : Nat) (this : Nat) (a1 : Int32) (a2 : Int32) (S : MS) (So : MS) (hf : f_X11_copy n this a1 a2 S = some So) (ok_this : Ok S this 11) : Cn G l yX11_copy cX11_copy 4 none rX11_copy [.ref this, .int a1, .int a2] S none So := by
  refine Cn.of (by decide) (Nat.le_of_ble_eq_true rfl) ?_
  intro p e s m args below meth c hC hname hR ls hl
  have hC : Cx G RX11 cX11_copy 4 none p s m args meth c := hC
  have hl : lv_has ls 4 [(0, .ref this), (1, .int a1), (2, .int a2)] := hl
  have hx := hC.x
  have hb := hC.b
  have hS : va_S (gA G) s.heap s.heap [] := va_S.rf
  have hE : Ex S S := Ex.rf S
  unfold f_X11_copy at hf
  refine lv_iconst (v := 0) hx hb dX11_copy_0 (by decide) ?_
  refine lv_istore_n (lv' := [(3, .int (0 : Int32)), (0, .ref this), (1, .int a1), (2, .int a2)]) hx hb dX11_copy_1 rfl hl (by decide) rfl (fun ls hl => ?_)
  have hh14 : ∀ k : Nat, ∀ (x3 : Int32) (S4 : MS) (H : Heap) (locs : List Loc) (ls : Array Slot), f_X11_copy_L2 n this a1 a2 k x3 S4 = some So → Rp G S4 H → va_S (gA G) s.heap H locs → Ex S S4 → Ok S4 this 11 → lv_has ls 4 [(0, .ref this), (1, .int a1), (2, .int a2), (3, .int x3)] → W p l e rX11_copy s m args below meth c H locs 0 0 (MQ below (Qn G S none So) args s 0 0 (gA G)) (F0 m 2 ls []) := by
    intro k
    induction k with
    | zero =>
      intro x3 S4 H locs ls hf hR hS hE ok_this hl
      exact absurd hf (by rw [f_X11_copy_L2]; exact fun h => by cases h)
    | succ k ih =>
      intro x3 S4 H locs ls hf hR hS hE ok_this hl
      rw [f_X11_copy_L2] at hf
      obtain ⟨rec2_2, erec2_2, hf⟩ := jn_of2 hf
      have hL2_1 : ∀ (x3 : Int32) (S4 : MS) (H : Heap) (locs : List Loc) (ls : Array Slot), rec2_2 x3 S4 = some So → Rp G S4 H → va_S (gA G) s.heap H locs → Ex S S4 → Ok S4 this 11 → lv_has ls 4 [(0, .ref this), (1, .int a1), (2, .int a2), (3, .int x3)] → W p l e rX11_copy s m args below meth c H locs 0 0 (MQ below (Qn G S none So) args s 0 0 (gA G)) (F0 m 2 ls []) := by
        intro x3 S4 H locs ls hf hR hS hE ok_this hl
        rw [erec2_2] at hf
        exact ih x3 S4 _ _ _ hf hR hS hE ok_this hl
      refine lv_iload_n hx hb dX11_copy_2 rfl (lv_at hl 3 rfl) ?_
      refine lv_sipush (v := 340) hx hb dX11_copy_3 (by decide) ?_
      refine lv_icmp_ge (tgt := 39) hx hb dX11_copy_6 (by decide) (fun hc => ?_) (fun hc => ?_)
      · replace hf := if_t hf hc
        exact r_vret hC hR hS hE hf dX11_copy_39
      · replace hf := if_f hf hc
        refine lv_aload_n hx hb dX11_copy_9 rfl (lv_at hl 0 rfl) ?_
        obtain ⟨q5, hq6, ok_q5, hf⟩ := gR_of hf
        refine gf_RX11_7 hC hR ok_this hq6 dX11_copy_10 ?_
        refine lv_sipush (v := 340) hx hb dX11_copy_13 (by decide) ?_
        refine lv_iload_n hx hb dX11_copy_16 rfl (lv_at hl 2 rfl) ?_
        refine lv_imul hx hb dX11_copy_17 ?_
        refine lv_iload_n hx hb dX11_copy_18 rfl (lv_at hl 3 rfl) ?_
        refine lv_iadd hx hb dX11_copy_19 ?_
        refine lv_aload_n hx hb dX11_copy_20 rfl (lv_at hl 0 rfl) ?_
        obtain ⟨q7, hq8, ok_q7, hf⟩ := gR_of hf
        refine gf_RX11_7 hC hR ok_this hq8 dX11_copy_21 ?_
        refine lv_sipush (v := 340) hx hb dX11_copy_24 (by decide) ?_
        refine lv_iload_n hx hb dX11_copy_27 rfl (lv_at hl 1 rfl) ?_
        refine lv_imul hx hb dX11_copy_28 ?_
        refine lv_iload_n hx hb dX11_copy_29 rfl (lv_at hl 3 rfl) ?_
        refine lv_iadd hx hb dX11_copy_30 ?_
        obtain ⟨hi9, hf⟩ := ck_of hf
        refine r_iald hC hR ok_q7 hi9 dX11_copy_31 ?_
        obtain ⟨hi10, hf⟩ := ck_of hf
        refine rB_iast hC hR hS ok_q5 hi10 dX11_copy_32 hf (fun S11 H locs hf hR hS hE12 => ?_)
        have ok_this := hE12 _ _ ok_this
        have ok_q5 := hE12 _ _ ok_q5
        have ok_q7 := hE12 _ _ ok_q7
        have hE := hE.tr hE12
        refine r_iinc (n := 1) (z := 1) (lv' := fun x13 => [(3, .int x13), (0, .ref this), (1, .int a1), (2, .int a2)]) hx hb dX11_copy_33 hl (k := 3) rfl (by decide) (by decide) (fun _ => rfl) hf (fun x13 ls hf hl => ?_)
        refine lv_goto (tgt := 2) hx hb dX11_copy_36 (by decide) ?_
        exact hL2_1 x13 S11 _ _ _ hf hR hS hE ok_this (lv_sub hl [1, 2, 3, 0] rfl)
  exact hh14 n (0 : Int32) S _ _ _ hf hR hS hE ok_this (lv_sub hl [1, 2, 3, 0] rfl)
abbrev rX11_isIn : Room := { frames := 0, cells := 0, slots := 0, locals := 0 }
def f_X11_isIn (_n : Nat) (a1 : Int32) (a2 : Int32) (a3 : Int32) (S : MS) : Option (Int32 × MS) :=
  (if a1 < a2 then zb (0 : Int32) (some ((0 : Int32), S)) else (if a3 < a1 then zb (0 : Int32) (some ((0 : Int32), S)) else zb (1 : Int32) (some ((1 : Int32), S))))
set_option maxRecDepth 100000 in
set_option maxHeartbeats 4000000 in
theorem c_X11_isIn (l : Launch) (G : Gx) (n : Nat) (a1 : Int32) (a2 : Int32) (a3 : Int32) (S : MS) (ro : Int32) (So : MS) (hf : f_X11_isIn n a1 a2 a3 S = some (ro, So)) : Cn G l yX11_isIn cX11_isIn 3 (some .boolean) rX11_isIn [.int a1, .int a2, .int a3] S (some (.int ro)) So := by
  refine Cn.of (by decide) (Nat.le_of_ble_eq_true rfl) ?_
  intro p e s m args below meth c hC hname hR ls hl
  have hC : Cx G RX11 cX11_isIn 3 (some .boolean) p s m args meth c := hC
  have hl : lv_has ls 3 [(0, .int a1), (1, .int a2), (2, .int a3)] := hl
  have hx := hC.x
  have hb := hC.b
  have hS : va_S (gA G) s.heap s.heap [] := va_S.rf
  have hE : Ex S S := Ex.rf S
  unfold f_X11_isIn at hf
  refine lv_iload_n hx hb dX11_isIn_0 rfl (lv_at hl 0 rfl) ?_
  refine lv_iload_n hx hb dX11_isIn_1 rfl (lv_at hl 1 rfl) ?_
  refine lv_icmp_lt (tgt := 14) hx hb dX11_isIn_2 (by decide) (fun hc => ?_) (fun hc => ?_)
  · replace hf := if_t hf hc
    refine lv_iconst (v := 0) hx hb dX11_isIn_14 (by decide) ?_
    exact r_zret hC hR hS hE hf dX11_isIn_15
  · replace hf := if_f hf hc
    refine lv_iload_n hx hb dX11_isIn_5 rfl (lv_at hl 0 rfl) ?_
    refine lv_iload_n hx hb dX11_isIn_6 rfl (lv_at hl 2 rfl) ?_
    refine lv_icmp_gt (tgt := 14) hx hb dX11_isIn_7 (by decide) (fun hc => ?_) (fun hc => ?_)
    · replace hf := if_t hf hc
      refine lv_iconst (v := 0) hx hb dX11_isIn_14 (by decide) ?_
      exact r_zret hC hR hS hE hf dX11_isIn_15
    · replace hf := if_f hf hc
      refine lv_iconst (v := 1) hx hb dX11_isIn_10 (by decide) ?_
      refine lv_goto (tgt := 15) hx hb dX11_isIn_11 (by decide) ?_
      exact r_zret hC hR hS hE hf dX11_isIn_15
abbrev rX11_held : Room := { frames := 0, cells := 0, slots := 0, locals := 0 }
def f_X11_held (_n : Nat) (a1 : Int64) (a2 : Int32) (a3 : Int32) (S : MS) : Option (Int32 × MS) :=
  (if 0 ≤ (lg_cmp a1 (a2.toInt64)) then (if (lg_cmp a1 (a3.toInt64)) ≤ 0 then some ((a1.toInt32), S) else some (a3, S)) else some (a2, S))
set_option maxRecDepth 100000 in
set_option maxHeartbeats 4000000 in
theorem c_X11_held (l : Launch) (G : Gx) (n : Nat) (a1 : Int64) (a2 : Int32) (a3 : Int32) (S : MS) (ro : Int32) (So : MS) (hf : f_X11_held n a1 a2 a3 S = some (ro, So)) : Cn G l yX11_held cX11_held 4 (some .int) rX11_held [.long a1, .int a2, .int a3] S (some (.int ro)) So := by
  refine Cn.of (by decide) (Nat.le_of_ble_eq_true rfl) ?_
  intro p e s m args below meth c hC hname hR ls hl
  have hC : Cx G RX11 cX11_held 4 (some .int) p s m args meth c := hC
  have hl : lv_has ls 4 [(0, .long a1), (2, .int a2), (3, .int a3)] := hl
  have hx := hC.x
  have hb := hC.b
  have hS : va_S (gA G) s.heap s.heap [] := va_S.rf
  have hE : Ex S S := Ex.rf S
  unfold f_X11_held at hf
  refine lv_lload_n hx hb dX11_held_0 rfl (lv_at hl 0 rfl) ?_
  refine lv_iload_n hx hb dX11_held_1 rfl (lv_at hl 1 rfl) ?_
  refine lv_i2l (v := (a2.toInt64)) hx hb dX11_held_2 rfl ?_
  refine W.lcmp hx hb dX11_held_3 ?_
  refine lv_if_ge (tgt := 11) hx hb dX11_held_4 (by decide) (fun hc => ?_) (fun hc => ?_)
  · replace hf := if_t hf hc
    refine lv_lload_n hx hb dX11_held_11 rfl (lv_at hl 0 rfl) ?_
    refine lv_iload_n hx hb dX11_held_12 rfl (lv_at hl 2 rfl) ?_
    refine lv_i2l (v := (a3.toInt64)) hx hb dX11_held_13 rfl ?_
    refine W.lcmp hx hb dX11_held_14 ?_
    refine lv_if_le (tgt := 22) hx hb dX11_held_15 (by decide) (fun hc => ?_) (fun hc => ?_)
    · replace hf := if_t hf hc
      refine lv_lload_n hx hb dX11_held_22 rfl (lv_at hl 0 rfl) ?_
      refine lv_l2i (v := (a1.toInt32)) hx hb dX11_held_23 rfl ?_
      exact r_iret hC hR hS hE hf dX11_held_24
    · replace hf := if_f hf hc
      refine lv_iload_n hx hb dX11_held_18 rfl (lv_at hl 2 rfl) ?_
      refine lv_goto (tgt := 24) hx hb dX11_held_19 (by decide) ?_
      exact r_iret hC hR hS hE hf dX11_held_24
  · replace hf := if_f hf hc
    refine lv_iload_n hx hb dX11_held_7 rfl (lv_at hl 1 rfl) ?_
    refine lv_goto (tgt := 24) hx hb dX11_held_8 (by decide) ?_
    exact r_iret hC hR hS hE hf dX11_held_24
abbrev rX11_isCell : Room := { frames := 1, cells := 0, slots := 0, locals := 22 }
def f_X11_isCell (n : Nat) (this : Nat) (a1 : Int32) (S : MS) : Option (Int32 × MS) :=
  cl (f_X11_isIn n a1 (0 : Int32) ((mI S this 3) - (1 : Int32)) S) fun x4 S1 => zb x4 (some (x4, S1))
set_option maxRecDepth 100000 in
set_option maxHeartbeats 4000000 in
theorem c_X11_isCell (l : Launch) (G : Gx) (n : Nat) (this : Nat) (a1 : Int32) (S : MS) (ro : Int32) (So : MS) (hf : f_X11_isCell n this a1 S = some (ro, So)) (ok_this : Ok S this 11) : Cn G l yX11_isCell cX11_isCell 2 (some .boolean) rX11_isCell [.ref this, .int a1] S (some (.int ro)) So := by
  refine Cn.of (by decide) (Nat.le_of_ble_eq_true rfl) ?_
  intro p e s m args below meth c hC hname hR ls hl
  have hC : Cx G RX11 cX11_isCell 2 (some .boolean) p s m args meth c := hC
  have hl : lv_has ls 2 [(0, .ref this), (1, .int a1)] := hl
  have hx := hC.x
  have hb := hC.b
  have hS : va_S (gA G) s.heap s.heap [] := va_S.rf
  have hE : Ex S S := Ex.rf S
  unfold f_X11_isCell at hf
  refine lv_iload_n hx hb dX11_isCell_0 rfl (lv_at hl 1 rfl) ?_
  refine lv_iconst (v := 0) hx hb dX11_isCell_1 (by decide) ?_
  refine lv_aload_n hx hb dX11_isCell_2 rfl (lv_at hl 0 rfl) ?_
  refine gf_RX11_64 hC hR ok_this dX11_isCell_3 ?_
  refine lv_iconst (v := 1) hx hb dX11_isCell_6 (by decide) ?_
  refine lv_isub hx hb dX11_isCell_7 ?_
  obtain ⟨x4, S1, hc2, hf⟩ := cl_of hf
  refine cl_RX11_71 (As := [.int a1, .int (0 : Int32), .int ((mI S this 3) - (1 : Int32))]) (rest := []) hC hR hS (c_X11_isIn l G n a1 (0 : Int32) ((mI S this 3) - (1 : Int32)) S x4 S1 hc2 ) rfl ⟨Nat.le_of_ble_eq_true rfl, Nat.le_of_ble_eq_true rfl⟩ hl.1 rfl (Nat.le_of_ble_eq_true rfl) dX11_isCell_8 (Nat.zero_le _) (Nat.zero_le _) (fun H locs hR hS hE3 => ?_)
  have ok_this := hE3 _ _ ok_this
  have hE := hE.tr hE3
  exact r_zret hC hR hS hE hf dX11_isCell_11
abbrev rX11_isFarmer : Room := { frames := 1, cells := 0, slots := 0, locals := 22 }
def f_X11_isFarmer (n : Nat) (a1 : Int32) (S : MS) : Option (Int32 × MS) :=
  cl (f_X11_isIn n a1 (0 : Int32) (5 : Int32) S) fun x4 S1 => zb x4 (some (x4, S1))
set_option maxRecDepth 100000 in
set_option maxHeartbeats 4000000 in
theorem c_X11_isFarmer (l : Launch) (G : Gx) (n : Nat) (a1 : Int32) (S : MS) (ro : Int32) (So : MS) (hf : f_X11_isFarmer n a1 S = some (ro, So)) : Cn G l yX11_isFarmer cX11_isFarmer 1 (some .boolean) rX11_isFarmer [.int a1] S (some (.int ro)) So := by
  refine Cn.of (by decide) (Nat.le_of_ble_eq_true rfl) ?_
  intro p e s m args below meth c hC hname hR ls hl
  have hC : Cx G RX11 cX11_isFarmer 1 (some .boolean) p s m args meth c := hC
  have hl : lv_has ls 1 [(0, .int a1)] := hl
  have hx := hC.x
  have hb := hC.b
  have hS : va_S (gA G) s.heap s.heap [] := va_S.rf
  have hE : Ex S S := Ex.rf S
  unfold f_X11_isFarmer at hf
  refine lv_iload_n hx hb dX11_isFarmer_0 rfl (lv_at hl 0 rfl) ?_
  refine lv_iconst (v := 0) hx hb dX11_isFarmer_1 (by decide) ?_
  refine lv_iconst (v := 5) hx hb dX11_isFarmer_2 (by decide) ?_
  obtain ⟨x4, S1, hc2, hf⟩ := cl_of hf
  refine cl_RX11_71 (As := [.int a1, .int (0 : Int32), .int (5 : Int32)]) (rest := []) hC hR hS (c_X11_isIn l G n a1 (0 : Int32) (5 : Int32) S x4 S1 hc2 ) rfl ⟨Nat.le_of_ble_eq_true rfl, Nat.le_of_ble_eq_true rfl⟩ hl.1 rfl (Nat.le_of_ble_eq_true rfl) dX11_isFarmer_3 (Nat.zero_le _) (Nat.zero_le _) (fun H locs hR hS hE3 => ?_)
  have hE := hE.tr hE3
  exact r_zret hC hR hS hE hf dX11_isFarmer_6
abbrev rX11_isBone : Room := { frames := 1, cells := 0, slots := 0, locals := 22 }
def f_X11_isBone (n : Nat) (this : Nat) (a1 : Int32) (S : MS) : Option (Int32 × MS) :=
  gR S (mR S this 0) 12 fun q1 => ck (inb (1 : Int32) (mN S q1)) (cl (f_X11_isIn n a1 (0 : Int32) ((mI S q1 (1 : Int32).toNatClampNeg) - (1 : Int32)) S) fun x7 S4 => zb x7 (some (x7, S4)))
set_option maxRecDepth 100000 in
set_option maxHeartbeats 4000000 in
theorem c_X11_isBone (l : Launch) (G : Gx) (n : Nat) (this : Nat) (a1 : Int32) (S : MS) (ro : Int32) (So : MS) (hf : f_X11_isBone n this a1 S = some (ro, So)) (ok_this : Ok S this 11) : Cn G l yX11_isBone cX11_isBone 2 (some .boolean) rX11_isBone [.ref this, .int a1] S (some (.int ro)) So := by
  refine Cn.of (by decide) (Nat.le_of_ble_eq_true rfl) ?_
  intro p e s m args below meth c hC hname hR ls hl
  have hC : Cx G RX11 cX11_isBone 2 (some .boolean) p s m args meth c := hC
  have hl : lv_has ls 2 [(0, .ref this), (1, .int a1)] := hl
  have hx := hC.x
  have hb := hC.b
  have hS : va_S (gA G) s.heap s.heap [] := va_S.rf
  have hE : Ex S S := Ex.rf S
  unfold f_X11_isBone at hf
  refine lv_iload_n hx hb dX11_isBone_0 rfl (lv_at hl 1 rfl) ?_
  refine lv_iconst (v := 0) hx hb dX11_isBone_1 (by decide) ?_
  refine lv_aload_n hx hb dX11_isBone_2 rfl (lv_at hl 0 rfl) ?_
  obtain ⟨q1, hq2, ok_q1, hf⟩ := gR_of hf
  refine gf_RX11_7 hC hR ok_this hq2 dX11_isBone_3 ?_
  refine lv_iconst (v := 1) hx hb dX11_isBone_6 (by decide) ?_
  obtain ⟨hi3, hf⟩ := ck_of hf
  refine r_iald hC hR ok_q1 hi3 dX11_isBone_7 ?_
  refine lv_iconst (v := 1) hx hb dX11_isBone_8 (by decide) ?_
  refine lv_isub hx hb dX11_isBone_9 ?_
  obtain ⟨x7, S4, hc5, hf⟩ := cl_of hf
  refine cl_RX11_71 (As := [.int a1, .int (0 : Int32), .int ((mI S q1 (1 : Int32).toNatClampNeg) - (1 : Int32))]) (rest := []) hC hR hS (c_X11_isIn l G n a1 (0 : Int32) ((mI S q1 (1 : Int32).toNatClampNeg) - (1 : Int32)) S x7 S4 hc5 ) rfl ⟨Nat.le_of_ble_eq_true rfl, Nat.le_of_ble_eq_true rfl⟩ hl.1 rfl (Nat.le_of_ble_eq_true rfl) dX11_isBone_10 (Nat.zero_le _) (Nat.zero_le _) (fun H locs hR hS hE6 => ?_)
  have ok_this := hE6 _ _ ok_this
  have ok_q1 := hE6 _ _ ok_q1
  have hE := hE.tr hE6
  exact r_zret hC hR hS hE hf dX11_isBone_13
abbrev rX11_isWind : Room := { frames := 1, cells := 0, slots := 0, locals := 22 }
def f_X11_isWind (n : Nat) (this : Nat) (a1 : Int32) (S : MS) : Option (Int32 × MS) :=
  gR S (mR S this 0) 12 fun q1 => ck (inb (2 : Int32) (mN S q1)) (cl (f_X11_isIn n a1 (0 : Int32) ((mI S q1 (2 : Int32).toNatClampNeg) - (1 : Int32)) S) fun x7 S4 => zb x7 (some (x7, S4)))
set_option maxRecDepth 100000 in
set_option maxHeartbeats 4000000 in
theorem c_X11_isWind (l : Launch) (G : Gx) (n : Nat) (this : Nat) (a1 : Int32) (S : MS) (ro : Int32) (So : MS) (hf : f_X11_isWind n this a1 S = some (ro, So)) (ok_this : Ok S this 11) : Cn G l yX11_isWind cX11_isWind 2 (some .boolean) rX11_isWind [.ref this, .int a1] S (some (.int ro)) So := by
  refine Cn.of (by decide) (Nat.le_of_ble_eq_true rfl) ?_
  intro p e s m args below meth c hC hname hR ls hl
  have hC : Cx G RX11 cX11_isWind 2 (some .boolean) p s m args meth c := hC
  have hl : lv_has ls 2 [(0, .ref this), (1, .int a1)] := hl
  have hx := hC.x
  have hb := hC.b
  have hS : va_S (gA G) s.heap s.heap [] := va_S.rf
  have hE : Ex S S := Ex.rf S
  unfold f_X11_isWind at hf
  refine lv_iload_n hx hb dX11_isWind_0 rfl (lv_at hl 1 rfl) ?_
  refine lv_iconst (v := 0) hx hb dX11_isWind_1 (by decide) ?_
  refine lv_aload_n hx hb dX11_isWind_2 rfl (lv_at hl 0 rfl) ?_
  obtain ⟨q1, hq2, ok_q1, hf⟩ := gR_of hf
  refine gf_RX11_7 hC hR ok_this hq2 dX11_isWind_3 ?_
  refine lv_iconst (v := 2) hx hb dX11_isWind_6 (by decide) ?_
  obtain ⟨hi3, hf⟩ := ck_of hf
  refine r_iald hC hR ok_q1 hi3 dX11_isWind_7 ?_
  refine lv_iconst (v := 1) hx hb dX11_isWind_8 (by decide) ?_
  refine lv_isub hx hb dX11_isWind_9 ?_
  obtain ⟨x7, S4, hc5, hf⟩ := cl_of hf
  refine cl_RX11_71 (As := [.int a1, .int (0 : Int32), .int ((mI S q1 (2 : Int32).toNatClampNeg) - (1 : Int32))]) (rest := []) hC hR hS (c_X11_isIn l G n a1 (0 : Int32) ((mI S q1 (2 : Int32).toNatClampNeg) - (1 : Int32)) S x7 S4 hc5 ) rfl ⟨Nat.le_of_ble_eq_true rfl, Nat.le_of_ble_eq_true rfl⟩ hl.1 rfl (Nat.le_of_ble_eq_true rfl) dX11_isWind_10 (Nat.zero_le _) (Nat.zero_le _) (fun H locs hR hS hE6 => ?_)
  have ok_this := hE6 _ _ ok_this
  have ok_q1 := hE6 _ _ ok_q1
  have hE := hE.tr hE6
  exact r_zret hC hR hS hE hf dX11_isWind_13
abbrev rX11_bones : Room := { frames := 0, cells := 0, slots := 0, locals := 0 }
def f_X11_bones (_n : Nat) (this : Nat) (S : MS) : Option (Int32 × MS) :=
  gR S (mR S this 0) 12 fun q1 => ck (inb ((mI S this 4) + (1 : Int32)) (mN S q1)) (some ((mI S q1 ((mI S this 4) + (1 : Int32)).toNatClampNeg), S))
set_option maxRecDepth 100000 in
set_option maxHeartbeats 4000000 in
theorem c_X11_bones (l : Launch) (G : Gx) (n : Nat) (this : Nat) (S : MS) (ro : Int32) (So : MS) (hf : f_X11_bones n this S = some (ro, So)) (ok_this : Ok S this 11) : Cn G l yX11_bones cX11_bones 1 (some .int) rX11_bones [.ref this] S (some (.int ro)) So := by
  refine Cn.of (by decide) (Nat.le_of_ble_eq_true rfl) ?_
  intro p e s m args below meth c hC hname hR ls hl
  have hC : Cx G RX11 cX11_bones 1 (some .int) p s m args meth c := hC
  have hl : lv_has ls 1 [(0, .ref this)] := hl
  have hx := hC.x
  have hb := hC.b
  have hS : va_S (gA G) s.heap s.heap [] := va_S.rf
  have hE : Ex S S := Ex.rf S
  unfold f_X11_bones at hf
  refine lv_aload_n hx hb dX11_bones_0 rfl (lv_at hl 0 rfl) ?_
  obtain ⟨q1, hq2, ok_q1, hf⟩ := gR_of hf
  refine gf_RX11_7 hC hR ok_this hq2 dX11_bones_1 ?_
  refine lv_aload_n hx hb dX11_bones_4 rfl (lv_at hl 0 rfl) ?_
  refine gf_RX11_75 hC hR ok_this dX11_bones_5 ?_
  refine lv_iconst (v := 1) hx hb dX11_bones_8 (by decide) ?_
  refine lv_iadd hx hb dX11_bones_9 ?_
  obtain ⟨hi3, hf⟩ := ck_of hf
  refine r_iald hC hR ok_q1 hi3 dX11_bones_10 ?_
  exact r_iret hC hR hS hE hf dX11_bones_11
abbrev rX11_cellOf : Room := { frames := 0, cells := 0, slots := 0, locals := 0 }
def f_X11_cellOf (_n : Nat) (this : Nat) (a1 : Int32) (S : MS) : Option (Int32 × MS) :=
  gR S (mR S this 0) 12 fun q1 => ck (inb (((mI S this 4) + (10 : Int32)) + ((3 : Int32) * a1)) (mN S q1)) (some ((mI S q1 (((mI S this 4) + (10 : Int32)) + ((3 : Int32) * a1)).toNatClampNeg), S))
set_option maxRecDepth 100000 in
set_option maxHeartbeats 4000000 in
theorem c_X11_cellOf (l : Launch) (G : Gx) (n : Nat) (this : Nat) (a1 : Int32) (S : MS) (ro : Int32) (So : MS) (hf : f_X11_cellOf n this a1 S = some (ro, So)) (ok_this : Ok S this 11) : Cn G l yX11_cellOf cX11_cellOf 2 (some .int) rX11_cellOf [.ref this, .int a1] S (some (.int ro)) So := by
  refine Cn.of (by decide) (Nat.le_of_ble_eq_true rfl) ?_
  intro p e s m args below meth c hC hname hR ls hl
  have hC : Cx G RX11 cX11_cellOf 2 (some .int) p s m args meth c := hC
  have hl : lv_has ls 2 [(0, .ref this), (1, .int a1)] := hl
  have hx := hC.x
  have hb := hC.b
  have hS : va_S (gA G) s.heap s.heap [] := va_S.rf
  have hE : Ex S S := Ex.rf S
  unfold f_X11_cellOf at hf
  refine lv_aload_n hx hb dX11_cellOf_0 rfl (lv_at hl 0 rfl) ?_
  obtain ⟨q1, hq2, ok_q1, hf⟩ := gR_of hf
  refine gf_RX11_7 hC hR ok_this hq2 dX11_cellOf_1 ?_
  refine lv_aload_n hx hb dX11_cellOf_4 rfl (lv_at hl 0 rfl) ?_
  refine gf_RX11_75 hC hR ok_this dX11_cellOf_5 ?_
  refine lv_bipush (v := 10) hx hb dX11_cellOf_8 (by decide) ?_
  refine lv_iadd hx hb dX11_cellOf_10 ?_
  refine lv_iconst (v := 3) hx hb dX11_cellOf_11 (by decide) ?_
  refine lv_iload_n hx hb dX11_cellOf_12 rfl (lv_at hl 1 rfl) ?_
  refine lv_imul hx hb dX11_cellOf_13 ?_
  refine lv_iadd hx hb dX11_cellOf_14 ?_
  obtain ⟨hi3, hf⟩ := ck_of hf
  refine r_iald hC hR ok_q1 hi3 dX11_cellOf_15 ?_
  exact r_iret hC hR hS hE hf dX11_cellOf_16
abbrev rX11_isStaked : Room := { frames := 0, cells := 0, slots := 0, locals := 0 }
def f_X11_isStaked_L2 (n : Nat) (this : Nat) (a1 : Int32) : Nat → Int32 → MS → Option (Int32 × MS)
  | 0, _, _ => none
  | k + 1, x3, S4 => jn (f_X11_isStaked_L2 n this a1 k) fun rec2_2 => (if (6 : Int32) ≤ x3 then zb (0 : Int32) (some ((0 : Int32), S4)) else gR S4 (mR S4 this 0) 12 fun q5 => ck (inb (((mI S4 this 4) + (85 : Int32)) + x3) (mN S4 q5)) ((if (mI S4 q5 (((mI S4 this 4) + (85 : Int32)) + x3).toNatClampNeg) = a1 then zb (1 : Int32) (some ((1 : Int32), S4)) else bd (x3 + (1 : Int32)) fun x8 => rec2_2 x8 S4)))
def f_X11_isStaked (n : Nat) (this : Nat) (a1 : Int32) (S : MS) : Option (Int32 × MS) :=
  f_X11_isStaked_L2 n this a1 n (0 : Int32) S
set_option maxRecDepth 100000 in
set_option maxHeartbeats 4000000 in
theorem c_X11_isStaked (l : Launch) (G : Gx) (n : Nat) (this : Nat) (a1 : Int32) (S : MS) (ro : Int32) (So : MS) (hf : f_X11_isStaked n this a1 S = some (ro, So)) (ok_this : Ok S this 11) : Cn G l yX11_isStaked cX11_isStaked 3 (some .boolean) rX11_isStaked [.ref this, .int a1] S (some (.int ro)) So := by
  refine Cn.of (by decide) (Nat.le_of_ble_eq_true rfl) ?_
  intro p e s m args below meth c hC hname hR ls hl
  have hC : Cx G RX11 cX11_isStaked 3 (some .boolean) p s m args meth c := hC
  have hl : lv_has ls 3 [(0, .ref this), (1, .int a1)] := hl
  have hx := hC.x
  have hb := hC.b
  have hS : va_S (gA G) s.heap s.heap [] := va_S.rf
  have hE : Ex S S := Ex.rf S
  unfold f_X11_isStaked at hf
  refine lv_iconst (v := 0) hx hb dX11_isStaked_0 (by decide) ?_
  refine lv_istore_n (lv' := [(2, .int (0 : Int32)), (0, .ref this), (1, .int a1)]) hx hb dX11_isStaked_1 rfl hl (by decide) rfl (fun ls hl => ?_)
  have hh9 : ∀ k : Nat, ∀ (x3 : Int32) (S4 : MS) (H : Heap) (locs : List Loc) (ls : Array Slot), f_X11_isStaked_L2 n this a1 k x3 S4 = some (ro, So) → Rp G S4 H → va_S (gA G) s.heap H locs → Ex S S4 → Ok S4 this 11 → lv_has ls 3 [(0, .ref this), (1, .int a1), (2, .int x3)] → W p l e rX11_isStaked s m args below meth c H locs 0 0 (MQ below (Qn G S (some (.int ro)) So) args s 0 0 (gA G)) (F0 m 2 ls []) := by
    intro k
    induction k with
    | zero =>
      intro x3 S4 H locs ls hf hR hS hE ok_this hl
      exact absurd hf (by rw [f_X11_isStaked_L2]; exact fun h => by cases h)
    | succ k ih =>
      intro x3 S4 H locs ls hf hR hS hE ok_this hl
      rw [f_X11_isStaked_L2] at hf
      obtain ⟨rec2_2, erec2_2, hf⟩ := jn_of2 hf
      have hL2_1 : ∀ (x3 : Int32) (S4 : MS) (H : Heap) (locs : List Loc) (ls : Array Slot), rec2_2 x3 S4 = some (ro, So) → Rp G S4 H → va_S (gA G) s.heap H locs → Ex S S4 → Ok S4 this 11 → lv_has ls 3 [(0, .ref this), (1, .int a1), (2, .int x3)] → W p l e rX11_isStaked s m args below meth c H locs 0 0 (MQ below (Qn G S (some (.int ro)) So) args s 0 0 (gA G)) (F0 m 2 ls []) := by
        intro x3 S4 H locs ls hf hR hS hE ok_this hl
        rw [erec2_2] at hf
        exact ih x3 S4 _ _ _ hf hR hS hE ok_this hl
      refine lv_iload_n hx hb dX11_isStaked_2 rfl (lv_at hl 2 rfl) ?_
      refine lv_bipush (v := 6) hx hb dX11_isStaked_3 (by decide) ?_
      refine lv_icmp_ge (tgt := 34) hx hb dX11_isStaked_5 (by decide) (fun hc => ?_) (fun hc => ?_)
      · replace hf := if_t hf hc
        refine lv_iconst (v := 0) hx hb dX11_isStaked_34 (by decide) ?_
        exact r_zret hC hR hS hE hf dX11_isStaked_35
      · replace hf := if_f hf hc
        refine lv_aload_n hx hb dX11_isStaked_8 rfl (lv_at hl 0 rfl) ?_
        obtain ⟨q5, hq6, ok_q5, hf⟩ := gR_of hf
        refine gf_RX11_7 hC hR ok_this hq6 dX11_isStaked_9 ?_
        refine lv_aload_n hx hb dX11_isStaked_12 rfl (lv_at hl 0 rfl) ?_
        refine gf_RX11_75 hC hR ok_this dX11_isStaked_13 ?_
        refine lv_bipush (v := 85) hx hb dX11_isStaked_16 (by decide) ?_
        refine lv_iadd hx hb dX11_isStaked_18 ?_
        refine lv_iload_n hx hb dX11_isStaked_19 rfl (lv_at hl 2 rfl) ?_
        refine lv_iadd hx hb dX11_isStaked_20 ?_
        obtain ⟨hi7, hf⟩ := ck_of hf
        refine r_iald hC hR ok_q5 hi7 dX11_isStaked_21 ?_
        refine lv_iload_n hx hb dX11_isStaked_22 rfl (lv_at hl 1 rfl) ?_
        refine lv_icmp_ne (tgt := 28) hx hb dX11_isStaked_23 (by decide) (fun hc => ?_) (fun hc => ?_)
        · replace hf := if_f hf hc
          refine r_iinc (n := 1) (z := 1) (lv' := fun x8 => [(2, .int x8), (0, .ref this), (1, .int a1)]) hx hb dX11_isStaked_28 hl (k := 2) rfl (by decide) (by decide) (fun _ => rfl) hf (fun x8 ls hf hl => ?_)
          refine lv_goto (tgt := 2) hx hb dX11_isStaked_31 (by decide) ?_
          exact hL2_1 x8 S4 _ _ _ hf hR hS hE ok_this (lv_sub hl [1, 2, 0] rfl)
        · replace hf := if_t hf hc
          refine lv_iconst (v := 1) hx hb dX11_isStaked_26 (by decide) ?_
          exact r_zret hC hR hS hE hf dX11_isStaked_27
  exact hh9 n (0 : Int32) S _ _ _ hf hR hS hE ok_this (lv_sub hl [1, 2, 0] rfl)
abbrev rX11_isFree : Room := { frames := 1, cells := 0, slots := 0, locals := 22 }
def f_X11_isFree (n : Nat) (this : Nat) (a1 : Int32) (S : MS) : Option (Int32 × MS) :=
  gR S (mR S this 0) 12 fun q1 => ck (inb (((mI S this 4) + (290 : Int32)) + a1) (mN S q1)) ((if (mI S q1 (((mI S this 4) + (290 : Int32)) + a1).toNatClampNeg) = 0 then cl (f_X11_isStaked n this a1 S) fun x7 S4 => (if x7 = 0 then zb (1 : Int32) (some ((1 : Int32), S4)) else zb (0 : Int32) (some ((0 : Int32), S4))) else zb (0 : Int32) (some ((0 : Int32), S))))
set_option maxRecDepth 100000 in
set_option maxHeartbeats 4000000 in
theorem c_X11_isFree (l : Launch) (G : Gx) (n : Nat) (this : Nat) (a1 : Int32) (S : MS) (ro : Int32) (So : MS) (hf : f_X11_isFree n this a1 S = some (ro, So)) (ok_this : Ok S this 11) : Cn G l yX11_isFree cX11_isFree 2 (some .boolean) rX11_isFree [.ref this, .int a1] S (some (.int ro)) So := by
  refine Cn.of (by decide) (Nat.le_of_ble_eq_true rfl) ?_
  intro p e s m args below meth c hC hname hR ls hl
  have hC : Cx G RX11 cX11_isFree 2 (some .boolean) p s m args meth c := hC
  have hl : lv_has ls 2 [(0, .ref this), (1, .int a1)] := hl
  have hx := hC.x
  have hb := hC.b
  have hS : va_S (gA G) s.heap s.heap [] := va_S.rf
  have hE : Ex S S := Ex.rf S
  unfold f_X11_isFree at hf
  refine lv_aload_n hx hb dX11_isFree_0 rfl (lv_at hl 0 rfl) ?_
  obtain ⟨q1, hq2, ok_q1, hf⟩ := gR_of hf
  refine gf_RX11_7 hC hR ok_this hq2 dX11_isFree_1 ?_
  refine lv_aload_n hx hb dX11_isFree_4 rfl (lv_at hl 0 rfl) ?_
  refine gf_RX11_75 hC hR ok_this dX11_isFree_5 ?_
  refine lv_sipush (v := 290) hx hb dX11_isFree_8 (by decide) ?_
  refine lv_iadd hx hb dX11_isFree_11 ?_
  refine lv_iload_n hx hb dX11_isFree_12 rfl (lv_at hl 1 rfl) ?_
  refine lv_iadd hx hb dX11_isFree_13 ?_
  obtain ⟨hi3, hf⟩ := ck_of hf
  refine r_iald hC hR ok_q1 hi3 dX11_isFree_14 ?_
  refine lv_if_ne (tgt := 30) hx hb dX11_isFree_15 (by decide) (fun hc => ?_) (fun hc => ?_)
  · replace hf := if_f hf hc
    refine lv_iconst (v := 0) hx hb dX11_isFree_30 (by decide) ?_
    exact r_zret hC hR hS hE hf dX11_isFree_31
  · replace hf := if_t hf hc
    refine lv_aload_n hx hb dX11_isFree_18 rfl (lv_at hl 0 rfl) ?_
    refine lv_iload_n hx hb dX11_isFree_19 rfl (lv_at hl 1 rfl) ?_
    obtain ⟨x7, S4, hc5, hf⟩ := cl_of hf
    refine cl_RX11_78 (As := [.int a1]) (rest := []) hC hR hS (c_X11_isStaked l G n this a1 S x7 S4 hc5 ok_this) ok_this rfl ⟨Nat.le_of_ble_eq_true rfl, Nat.le_of_ble_eq_true rfl⟩ hl.1 rfl (Nat.le_of_ble_eq_true rfl) dX11_isFree_20 (Nat.zero_le _) (Nat.zero_le _) (fun H locs hR hS hE6 => ?_)
    have ok_this := hE6 _ _ ok_this
    have ok_q1 := hE6 _ _ ok_q1
    have hE := hE.tr hE6
    refine lv_if_ne (tgt := 30) hx hb dX11_isFree_23 (by decide) (fun hc => ?_) (fun hc => ?_)
    · replace hf := if_f hf hc
      refine lv_iconst (v := 0) hx hb dX11_isFree_30 (by decide) ?_
      exact r_zret hC hR hS hE hf dX11_isFree_31
    · replace hf := if_t hf hc
      refine lv_iconst (v := 1) hx hb dX11_isFree_26 (by decide) ?_
      refine lv_goto (tgt := 31) hx hb dX11_isFree_27 (by decide) ?_
      exact r_zret hC hR hS hE hf dX11_isFree_31
abbrev rX11_bone : Room := { frames := 2, cells := 0, slots := 0, locals := 43 }
def f_X11_bone (n : Nat) (this : Nat) (a1 : Int32) (a2 : Int32) (S : MS) : Option (Int32 × MS) :=
  cl (f_X11_isCell n this a1 S) fun x4 S1 => (if x4 = 0 then some ((-1 : Int32), S1) else cl (f_X11_isIn n a2 (1 : Int32) (99 : Int32) S1) fun x8 S5 => (if x8 = 0 then some ((-1 : Int32), S5) else gR S5 (mR S5 this 0) 12 fun q9 => ck (inb (1 : Int32) (mN S5 q9)) ((if (mI S5 q9 (1 : Int32).toNatClampNeg) = (24 : Int32) then some ((-1 : Int32), S5) else cl (f_X11_isFree n this a1 S5) fun x15 S12 => (if x15 = 0 then some ((-1 : Int32), S12) else gR S12 (mR S12 this 0) 12 fun q16 => ck (inb (1 : Int32) (mN S12 q16)) (bd ((10 : Int32) + ((3 : Int32) * (mI S12 q16 (1 : Int32).toNatClampNeg))) fun x19 => gR S12 (mR S12 this 0) 12 fun q20 => ck (inb x19 (mN S12 q20)) (bd (sI S12 q20 x19.toNatClampNeg a1) fun S23 => gR S23 (mR S23 this 0) 12 fun q25 => ck (inb (x19 + (1 : Int32)) (mN S23 q25)) (bd (sI S23 q25 (x19 + (1 : Int32)).toNatClampNeg a2) fun S28 => gR S28 (mR S28 this 0) 12 fun q30 => ck (inb (x19 + (2 : Int32)) (mN S28 q30)) (bd (sI S28 q30 (x19 + (2 : Int32)).toNatClampNeg (0 : Int32)) fun S33 => gR S33 (mR S33 this 0) 12 fun q35 => ck (inb (1 : Int32) (mN S33 q35)) (ck (inb (1 : Int32) (mN S33 q35)) (bd (sI S33 q35 (1 : Int32).toNatClampNeg ((mI S33 q35 (1 : Int32).toNatClampNeg) + (1 : Int32))) fun S39 => gR S39 (mR S39 this 0) 12 fun q41 => gR S39 (mR S39 this 0) 12 fun q43 => ck (inb (1 : Int32) (mN S39 q43)) (ck (inb ((290 : Int32) + a1) (mN S39 q41)) (bd (sI S39 q41 ((290 : Int32) + a1).toNatClampNeg (mI S39 q43 (1 : Int32).toNatClampNeg)) fun S47 => gR S47 (mR S47 this 0) 12 fun q49 => ck (inb ((240 : Int32) + a1) (mN S47 q49)) (bd (sI S47 q49 ((240 : Int32) + a1).toNatClampNeg (-1 : Int32)) fun S52 => gR S52 (mR S52 this 0) 12 fun q54 => ck (inb (1 : Int32) (mN S52 q54)) (some (((mI S52 q54 (1 : Int32).toNatClampNeg) - (1 : Int32)), S52))))))))))))))))
set_option maxRecDepth 100000 in
set_option maxHeartbeats 4000000 in
theorem c_X11_bone (l : Launch) (G : Gx) (n : Nat) (this : Nat) (a1 : Int32) (a2 : Int32) (S : MS) (ro : Int32) (So : MS) (hf : f_X11_bone n this a1 a2 S = some (ro, So)) (ok_this : Ok S this 11) : Cn G l yX11_bone cX11_bone 4 (some .int) rX11_bone [.ref this, .int a1, .int a2] S (some (.int ro)) So := by
  refine Cn.of (by decide) (Nat.le_of_ble_eq_true rfl) ?_
  intro p e s m args below meth c hC hname hR ls hl
  have hC : Cx G RX11 cX11_bone 4 (some .int) p s m args meth c := hC
  have hl : lv_has ls 4 [(0, .ref this), (1, .int a1), (2, .int a2)] := hl
  have hx := hC.x
  have hb := hC.b
  have hS : va_S (gA G) s.heap s.heap [] := va_S.rf
  have hE : Ex S S := Ex.rf S
  unfold f_X11_bone at hf
  refine lv_aload_n hx hb dX11_bone_0 rfl (lv_at hl 0 rfl) ?_
  refine lv_iload_n hx hb dX11_bone_1 rfl (lv_at hl 1 rfl) ?_
  obtain ⟨x4, S1, hc2, hf⟩ := cl_of hf
  refine cl_RX11_82 (As := [.int a1]) (rest := []) hC hR hS (c_X11_isCell l G n this a1 S x4 S1 hc2 ok_this) ok_this rfl ⟨Nat.le_of_ble_eq_true rfl, Nat.le_of_ble_eq_true rfl⟩ hl.1 rfl (Nat.le_of_ble_eq_true rfl) dX11_bone_2 (Nat.zero_le _) (Nat.zero_le _) (fun H locs hR hS hE3 => ?_)
  have ok_this := hE3 _ _ ok_this
  have hE := hE.tr hE3
  refine lv_if_eq (tgt := 37) hx hb dX11_bone_5 (by decide) (fun hc => ?_) (fun hc => ?_)
  · replace hf := if_t hf hc
    refine lv_iconst (v := -1) hx hb dX11_bone_37 (by decide) ?_
    exact r_iret hC hR hS hE hf dX11_bone_38
  · replace hf := if_f hf hc
    refine lv_iload_n hx hb dX11_bone_8 rfl (lv_at hl 2 rfl) ?_
    refine lv_iconst (v := 1) hx hb dX11_bone_9 (by decide) ?_
    refine lv_bipush (v := 99) hx hb dX11_bone_10 (by decide) ?_
    obtain ⟨x8, S5, hc6, hf⟩ := cl_of hf
    refine cl_RX11_71 (As := [.int a2, .int (1 : Int32), .int (99 : Int32)]) (rest := []) hC hR hS (c_X11_isIn l G n a2 (1 : Int32) (99 : Int32) S1 x8 S5 hc6 ) rfl ⟨Nat.le_of_ble_eq_true rfl, Nat.le_of_ble_eq_true rfl⟩ hl.1 rfl (Nat.le_of_ble_eq_true rfl) dX11_bone_12 (Nat.zero_le _) (Nat.zero_le _) (fun H locs hR hS hE7 => ?_)
    have ok_this := hE7 _ _ ok_this
    have hE := hE.tr hE7
    refine lv_if_eq (tgt := 37) hx hb dX11_bone_15 (by decide) (fun hc => ?_) (fun hc => ?_)
    · replace hf := if_t hf hc
      refine lv_iconst (v := -1) hx hb dX11_bone_37 (by decide) ?_
      exact r_iret hC hR hS hE hf dX11_bone_38
    · replace hf := if_f hf hc
      refine lv_aload_n hx hb dX11_bone_18 rfl (lv_at hl 0 rfl) ?_
      obtain ⟨q9, hq10, ok_q9, hf⟩ := gR_of hf
      refine gf_RX11_7 hC hR ok_this hq10 dX11_bone_19 ?_
      refine lv_iconst (v := 1) hx hb dX11_bone_22 (by decide) ?_
      obtain ⟨hi11, hf⟩ := ck_of hf
      refine r_iald hC hR ok_q9 hi11 dX11_bone_23 ?_
      refine lv_bipush (v := 24) hx hb dX11_bone_24 (by decide) ?_
      refine lv_icmp_eq (tgt := 37) hx hb dX11_bone_26 (by decide) (fun hc => ?_) (fun hc => ?_)
      · replace hf := if_t hf hc
        refine lv_iconst (v := -1) hx hb dX11_bone_37 (by decide) ?_
        exact r_iret hC hR hS hE hf dX11_bone_38
      · replace hf := if_f hf hc
        refine lv_aload_n hx hb dX11_bone_29 rfl (lv_at hl 0 rfl) ?_
        refine lv_iload_n hx hb dX11_bone_30 rfl (lv_at hl 1 rfl) ?_
        obtain ⟨x15, S12, hc13, hf⟩ := cl_of hf
        refine cl_RX11_85 (As := [.int a1]) (rest := []) hC hR hS (c_X11_isFree l G n this a1 S5 x15 S12 hc13 ok_this) ok_this rfl ⟨Nat.le_of_ble_eq_true rfl, Nat.le_of_ble_eq_true rfl⟩ hl.1 rfl (Nat.le_of_ble_eq_true rfl) dX11_bone_31 (Nat.zero_le _) (Nat.zero_le _) (fun H locs hR hS hE14 => ?_)
        have ok_this := hE14 _ _ ok_this
        have ok_q9 := hE14 _ _ ok_q9
        have hE := hE.tr hE14
        refine lv_if_ne (tgt := 39) hx hb dX11_bone_34 (by decide) (fun hc => ?_) (fun hc => ?_)
        · replace hf := if_f hf hc
          refine lv_bipush (v := 10) hx hb dX11_bone_39 (by decide) ?_
          refine lv_iconst (v := 3) hx hb dX11_bone_41 (by decide) ?_
          refine lv_aload_n hx hb dX11_bone_42 rfl (lv_at hl 0 rfl) ?_
          obtain ⟨q16, hq17, ok_q16, hf⟩ := gR_of hf
          refine gf_RX11_7 hC hR ok_this hq17 dX11_bone_43 ?_
          refine lv_iconst (v := 1) hx hb dX11_bone_46 (by decide) ?_
          obtain ⟨hi18, hf⟩ := ck_of hf
          refine r_iald hC hR ok_q16 hi18 dX11_bone_47 ?_
          refine lv_imul hx hb dX11_bone_48 ?_
          refine lv_iadd hx hb dX11_bone_49 ?_
          refine bdi hf (fun x19 hf => ?_)
          refine lv_istore_n (lv' := [(3, .int x19), (0, .ref this), (1, .int a1), (2, .int a2)]) hx hb dX11_bone_50 rfl hl (by decide) rfl (fun ls hl => ?_)
          refine lv_aload_n hx hb dX11_bone_51 rfl (lv_at hl 1 rfl) ?_
          obtain ⟨q20, hq21, ok_q20, hf⟩ := gR_of hf
          refine gf_RX11_7 hC hR ok_this hq21 dX11_bone_52 ?_
          refine lv_iload_n hx hb dX11_bone_55 rfl (lv_at hl 0 rfl) ?_
          refine lv_iload_n hx hb dX11_bone_56 rfl (lv_at hl 2 rfl) ?_
          obtain ⟨hi22, hf⟩ := ck_of hf
          refine rB_iast hC hR hS ok_q20 hi22 dX11_bone_57 hf (fun S23 H locs hf hR hS hE24 => ?_)
          have ok_this := hE24 _ _ ok_this
          have ok_q9 := hE24 _ _ ok_q9
          have ok_q16 := hE24 _ _ ok_q16
          have ok_q20 := hE24 _ _ ok_q20
          have hE := hE.tr hE24
          refine lv_aload_n hx hb dX11_bone_58 rfl (lv_at hl 1 rfl) ?_
          obtain ⟨q25, hq26, ok_q25, hf⟩ := gR_of hf
          refine gf_RX11_7 hC hR ok_this hq26 dX11_bone_59 ?_
          refine lv_iload_n hx hb dX11_bone_62 rfl (lv_at hl 0 rfl) ?_
          refine lv_iconst (v := 1) hx hb dX11_bone_63 (by decide) ?_
          refine lv_iadd hx hb dX11_bone_64 ?_
          refine lv_iload_n hx hb dX11_bone_65 rfl (lv_at hl 3 rfl) ?_
          obtain ⟨hi27, hf⟩ := ck_of hf
          refine rB_iast hC hR hS ok_q25 hi27 dX11_bone_66 hf (fun S28 H locs hf hR hS hE29 => ?_)
          have ok_this := hE29 _ _ ok_this
          have ok_q9 := hE29 _ _ ok_q9
          have ok_q16 := hE29 _ _ ok_q16
          have ok_q20 := hE29 _ _ ok_q20
          have ok_q25 := hE29 _ _ ok_q25
          have hE := hE.tr hE29
          refine lv_aload_n hx hb dX11_bone_67 rfl (lv_at hl 1 rfl) ?_
          obtain ⟨q30, hq31, ok_q30, hf⟩ := gR_of hf
          refine gf_RX11_7 hC hR ok_this hq31 dX11_bone_68 ?_
          refine lv_iload_n hx hb dX11_bone_71 rfl (lv_at hl 0 rfl) ?_
          refine lv_iconst (v := 2) hx hb dX11_bone_72 (by decide) ?_
          refine lv_iadd hx hb dX11_bone_73 ?_
          refine lv_iconst (v := 0) hx hb dX11_bone_74 (by decide) ?_
          obtain ⟨hi32, hf⟩ := ck_of hf
          refine rB_iast hC hR hS ok_q30 hi32 dX11_bone_75 hf (fun S33 H locs hf hR hS hE34 => ?_)
          have ok_this := hE34 _ _ ok_this
          have ok_q9 := hE34 _ _ ok_q9
          have ok_q16 := hE34 _ _ ok_q16
          have ok_q20 := hE34 _ _ ok_q20
          have ok_q25 := hE34 _ _ ok_q25
          have ok_q30 := hE34 _ _ ok_q30
          have hE := hE.tr hE34
          refine lv_aload_n hx hb dX11_bone_76 rfl (lv_at hl 1 rfl) ?_
          obtain ⟨q35, hq36, ok_q35, hf⟩ := gR_of hf
          refine gf_RX11_7 hC hR ok_this hq36 dX11_bone_77 ?_
          refine lv_iconst (v := 1) hx hb dX11_bone_80 (by decide) ?_
          refine lv_dup2_11 hx hb dX11_bone_81 rfl rfl ?_
          obtain ⟨hi37, hf⟩ := ck_of hf
          refine r_iald hC hR ok_q35 hi37 dX11_bone_82 ?_
          refine lv_iconst (v := 1) hx hb dX11_bone_83 (by decide) ?_
          refine lv_iadd hx hb dX11_bone_84 ?_
          obtain ⟨hi38, hf⟩ := ck_of hf
          refine rB_iast hC hR hS ok_q35 hi38 dX11_bone_85 hf (fun S39 H locs hf hR hS hE40 => ?_)
          have ok_this := hE40 _ _ ok_this
          have ok_q9 := hE40 _ _ ok_q9
          have ok_q16 := hE40 _ _ ok_q16
          have ok_q20 := hE40 _ _ ok_q20
          have ok_q25 := hE40 _ _ ok_q25
          have ok_q30 := hE40 _ _ ok_q30
          have ok_q35 := hE40 _ _ ok_q35
          have hE := hE.tr hE40
          refine lv_aload_n hx hb dX11_bone_86 rfl (lv_at hl 1 rfl) ?_
          obtain ⟨q41, hq42, ok_q41, hf⟩ := gR_of hf
          refine gf_RX11_7 hC hR ok_this hq42 dX11_bone_87 ?_
          refine lv_sipush (v := 290) hx hb dX11_bone_90 (by decide) ?_
          refine lv_iload_n hx hb dX11_bone_93 rfl (lv_at hl 2 rfl) ?_
          refine lv_iadd hx hb dX11_bone_94 ?_
          refine lv_aload_n hx hb dX11_bone_95 rfl (lv_at hl 1 rfl) ?_
          obtain ⟨q43, hq44, ok_q43, hf⟩ := gR_of hf
          refine gf_RX11_7 hC hR ok_this hq44 dX11_bone_96 ?_
          refine lv_iconst (v := 1) hx hb dX11_bone_99 (by decide) ?_
          obtain ⟨hi45, hf⟩ := ck_of hf
          refine r_iald hC hR ok_q43 hi45 dX11_bone_100 ?_
          obtain ⟨hi46, hf⟩ := ck_of hf
          refine rB_iast hC hR hS ok_q41 hi46 dX11_bone_101 hf (fun S47 H locs hf hR hS hE48 => ?_)
          have ok_this := hE48 _ _ ok_this
          have ok_q9 := hE48 _ _ ok_q9
          have ok_q16 := hE48 _ _ ok_q16
          have ok_q20 := hE48 _ _ ok_q20
          have ok_q25 := hE48 _ _ ok_q25
          have ok_q30 := hE48 _ _ ok_q30
          have ok_q35 := hE48 _ _ ok_q35
          have ok_q41 := hE48 _ _ ok_q41
          have ok_q43 := hE48 _ _ ok_q43
          have hE := hE.tr hE48
          refine lv_aload_n hx hb dX11_bone_102 rfl (lv_at hl 1 rfl) ?_
          obtain ⟨q49, hq50, ok_q49, hf⟩ := gR_of hf
          refine gf_RX11_7 hC hR ok_this hq50 dX11_bone_103 ?_
          refine lv_sipush (v := 240) hx hb dX11_bone_106 (by decide) ?_
          refine lv_iload_n hx hb dX11_bone_109 rfl (lv_at hl 2 rfl) ?_
          refine lv_iadd hx hb dX11_bone_110 ?_
          refine lv_iconst (v := -1) hx hb dX11_bone_111 (by decide) ?_
          obtain ⟨hi51, hf⟩ := ck_of hf
          refine rB_iast hC hR hS ok_q49 hi51 dX11_bone_112 hf (fun S52 H locs hf hR hS hE53 => ?_)
          have ok_this := hE53 _ _ ok_this
          have ok_q9 := hE53 _ _ ok_q9
          have ok_q16 := hE53 _ _ ok_q16
          have ok_q20 := hE53 _ _ ok_q20
          have ok_q25 := hE53 _ _ ok_q25
          have ok_q30 := hE53 _ _ ok_q30
          have ok_q35 := hE53 _ _ ok_q35
          have ok_q41 := hE53 _ _ ok_q41
          have ok_q43 := hE53 _ _ ok_q43
          have ok_q49 := hE53 _ _ ok_q49
          have hE := hE.tr hE53
          refine lv_aload_n hx hb dX11_bone_113 rfl (lv_at hl 1 rfl) ?_
          obtain ⟨q54, hq55, ok_q54, hf⟩ := gR_of hf
          refine gf_RX11_7 hC hR ok_this hq55 dX11_bone_114 ?_
          refine lv_iconst (v := 1) hx hb dX11_bone_117 (by decide) ?_
          obtain ⟨hi56, hf⟩ := ck_of hf
          refine r_iald hC hR ok_q54 hi56 dX11_bone_118 ?_
          refine lv_iconst (v := 1) hx hb dX11_bone_119 (by decide) ?_
          refine lv_isub hx hb dX11_bone_120 ?_
          exact r_iret hC hR hS hE hf dX11_bone_121
        · replace hf := if_t hf hc
          refine lv_iconst (v := -1) hx hb dX11_bone_37 (by decide) ?_
          exact r_iret hC hR hS hE hf dX11_bone_38
abbrev rX11_stake : Room := { frames := 2, cells := 0, slots := 0, locals := 43 }
def f_X11_stake (n : Nat) (this : Nat) (a1 : Int32) (a2 : Int32) (S : MS) : Option (Int32 × MS) :=
  cl (f_X11_isFarmer n a1 S) fun x4 S1 => (if x4 = 0 then zb (0 : Int32) (some ((0 : Int32), S1)) else (if a2 = (-1 : Int32) then gR S1 (mR S1 this 0) 12 fun q5 => ck (inb ((85 : Int32) + a1) (mN S1 q5)) (bd (sI S1 q5 ((85 : Int32) + a1).toNatClampNeg a2) fun S8 => zb (1 : Int32) (some ((1 : Int32), S8))) else cl (f_X11_isCell n this a2 S1) fun x13 S10 => (if x13 = 0 then zb (0 : Int32) (some ((0 : Int32), S10)) else gR S10 (mR S10 this 0) 12 fun q14 => ck (inb ((290 : Int32) + a2) (mN S10 q14)) ((if (mI S10 q14 ((290 : Int32) + a2).toNatClampNeg) ≤ 0 then gR S10 (mR S10 this 0) 12 fun q17 => ck (inb ((85 : Int32) + a1) (mN S10 q17)) (bd (sI S10 q17 ((85 : Int32) + a1).toNatClampNeg a2) fun S20 => zb (1 : Int32) (some ((1 : Int32), S20))) else zb (0 : Int32) (some ((0 : Int32), S10)))))))
set_option maxRecDepth 100000 in
set_option maxHeartbeats 4000000 in
theorem c_X11_stake (l : Launch) (G : Gx) (n : Nat) (this : Nat) (a1 : Int32) (a2 : Int32) (S : MS) (ro : Int32) (So : MS) (hf : f_X11_stake n this a1 a2 S = some (ro, So)) (ok_this : Ok S this 11) : Cn G l yX11_stake cX11_stake 3 (some .boolean) rX11_stake [.ref this, .int a1, .int a2] S (some (.int ro)) So := by
  refine Cn.of (by decide) (Nat.le_of_ble_eq_true rfl) ?_
  intro p e s m args below meth c hC hname hR ls hl
  have hC : Cx G RX11 cX11_stake 3 (some .boolean) p s m args meth c := hC
  have hl : lv_has ls 3 [(0, .ref this), (1, .int a1), (2, .int a2)] := hl
  have hx := hC.x
  have hb := hC.b
  have hS : va_S (gA G) s.heap s.heap [] := va_S.rf
  have hE : Ex S S := Ex.rf S
  unfold f_X11_stake at hf
  refine lv_iload_n hx hb dX11_stake_0 rfl (lv_at hl 1 rfl) ?_
  obtain ⟨x4, S1, hc2, hf⟩ := cl_of hf
  refine cl_RX11_88 (As := [.int a1]) (rest := []) hC hR hS (c_X11_isFarmer l G n a1 S x4 S1 hc2 ) rfl ⟨Nat.le_of_ble_eq_true rfl, Nat.le_of_ble_eq_true rfl⟩ hl.1 rfl (Nat.le_of_ble_eq_true rfl) dX11_stake_1 (Nat.zero_le _) (Nat.zero_le _) (fun H locs hR hS hE3 => ?_)
  have ok_this := hE3 _ _ ok_this
  have hE := hE.tr hE3
  refine lv_if_eq (tgt := 33) hx hb dX11_stake_4 (by decide) (fun hc => ?_) (fun hc => ?_)
  · replace hf := if_t hf hc
    refine lv_iconst (v := 0) hx hb dX11_stake_33 (by decide) ?_
    exact r_zret hC hR hS hE hf dX11_stake_34
  · replace hf := if_f hf hc
    refine lv_iload_n hx hb dX11_stake_7 rfl (lv_at hl 2 rfl) ?_
    refine lv_iconst (v := -1) hx hb dX11_stake_8 (by decide) ?_
    refine lv_icmp_eq (tgt := 35) hx hb dX11_stake_9 (by decide) (fun hc => ?_) (fun hc => ?_)
    · replace hf := if_t hf hc
      refine lv_aload_n hx hb dX11_stake_35 rfl (lv_at hl 0 rfl) ?_
      obtain ⟨q5, hq6, ok_q5, hf⟩ := gR_of hf
      refine gf_RX11_7 hC hR ok_this hq6 dX11_stake_36 ?_
      refine lv_bipush (v := 85) hx hb dX11_stake_39 (by decide) ?_
      refine lv_iload_n hx hb dX11_stake_41 rfl (lv_at hl 1 rfl) ?_
      refine lv_iadd hx hb dX11_stake_42 ?_
      refine lv_iload_n hx hb dX11_stake_43 rfl (lv_at hl 2 rfl) ?_
      obtain ⟨hi7, hf⟩ := ck_of hf
      refine rB_iast hC hR hS ok_q5 hi7 dX11_stake_44 hf (fun S8 H locs hf hR hS hE9 => ?_)
      have ok_this := hE9 _ _ ok_this
      have ok_q5 := hE9 _ _ ok_q5
      have hE := hE.tr hE9
      refine lv_iconst (v := 1) hx hb dX11_stake_45 (by decide) ?_
      exact r_zret hC hR hS hE hf dX11_stake_46
    · replace hf := if_f hf hc
      refine lv_aload_n hx hb dX11_stake_12 rfl (lv_at hl 0 rfl) ?_
      refine lv_iload_n hx hb dX11_stake_13 rfl (lv_at hl 2 rfl) ?_
      obtain ⟨x13, S10, hc11, hf⟩ := cl_of hf
      refine cl_RX11_82 (As := [.int a2]) (rest := []) hC hR hS (c_X11_isCell l G n this a2 S1 x13 S10 hc11 ok_this) ok_this rfl ⟨Nat.le_of_ble_eq_true rfl, Nat.le_of_ble_eq_true rfl⟩ hl.1 rfl (Nat.le_of_ble_eq_true rfl) dX11_stake_14 (Nat.zero_le _) (Nat.zero_le _) (fun H locs hR hS hE12 => ?_)
      have ok_this := hE12 _ _ ok_this
      have hE := hE.tr hE12
      refine lv_if_eq (tgt := 33) hx hb dX11_stake_17 (by decide) (fun hc => ?_) (fun hc => ?_)
      · replace hf := if_t hf hc
        refine lv_iconst (v := 0) hx hb dX11_stake_33 (by decide) ?_
        exact r_zret hC hR hS hE hf dX11_stake_34
      · replace hf := if_f hf hc
        refine lv_aload_n hx hb dX11_stake_20 rfl (lv_at hl 0 rfl) ?_
        obtain ⟨q14, hq15, ok_q14, hf⟩ := gR_of hf
        refine gf_RX11_7 hC hR ok_this hq15 dX11_stake_21 ?_
        refine lv_sipush (v := 290) hx hb dX11_stake_24 (by decide) ?_
        refine lv_iload_n hx hb dX11_stake_27 rfl (lv_at hl 2 rfl) ?_
        refine lv_iadd hx hb dX11_stake_28 ?_
        obtain ⟨hi16, hf⟩ := ck_of hf
        refine r_iald hC hR ok_q14 hi16 dX11_stake_29 ?_
        refine lv_if_le (tgt := 35) hx hb dX11_stake_30 (by decide) (fun hc => ?_) (fun hc => ?_)
        · replace hf := if_t hf hc
          refine lv_aload_n hx hb dX11_stake_35 rfl (lv_at hl 0 rfl) ?_
          obtain ⟨q17, hq18, ok_q17, hf⟩ := gR_of hf
          refine gf_RX11_7 hC hR ok_this hq18 dX11_stake_36 ?_
          refine lv_bipush (v := 85) hx hb dX11_stake_39 (by decide) ?_
          refine lv_iload_n hx hb dX11_stake_41 rfl (lv_at hl 1 rfl) ?_
          refine lv_iadd hx hb dX11_stake_42 ?_
          refine lv_iload_n hx hb dX11_stake_43 rfl (lv_at hl 2 rfl) ?_
          obtain ⟨hi19, hf⟩ := ck_of hf
          refine rB_iast hC hR hS ok_q17 hi19 dX11_stake_44 hf (fun S20 H locs hf hR hS hE21 => ?_)
          have ok_this := hE21 _ _ ok_this
          have ok_q14 := hE21 _ _ ok_q14
          have ok_q17 := hE21 _ _ ok_q17
          have hE := hE.tr hE21
          refine lv_iconst (v := 1) hx hb dX11_stake_45 (by decide) ?_
          exact r_zret hC hR hS hE hf dX11_stake_46
        · replace hf := if_f hf hc
          refine lv_iconst (v := 0) hx hb dX11_stake_33 (by decide) ?_
          exact r_zret hC hR hS hE hf dX11_stake_34
abbrev rX11_well : Room := { frames := 2, cells := 0, slots := 0, locals := 43 }
def f_X11_well (n : Nat) (this : Nat) (a1 : Int32) (a2 : Int32) (S : MS) : Option (Int32 × MS) :=
  cl (f_X11_isCell n this a1 S) fun x4 S1 => (if x4 = 0 then zb (0 : Int32) (some ((0 : Int32), S1)) else gR S1 (mR S1 this 0) 12 fun q5 => (if a2 = 0 then ck (inb ((190 : Int32) + a1) (mN S1 q5)) (bd (sI S1 q5 ((190 : Int32) + a1).toNatClampNeg (0 : Int32)) fun S8 => zb (1 : Int32) (some ((1 : Int32), S8))) else ck (inb ((190 : Int32) + a1) (mN S1 q5)) (bd (sI S1 q5 ((190 : Int32) + a1).toNatClampNeg (1 : Int32)) fun S11 => zb (1 : Int32) (some ((1 : Int32), S11)))))
set_option maxRecDepth 100000 in
set_option maxHeartbeats 4000000 in
theorem c_X11_well (l : Launch) (G : Gx) (n : Nat) (this : Nat) (a1 : Int32) (a2 : Int32) (S : MS) (ro : Int32) (So : MS) (hf : f_X11_well n this a1 a2 S = some (ro, So)) (ok_this : Ok S this 11) : Cn G l yX11_well cX11_well 3 (some .boolean) rX11_well [.ref this, .int a1, .int a2] S (some (.int ro)) So := by
  refine Cn.of (by decide) (Nat.le_of_ble_eq_true rfl) ?_
  intro p e s m args below meth c hC hname hR ls hl
  have hC : Cx G RX11 cX11_well 3 (some .boolean) p s m args meth c := hC
  have hl : lv_has ls 3 [(0, .ref this), (1, .int a1), (2, .int a2)] := hl
  have hx := hC.x
  have hb := hC.b
  have hS : va_S (gA G) s.heap s.heap [] := va_S.rf
  have hE : Ex S S := Ex.rf S
  unfold f_X11_well at hf
  refine lv_aload_n hx hb dX11_well_0 rfl (lv_at hl 0 rfl) ?_
  refine lv_iload_n hx hb dX11_well_1 rfl (lv_at hl 1 rfl) ?_
  obtain ⟨x4, S1, hc2, hf⟩ := cl_of hf
  refine cl_RX11_82 (As := [.int a1]) (rest := []) hC hR hS (c_X11_isCell l G n this a1 S x4 S1 hc2 ok_this) ok_this rfl ⟨Nat.le_of_ble_eq_true rfl, Nat.le_of_ble_eq_true rfl⟩ hl.1 rfl (Nat.le_of_ble_eq_true rfl) dX11_well_2 (Nat.zero_le _) (Nat.zero_le _) (fun H locs hR hS hE3 => ?_)
  have ok_this := hE3 _ _ ok_this
  have hE := hE.tr hE3
  refine lv_if_ne (tgt := 10) hx hb dX11_well_5 (by decide) (fun hc => ?_) (fun hc => ?_)
  · replace hf := if_f hf hc
    refine lv_aload_n hx hb dX11_well_10 rfl (lv_at hl 0 rfl) ?_
    obtain ⟨q5, hq6, ok_q5, hf⟩ := gR_of hf
    refine gf_RX11_7 hC hR ok_this hq6 dX11_well_11 ?_
    refine lv_sipush (v := 190) hx hb dX11_well_14 (by decide) ?_
    refine lv_iload_n hx hb dX11_well_17 rfl (lv_at hl 1 rfl) ?_
    refine lv_iadd hx hb dX11_well_18 ?_
    refine lv_iload_n hx hb dX11_well_19 rfl (lv_at hl 2 rfl) ?_
    refine lv_if_eq (tgt := 27) hx hb dX11_well_20 (by decide) (fun hc => ?_) (fun hc => ?_)
    · replace hf := if_t hf hc
      refine lv_iconst (v := 0) hx hb dX11_well_27 (by decide) ?_
      obtain ⟨hi7, hf⟩ := ck_of hf
      refine rB_iast hC hR hS ok_q5 hi7 dX11_well_28 hf (fun S8 H locs hf hR hS hE9 => ?_)
      have ok_this := hE9 _ _ ok_this
      have ok_q5 := hE9 _ _ ok_q5
      have hE := hE.tr hE9
      refine lv_iconst (v := 1) hx hb dX11_well_29 (by decide) ?_
      exact r_zret hC hR hS hE hf dX11_well_30
    · replace hf := if_f hf hc
      refine lv_iconst (v := 1) hx hb dX11_well_23 (by decide) ?_
      refine lv_goto (tgt := 28) hx hb dX11_well_24 (by decide) ?_
      obtain ⟨hi10, hf⟩ := ck_of hf
      refine rB_iast hC hR hS ok_q5 hi10 dX11_well_28 hf (fun S11 H locs hf hR hS hE12 => ?_)
      have ok_this := hE12 _ _ ok_this
      have ok_q5 := hE12 _ _ ok_q5
      have hE := hE.tr hE12
      refine lv_iconst (v := 1) hx hb dX11_well_29 (by decide) ?_
      exact r_zret hC hR hS hE hf dX11_well_30
  · replace hf := if_t hf hc
    refine lv_iconst (v := 0) hx hb dX11_well_8 (by decide) ?_
    exact r_zret hC hR hS hE hf dX11_well_9
abbrev rX11_wind : Room := { frames := 1, cells := 0, slots := 0, locals := 22 }
def f_X11_wind (n : Nat) (this : Nat) (a1 : Int32) (a2 : Int32) (a3 : Int32) (a4 : Int32) (S : MS) : Option (Int32 × MS) :=
  cl (f_X11_isIn n a1 (-1 : Int32) (1 : Int32) S) fun x4 S1 => (if x4 = 0 then some ((-1 : Int32), S1) else cl (f_X11_isIn n a2 (-1 : Int32) (1 : Int32) S1) fun x8 S5 => (if x8 = 0 then some ((-1 : Int32), S5) else cl (f_X11_isIn n a3 (0 : Int32) (99 : Int32) S5) fun x12 S9 => (if x12 = 0 then some ((-1 : Int32), S9) else cl (f_X11_isIn n a4 (0 : Int32) (9 : Int32) S9) fun x16 S13 => (if x16 = 0 then some ((-1 : Int32), S13) else gR S13 (mR S13 this 0) 12 fun q17 => ck (inb (2 : Int32) (mN S13 q17)) ((if (mI S13 q17 (2 : Int32).toNatClampNeg) = (6 : Int32) then some ((-1 : Int32), S13) else gR S13 (mR S13 this 0) 12 fun q20 => ck (inb (2 : Int32) (mN S13 q20)) (bd ((100 : Int32) + ((4 : Int32) * (mI S13 q20 (2 : Int32).toNatClampNeg))) fun x23 => gR S13 (mR S13 this 0) 12 fun q24 => ck (inb x23 (mN S13 q24)) (bd (sI S13 q24 x23.toNatClampNeg a1) fun S27 => gR S27 (mR S27 this 0) 12 fun q29 => ck (inb (x23 + (1 : Int32)) (mN S27 q29)) (bd (sI S27 q29 (x23 + (1 : Int32)).toNatClampNeg a2) fun S32 => gR S32 (mR S32 this 0) 12 fun q34 => ck (inb (x23 + (2 : Int32)) (mN S32 q34)) (bd (sI S32 q34 (x23 + (2 : Int32)).toNatClampNeg a3) fun S37 => gR S37 (mR S37 this 0) 12 fun q39 => ck (inb (x23 + (3 : Int32)) (mN S37 q39)) (bd (sI S37 q39 (x23 + (3 : Int32)).toNatClampNeg a4) fun S42 => gR S42 (mR S42 this 0) 12 fun q44 => ck (inb (2 : Int32) (mN S42 q44)) (ck (inb (2 : Int32) (mN S42 q44)) (bd (sI S42 q44 (2 : Int32).toNatClampNeg ((mI S42 q44 (2 : Int32).toNatClampNeg) + (1 : Int32))) fun S48 => gR S48 (mR S48 this 0) 12 fun q50 => ck (inb (2 : Int32) (mN S48 q50)) (some (((mI S48 q50 (2 : Int32).toNatClampNeg) - (1 : Int32)), S48)))))))))))))))
set_option maxRecDepth 100000 in
set_option maxHeartbeats 4000000 in
theorem c_X11_wind (l : Launch) (G : Gx) (n : Nat) (this : Nat) (a1 : Int32) (a2 : Int32) (a3 : Int32) (a4 : Int32) (S : MS) (ro : Int32) (So : MS) (hf : f_X11_wind n this a1 a2 a3 a4 S = some (ro, So)) (ok_this : Ok S this 11) : Cn G l yX11_wind cX11_wind 6 (some .int) rX11_wind [.ref this, .int a1, .int a2, .int a3, .int a4] S (some (.int ro)) So := by
  refine Cn.of (by decide) (Nat.le_of_ble_eq_true rfl) ?_
  intro p e s m args below meth c hC hname hR ls hl
  have hC : Cx G RX11 cX11_wind 6 (some .int) p s m args meth c := hC
  have hl : lv_has ls 6 [(0, .ref this), (1, .int a1), (2, .int a2), (3, .int a3), (4, .int a4)] := hl
  have hx := hC.x
  have hb := hC.b
  have hS : va_S (gA G) s.heap s.heap [] := va_S.rf
  have hE : Ex S S := Ex.rf S
  unfold f_X11_wind at hf
  refine lv_iload_n hx hb dX11_wind_0 rfl (lv_at hl 1 rfl) ?_
  refine lv_iconst (v := -1) hx hb dX11_wind_1 (by decide) ?_
  refine lv_iconst (v := 1) hx hb dX11_wind_2 (by decide) ?_
  obtain ⟨x4, S1, hc2, hf⟩ := cl_of hf
  refine cl_RX11_71 (As := [.int a1, .int (-1 : Int32), .int (1 : Int32)]) (rest := []) hC hR hS (c_X11_isIn l G n a1 (-1 : Int32) (1 : Int32) S x4 S1 hc2 ) rfl ⟨Nat.le_of_ble_eq_true rfl, Nat.le_of_ble_eq_true rfl⟩ hl.1 rfl (Nat.le_of_ble_eq_true rfl) dX11_wind_3 (Nat.zero_le _) (Nat.zero_le _) (fun H locs hR hS hE3 => ?_)
  have ok_this := hE3 _ _ ok_this
  have hE := hE.tr hE3
  refine lv_if_eq (tgt := 50) hx hb dX11_wind_6 (by decide) (fun hc => ?_) (fun hc => ?_)
  · replace hf := if_t hf hc
    refine lv_iconst (v := -1) hx hb dX11_wind_50 (by decide) ?_
    exact r_iret hC hR hS hE hf dX11_wind_51
  · replace hf := if_f hf hc
    refine lv_iload_n hx hb dX11_wind_9 rfl (lv_at hl 2 rfl) ?_
    refine lv_iconst (v := -1) hx hb dX11_wind_10 (by decide) ?_
    refine lv_iconst (v := 1) hx hb dX11_wind_11 (by decide) ?_
    obtain ⟨x8, S5, hc6, hf⟩ := cl_of hf
    refine cl_RX11_71 (As := [.int a2, .int (-1 : Int32), .int (1 : Int32)]) (rest := []) hC hR hS (c_X11_isIn l G n a2 (-1 : Int32) (1 : Int32) S1 x8 S5 hc6 ) rfl ⟨Nat.le_of_ble_eq_true rfl, Nat.le_of_ble_eq_true rfl⟩ hl.1 rfl (Nat.le_of_ble_eq_true rfl) dX11_wind_12 (Nat.zero_le _) (Nat.zero_le _) (fun H locs hR hS hE7 => ?_)
    have ok_this := hE7 _ _ ok_this
    have hE := hE.tr hE7
    refine lv_if_eq (tgt := 50) hx hb dX11_wind_15 (by decide) (fun hc => ?_) (fun hc => ?_)
    · replace hf := if_t hf hc
      refine lv_iconst (v := -1) hx hb dX11_wind_50 (by decide) ?_
      exact r_iret hC hR hS hE hf dX11_wind_51
    · replace hf := if_f hf hc
      refine lv_iload_n hx hb dX11_wind_18 rfl (lv_at hl 3 rfl) ?_
      refine lv_iconst (v := 0) hx hb dX11_wind_19 (by decide) ?_
      refine lv_bipush (v := 99) hx hb dX11_wind_20 (by decide) ?_
      obtain ⟨x12, S9, hc10, hf⟩ := cl_of hf
      refine cl_RX11_71 (As := [.int a3, .int (0 : Int32), .int (99 : Int32)]) (rest := []) hC hR hS (c_X11_isIn l G n a3 (0 : Int32) (99 : Int32) S5 x12 S9 hc10 ) rfl ⟨Nat.le_of_ble_eq_true rfl, Nat.le_of_ble_eq_true rfl⟩ hl.1 rfl (Nat.le_of_ble_eq_true rfl) dX11_wind_22 (Nat.zero_le _) (Nat.zero_le _) (fun H locs hR hS hE11 => ?_)
      have ok_this := hE11 _ _ ok_this
      have hE := hE.tr hE11
      refine lv_if_eq (tgt := 50) hx hb dX11_wind_25 (by decide) (fun hc => ?_) (fun hc => ?_)
      · replace hf := if_t hf hc
        refine lv_iconst (v := -1) hx hb dX11_wind_50 (by decide) ?_
        exact r_iret hC hR hS hE hf dX11_wind_51
      · replace hf := if_f hf hc
        refine lv_iload hx hb dX11_wind_28 (lv_at hl 4 rfl) ?_
        refine lv_iconst (v := 0) hx hb dX11_wind_30 (by decide) ?_
        refine lv_bipush (v := 9) hx hb dX11_wind_31 (by decide) ?_
        obtain ⟨x16, S13, hc14, hf⟩ := cl_of hf
        refine cl_RX11_71 (As := [.int a4, .int (0 : Int32), .int (9 : Int32)]) (rest := []) hC hR hS (c_X11_isIn l G n a4 (0 : Int32) (9 : Int32) S9 x16 S13 hc14 ) rfl ⟨Nat.le_of_ble_eq_true rfl, Nat.le_of_ble_eq_true rfl⟩ hl.1 rfl (Nat.le_of_ble_eq_true rfl) dX11_wind_33 (Nat.zero_le _) (Nat.zero_le _) (fun H locs hR hS hE15 => ?_)
        have ok_this := hE15 _ _ ok_this
        have hE := hE.tr hE15
        refine lv_if_eq (tgt := 50) hx hb dX11_wind_36 (by decide) (fun hc => ?_) (fun hc => ?_)
        · replace hf := if_t hf hc
          refine lv_iconst (v := -1) hx hb dX11_wind_50 (by decide) ?_
          exact r_iret hC hR hS hE hf dX11_wind_51
        · replace hf := if_f hf hc
          refine lv_aload_n hx hb dX11_wind_39 rfl (lv_at hl 0 rfl) ?_
          obtain ⟨q17, hq18, ok_q17, hf⟩ := gR_of hf
          refine gf_RX11_7 hC hR ok_this hq18 dX11_wind_40 ?_
          refine lv_iconst (v := 2) hx hb dX11_wind_43 (by decide) ?_
          obtain ⟨hi19, hf⟩ := ck_of hf
          refine r_iald hC hR ok_q17 hi19 dX11_wind_44 ?_
          refine lv_bipush (v := 6) hx hb dX11_wind_45 (by decide) ?_
          refine lv_icmp_ne (tgt := 52) hx hb dX11_wind_47 (by decide) (fun hc => ?_) (fun hc => ?_)
          · replace hf := if_f hf hc
            refine lv_bipush (v := 100) hx hb dX11_wind_52 (by decide) ?_
            refine lv_iconst (v := 4) hx hb dX11_wind_54 (by decide) ?_
            refine lv_aload_n hx hb dX11_wind_55 rfl (lv_at hl 0 rfl) ?_
            obtain ⟨q20, hq21, ok_q20, hf⟩ := gR_of hf
            refine gf_RX11_7 hC hR ok_this hq21 dX11_wind_56 ?_
            refine lv_iconst (v := 2) hx hb dX11_wind_59 (by decide) ?_
            obtain ⟨hi22, hf⟩ := ck_of hf
            refine r_iald hC hR ok_q20 hi22 dX11_wind_60 ?_
            refine lv_imul hx hb dX11_wind_61 ?_
            refine lv_iadd hx hb dX11_wind_62 ?_
            refine bdi hf (fun x23 hf => ?_)
            refine lv_istore (lv' := [(5, .int x23), (0, .ref this), (1, .int a1), (2, .int a2), (3, .int a3), (4, .int a4)]) hx hb dX11_wind_63 hl (by decide) rfl (fun ls hl => ?_)
            refine lv_aload_n hx hb dX11_wind_65 rfl (lv_at hl 1 rfl) ?_
            obtain ⟨q24, hq25, ok_q24, hf⟩ := gR_of hf
            refine gf_RX11_7 hC hR ok_this hq25 dX11_wind_66 ?_
            refine lv_iload hx hb dX11_wind_69 (lv_at hl 0 rfl) ?_
            refine lv_iload_n hx hb dX11_wind_71 rfl (lv_at hl 2 rfl) ?_
            obtain ⟨hi26, hf⟩ := ck_of hf
            refine rB_iast hC hR hS ok_q24 hi26 dX11_wind_72 hf (fun S27 H locs hf hR hS hE28 => ?_)
            have ok_this := hE28 _ _ ok_this
            have ok_q17 := hE28 _ _ ok_q17
            have ok_q20 := hE28 _ _ ok_q20
            have ok_q24 := hE28 _ _ ok_q24
            have hE := hE.tr hE28
            refine lv_aload_n hx hb dX11_wind_73 rfl (lv_at hl 1 rfl) ?_
            obtain ⟨q29, hq30, ok_q29, hf⟩ := gR_of hf
            refine gf_RX11_7 hC hR ok_this hq30 dX11_wind_74 ?_
            refine lv_iload hx hb dX11_wind_77 (lv_at hl 0 rfl) ?_
            refine lv_iconst (v := 1) hx hb dX11_wind_79 (by decide) ?_
            refine lv_iadd hx hb dX11_wind_80 ?_
            refine lv_iload_n hx hb dX11_wind_81 rfl (lv_at hl 3 rfl) ?_
            obtain ⟨hi31, hf⟩ := ck_of hf
            refine rB_iast hC hR hS ok_q29 hi31 dX11_wind_82 hf (fun S32 H locs hf hR hS hE33 => ?_)
            have ok_this := hE33 _ _ ok_this
            have ok_q17 := hE33 _ _ ok_q17
            have ok_q20 := hE33 _ _ ok_q20
            have ok_q24 := hE33 _ _ ok_q24
            have ok_q29 := hE33 _ _ ok_q29
            have hE := hE.tr hE33
            refine lv_aload_n hx hb dX11_wind_83 rfl (lv_at hl 1 rfl) ?_
            obtain ⟨q34, hq35, ok_q34, hf⟩ := gR_of hf
            refine gf_RX11_7 hC hR ok_this hq35 dX11_wind_84 ?_
            refine lv_iload hx hb dX11_wind_87 (lv_at hl 0 rfl) ?_
            refine lv_iconst (v := 2) hx hb dX11_wind_89 (by decide) ?_
            refine lv_iadd hx hb dX11_wind_90 ?_
            refine lv_iload_n hx hb dX11_wind_91 rfl (lv_at hl 4 rfl) ?_
            obtain ⟨hi36, hf⟩ := ck_of hf
            refine rB_iast hC hR hS ok_q34 hi36 dX11_wind_92 hf (fun S37 H locs hf hR hS hE38 => ?_)
            have ok_this := hE38 _ _ ok_this
            have ok_q17 := hE38 _ _ ok_q17
            have ok_q20 := hE38 _ _ ok_q20
            have ok_q24 := hE38 _ _ ok_q24
            have ok_q29 := hE38 _ _ ok_q29
            have ok_q34 := hE38 _ _ ok_q34
            have hE := hE.tr hE38
            refine lv_aload_n hx hb dX11_wind_93 rfl (lv_at hl 1 rfl) ?_
            obtain ⟨q39, hq40, ok_q39, hf⟩ := gR_of hf
            refine gf_RX11_7 hC hR ok_this hq40 dX11_wind_94 ?_
            refine lv_iload hx hb dX11_wind_97 (lv_at hl 0 rfl) ?_
            refine lv_iconst (v := 3) hx hb dX11_wind_99 (by decide) ?_
            refine lv_iadd hx hb dX11_wind_100 ?_
            refine lv_iload hx hb dX11_wind_101 (lv_at hl 5 rfl) ?_
            obtain ⟨hi41, hf⟩ := ck_of hf
            refine rB_iast hC hR hS ok_q39 hi41 dX11_wind_103 hf (fun S42 H locs hf hR hS hE43 => ?_)
            have ok_this := hE43 _ _ ok_this
            have ok_q17 := hE43 _ _ ok_q17
            have ok_q20 := hE43 _ _ ok_q20
            have ok_q24 := hE43 _ _ ok_q24
            have ok_q29 := hE43 _ _ ok_q29
            have ok_q34 := hE43 _ _ ok_q34
            have ok_q39 := hE43 _ _ ok_q39
            have hE := hE.tr hE43
            refine lv_aload_n hx hb dX11_wind_104 rfl (lv_at hl 1 rfl) ?_
            obtain ⟨q44, hq45, ok_q44, hf⟩ := gR_of hf
            refine gf_RX11_7 hC hR ok_this hq45 dX11_wind_105 ?_
            refine lv_iconst (v := 2) hx hb dX11_wind_108 (by decide) ?_
            refine lv_dup2_11 hx hb dX11_wind_109 rfl rfl ?_
            obtain ⟨hi46, hf⟩ := ck_of hf
            refine r_iald hC hR ok_q44 hi46 dX11_wind_110 ?_
            refine lv_iconst (v := 1) hx hb dX11_wind_111 (by decide) ?_
            refine lv_iadd hx hb dX11_wind_112 ?_
            obtain ⟨hi47, hf⟩ := ck_of hf
            refine rB_iast hC hR hS ok_q44 hi47 dX11_wind_113 hf (fun S48 H locs hf hR hS hE49 => ?_)
            have ok_this := hE49 _ _ ok_this
            have ok_q17 := hE49 _ _ ok_q17
            have ok_q20 := hE49 _ _ ok_q20
            have ok_q24 := hE49 _ _ ok_q24
            have ok_q29 := hE49 _ _ ok_q29
            have ok_q34 := hE49 _ _ ok_q34
            have ok_q39 := hE49 _ _ ok_q39
            have ok_q44 := hE49 _ _ ok_q44
            have hE := hE.tr hE49
            refine lv_aload_n hx hb dX11_wind_114 rfl (lv_at hl 1 rfl) ?_
            obtain ⟨q50, hq51, ok_q50, hf⟩ := gR_of hf
            refine gf_RX11_7 hC hR ok_this hq51 dX11_wind_115 ?_
            refine lv_iconst (v := 2) hx hb dX11_wind_118 (by decide) ?_
            obtain ⟨hi52, hf⟩ := ck_of hf
            refine r_iald hC hR ok_q50 hi52 dX11_wind_119 ?_
            refine lv_iconst (v := 1) hx hb dX11_wind_120 (by decide) ?_
            refine lv_isub hx hb dX11_wind_121 ?_
            exact r_iret hC hR hS hE hf dX11_wind_122
          · replace hf := if_t hf hc
            refine lv_iconst (v := -1) hx hb dX11_wind_50 (by decide) ?_
            exact r_iret hC hR hS hE hf dX11_wind_51
abbrev rX11_plan : Room := { frames := 2, cells := 0, slots := 0, locals := 43 }
def f_X11_plan (n : Nat) (this : Nat) (a1 : Int32) (a2 : Int32) (S : MS) : Option (Int32 × MS) :=
  cl (f_X11_isIn n a1 (0 : Int32) (39 : Int32) S) fun x4 S1 => (if x4 = 0 then zb (0 : Int32) (some ((0 : Int32), S1)) else cl (f_X11_isWind n this a2 S1) fun x8 S5 => (if x8 = 0 then zb (0 : Int32) (some ((0 : Int32), S5)) else gR S5 (mR S5 this 0) 12 fun q9 => ck (inb ((125 : Int32) + a1) (mN S5 q9)) (bd (sI S5 q9 ((125 : Int32) + a1).toNatClampNeg a2) fun S12 => zb (1 : Int32) (some ((1 : Int32), S12)))))
set_option maxRecDepth 100000 in
set_option maxHeartbeats 4000000 in
theorem c_X11_plan (l : Launch) (G : Gx) (n : Nat) (this : Nat) (a1 : Int32) (a2 : Int32) (S : MS) (ro : Int32) (So : MS) (hf : f_X11_plan n this a1 a2 S = some (ro, So)) (ok_this : Ok S this 11) : Cn G l yX11_plan cX11_plan 3 (some .boolean) rX11_plan [.ref this, .int a1, .int a2] S (some (.int ro)) So := by
  refine Cn.of (by decide) (Nat.le_of_ble_eq_true rfl) ?_
  intro p e s m args below meth c hC hname hR ls hl
  have hC : Cx G RX11 cX11_plan 3 (some .boolean) p s m args meth c := hC
  have hl : lv_has ls 3 [(0, .ref this), (1, .int a1), (2, .int a2)] := hl
  have hx := hC.x
  have hb := hC.b
  have hS : va_S (gA G) s.heap s.heap [] := va_S.rf
  have hE : Ex S S := Ex.rf S
  unfold f_X11_plan at hf
  refine lv_iload_n hx hb dX11_plan_0 rfl (lv_at hl 1 rfl) ?_
  refine lv_iconst (v := 0) hx hb dX11_plan_1 (by decide) ?_
  refine lv_bipush (v := 39) hx hb dX11_plan_2 (by decide) ?_
  obtain ⟨x4, S1, hc2, hf⟩ := cl_of hf
  refine cl_RX11_71 (As := [.int a1, .int (0 : Int32), .int (39 : Int32)]) (rest := []) hC hR hS (c_X11_isIn l G n a1 (0 : Int32) (39 : Int32) S x4 S1 hc2 ) rfl ⟨Nat.le_of_ble_eq_true rfl, Nat.le_of_ble_eq_true rfl⟩ hl.1 rfl (Nat.le_of_ble_eq_true rfl) dX11_plan_4 (Nat.zero_le _) (Nat.zero_le _) (fun H locs hR hS hE3 => ?_)
  have ok_this := hE3 _ _ ok_this
  have hE := hE.tr hE3
  refine lv_if_eq (tgt := 18) hx hb dX11_plan_7 (by decide) (fun hc => ?_) (fun hc => ?_)
  · replace hf := if_t hf hc
    refine lv_iconst (v := 0) hx hb dX11_plan_18 (by decide) ?_
    exact r_zret hC hR hS hE hf dX11_plan_19
  · replace hf := if_f hf hc
    refine lv_aload_n hx hb dX11_plan_10 rfl (lv_at hl 0 rfl) ?_
    refine lv_iload_n hx hb dX11_plan_11 rfl (lv_at hl 2 rfl) ?_
    obtain ⟨x8, S5, hc6, hf⟩ := cl_of hf
    refine cl_RX11_91 (As := [.int a2]) (rest := []) hC hR hS (c_X11_isWind l G n this a2 S1 x8 S5 hc6 ok_this) ok_this rfl ⟨Nat.le_of_ble_eq_true rfl, Nat.le_of_ble_eq_true rfl⟩ hl.1 rfl (Nat.le_of_ble_eq_true rfl) dX11_plan_12 (Nat.zero_le _) (Nat.zero_le _) (fun H locs hR hS hE7 => ?_)
    have ok_this := hE7 _ _ ok_this
    have hE := hE.tr hE7
    refine lv_if_ne (tgt := 20) hx hb dX11_plan_15 (by decide) (fun hc => ?_) (fun hc => ?_)
    · replace hf := if_f hf hc
      refine lv_aload_n hx hb dX11_plan_20 rfl (lv_at hl 0 rfl) ?_
      obtain ⟨q9, hq10, ok_q9, hf⟩ := gR_of hf
      refine gf_RX11_7 hC hR ok_this hq10 dX11_plan_21 ?_
      refine lv_bipush (v := 125) hx hb dX11_plan_24 (by decide) ?_
      refine lv_iload_n hx hb dX11_plan_26 rfl (lv_at hl 1 rfl) ?_
      refine lv_iadd hx hb dX11_plan_27 ?_
      refine lv_iload_n hx hb dX11_plan_28 rfl (lv_at hl 2 rfl) ?_
      obtain ⟨hi11, hf⟩ := ck_of hf
      refine rB_iast hC hR hS ok_q9 hi11 dX11_plan_29 hf (fun S12 H locs hf hR hS hE13 => ?_)
      have ok_this := hE13 _ _ ok_this
      have ok_q9 := hE13 _ _ ok_q9
      have hE := hE.tr hE13
      refine lv_iconst (v := 1) hx hb dX11_plan_30 (by decide) ?_
      exact r_zret hC hR hS hE hf dX11_plan_31
    · replace hf := if_t hf hc
      refine lv_iconst (v := 0) hx hb dX11_plan_18 (by decide) ?_
      exact r_zret hC hR hS hE hf dX11_plan_19
abbrev rX11_four : Room := { frames := 0, cells := 0, slots := 0, locals := 0 }
def f_X11_four_L3 (n : Nat) (this : Nat) (a1 : Int32) : Nat → Int32 → MS → Option (MS)
  | 0, _, _ => none
  | k + 1, x3, S4 => jn (f_X11_four_L3 n this a1 k) fun rec3_2 => (if x3 < 0 then some S4 else gR S4 (mR S4 this 6) 12 fun q5 => ck (inb (mI S4 this 7) (mN S4 q5)) (bd (sI S4 q5 (mI S4 this 7).toNatClampNeg ((a1 >>> (x3 &&& 31)) &&& (255 : Int32))) fun S8 => bd (sI S8 this 7 ((mI S8 this 7) + (1 : Int32))) fun S10 => bd (x3 + (-8 : Int32)) fun x12 => rec3_2 x12 S10))
def f_X11_four (n : Nat) (this : Nat) (a1 : Int32) (S : MS) : Option (MS) :=
  f_X11_four_L3 n this a1 n (24 : Int32) S
set_option maxRecDepth 100000 in
set_option maxHeartbeats 4000000 in
theorem c_X11_four (l : Launch) (G : Gx) (n : Nat) (this : Nat) (a1 : Int32) (S : MS) (So : MS) (hf : f_X11_four n this a1 S = some So) (ok_this : Ok S this 11) : Cn G l yX11_four cX11_four 3 none rX11_four [.ref this, .int a1] S none So := by
  refine Cn.of (by decide) (Nat.le_of_ble_eq_true rfl) ?_
  intro p e s m args below meth c hC hname hR ls hl
  have hC : Cx G RX11 cX11_four 3 none p s m args meth c := hC
  have hl : lv_has ls 3 [(0, .ref this), (1, .int a1)] := hl
  have hx := hC.x
  have hb := hC.b
  have hS : va_S (gA G) s.heap s.heap [] := va_S.rf
  have hE : Ex S S := Ex.rf S
  unfold f_X11_four at hf
  refine lv_bipush (v := 24) hx hb dX11_four_0 (by decide) ?_
  refine lv_istore_n (lv' := [(2, .int (24 : Int32)), (0, .ref this), (1, .int a1)]) hx hb dX11_four_2 rfl hl (by decide) rfl (fun ls hl => ?_)
  have hh13 : ∀ k : Nat, ∀ (x3 : Int32) (S4 : MS) (H : Heap) (locs : List Loc) (ls : Array Slot), f_X11_four_L3 n this a1 k x3 S4 = some So → Rp G S4 H → va_S (gA G) s.heap H locs → Ex S S4 → Ok S4 this 11 → lv_has ls 3 [(0, .ref this), (1, .int a1), (2, .int x3)] → W p l e rX11_four s m args below meth c H locs 0 0 (MQ below (Qn G S none So) args s 0 0 (gA G)) (F0 m 3 ls []) := by
    intro k
    induction k with
    | zero =>
      intro x3 S4 H locs ls hf hR hS hE ok_this hl
      exact absurd hf (by rw [f_X11_four_L3]; exact fun h => by cases h)
    | succ k ih =>
      intro x3 S4 H locs ls hf hR hS hE ok_this hl
      rw [f_X11_four_L3] at hf
      obtain ⟨rec3_2, erec3_2, hf⟩ := jn_of2 hf
      have hL3_1 : ∀ (x3 : Int32) (S4 : MS) (H : Heap) (locs : List Loc) (ls : Array Slot), rec3_2 x3 S4 = some So → Rp G S4 H → va_S (gA G) s.heap H locs → Ex S S4 → Ok S4 this 11 → lv_has ls 3 [(0, .ref this), (1, .int a1), (2, .int x3)] → W p l e rX11_four s m args below meth c H locs 0 0 (MQ below (Qn G S none So) args s 0 0 (gA G)) (F0 m 3 ls []) := by
        intro x3 S4 H locs ls hf hR hS hE ok_this hl
        rw [erec3_2] at hf
        exact ih x3 S4 _ _ _ hf hR hS hE ok_this hl
      refine lv_iload_n hx hb dX11_four_3 rfl (lv_at hl 2 rfl) ?_
      refine lv_if_lt (tgt := 39) hx hb dX11_four_4 (by decide) (fun hc => ?_) (fun hc => ?_)
      · replace hf := if_t hf hc
        exact r_vret hC hR hS hE hf dX11_four_39
      · replace hf := if_f hf hc
        refine lv_aload_n hx hb dX11_four_7 rfl (lv_at hl 0 rfl) ?_
        obtain ⟨q5, hq6, ok_q5, hf⟩ := gR_of hf
        refine gf_RX11_16 hC hR ok_this hq6 dX11_four_8 ?_
        refine lv_aload_n hx hb dX11_four_11 rfl (lv_at hl 0 rfl) ?_
        refine gf_RX11_94 hC hR ok_this dX11_four_12 ?_
        refine lv_iload_n hx hb dX11_four_15 rfl (lv_at hl 1 rfl) ?_
        refine lv_iload_n hx hb dX11_four_16 rfl (lv_at hl 2 rfl) ?_
        refine lv_ishr hx hb dX11_four_17 ?_
        refine lv_sipush (v := 255) hx hb dX11_four_18 (by decide) ?_
        refine lv_iand hx hb dX11_four_21 ?_
        obtain ⟨hi7, hf⟩ := ck_of hf
        refine rB_iast hC hR hS ok_q5 hi7 dX11_four_22 hf (fun S8 H locs hf hR hS hE9 => ?_)
        have ok_this := hE9 _ _ ok_this
        have ok_q5 := hE9 _ _ ok_q5
        have hE := hE.tr hE9
        refine lv_aload_n hx hb dX11_four_23 rfl (lv_at hl 0 rfl) ?_
        refine lv_dup hx hb dX11_four_24 rfl ?_
        refine gf_RX11_94 hC hR ok_this dX11_four_25 ?_
        refine lv_iconst (v := 1) hx hb dX11_four_28 (by decide) ?_
        refine lv_iadd hx hb dX11_four_29 ?_
        refine pf_RX11_94 hC hR hS ok_this dX11_four_30 hf (fun S10 H locs hf hR hS hE11 => ?_)
        have ok_this := hE11 _ _ ok_this
        have ok_q5 := hE11 _ _ ok_q5
        have hE := hE.tr hE11
        refine r_iinc (n := -8) (z := -8) (lv' := fun x12 => [(2, .int x12), (0, .ref this), (1, .int a1)]) hx hb dX11_four_33 hl (k := 2) rfl (by decide) (by decide) (fun _ => rfl) hf (fun x12 ls hf hl => ?_)
        refine lv_goto (tgt := 3) hx hb dX11_four_36 (by decide) ?_
        exact hL3_1 x12 S10 _ _ _ hf hR hS hE ok_this (lv_sub hl [1, 2, 0] rfl)
  exact hh13 n (24 : Int32) S _ _ _ hf hR hS hE ok_this (lv_sub hl [1, 2, 0] rfl)
abbrev rX11_feed : Room := { frames := 1, cells := 0, slots := 0, locals := 22 }
def f_X11_feed (n : Nat) (this : Nat) (a1 : Int32) (a2 : Int32) (a3 : Int32) (a4 : Int32) (a5 : Int32) (S : MS) : Option (Int32 × MS) :=
  (if ((mI S this 7) + (20 : Int32)) ≤ (300 : Int32) then cv (f_X11_four n this a1 S) fun S1 => cv (f_X11_four n this a2 S1) fun S4 => cv (f_X11_four n this a3 S4) fun S7 => cv (f_X11_four n this a4 S7) fun S10 => cv (f_X11_four n this a5 S10) fun S13 => some ((mI S13 this 7), S13) else some ((-1 : Int32), S))
set_option maxRecDepth 100000 in
set_option maxHeartbeats 4000000 in
theorem c_X11_feed (l : Launch) (G : Gx) (n : Nat) (this : Nat) (a1 : Int32) (a2 : Int32) (a3 : Int32) (a4 : Int32) (a5 : Int32) (S : MS) (ro : Int32) (So : MS) (hf : f_X11_feed n this a1 a2 a3 a4 a5 S = some (ro, So)) (ok_this : Ok S this 11) : Cn G l yX11_feed cX11_feed 6 (some .int) rX11_feed [.ref this, .int a1, .int a2, .int a3, .int a4, .int a5] S (some (.int ro)) So := by
  refine Cn.of (by decide) (Nat.le_of_ble_eq_true rfl) ?_
  intro p e s m args below meth c hC hname hR ls hl
  have hC : Cx G RX11 cX11_feed 6 (some .int) p s m args meth c := hC
  have hl : lv_has ls 6 [(0, .ref this), (1, .int a1), (2, .int a2), (3, .int a3), (4, .int a4), (5, .int a5)] := hl
  have hx := hC.x
  have hb := hC.b
  have hS : va_S (gA G) s.heap s.heap [] := va_S.rf
  have hE : Ex S S := Ex.rf S
  unfold f_X11_feed at hf
  refine lv_aload_n hx hb dX11_feed_0 rfl (lv_at hl 0 rfl) ?_
  refine gf_RX11_94 hC hR ok_this dX11_feed_1 ?_
  refine lv_bipush (v := 20) hx hb dX11_feed_4 (by decide) ?_
  refine lv_iadd hx hb dX11_feed_6 ?_
  refine lv_sipush (v := 300) hx hb dX11_feed_7 (by decide) ?_
  refine lv_icmp_le (tgt := 15) hx hb dX11_feed_10 (by decide) (fun hc => ?_) (fun hc => ?_)
  · replace hf := if_t hf hc
    refine lv_aload_n hx hb dX11_feed_15 rfl (lv_at hl 0 rfl) ?_
    refine lv_iload_n hx hb dX11_feed_16 rfl (lv_at hl 1 rfl) ?_
    obtain ⟨S1, hc2, hf⟩ := cv_of hf
    refine cl_RX11_97 (As := [.int a1]) (rest := []) hC hR hS (c_X11_four l G n this a1 S S1 hc2 ok_this) ok_this rfl ⟨Nat.le_of_ble_eq_true rfl, Nat.le_of_ble_eq_true rfl⟩ hl.1 rfl (Nat.le_of_ble_eq_true rfl) dX11_feed_17 (Nat.zero_le _) (Nat.zero_le _) (fun H locs hR hS hE3 => ?_)
    have ok_this := hE3 _ _ ok_this
    have hE := hE.tr hE3
    refine lv_aload_n hx hb dX11_feed_20 rfl (lv_at hl 0 rfl) ?_
    refine lv_iload_n hx hb dX11_feed_21 rfl (lv_at hl 2 rfl) ?_
    obtain ⟨S4, hc5, hf⟩ := cv_of hf
    refine cl_RX11_97 (As := [.int a2]) (rest := []) hC hR hS (c_X11_four l G n this a2 S1 S4 hc5 ok_this) ok_this rfl ⟨Nat.le_of_ble_eq_true rfl, Nat.le_of_ble_eq_true rfl⟩ hl.1 rfl (Nat.le_of_ble_eq_true rfl) dX11_feed_22 (Nat.zero_le _) (Nat.zero_le _) (fun H locs hR hS hE6 => ?_)
    have ok_this := hE6 _ _ ok_this
    have hE := hE.tr hE6
    refine lv_aload_n hx hb dX11_feed_25 rfl (lv_at hl 0 rfl) ?_
    refine lv_iload_n hx hb dX11_feed_26 rfl (lv_at hl 3 rfl) ?_
    obtain ⟨S7, hc8, hf⟩ := cv_of hf
    refine cl_RX11_97 (As := [.int a3]) (rest := []) hC hR hS (c_X11_four l G n this a3 S4 S7 hc8 ok_this) ok_this rfl ⟨Nat.le_of_ble_eq_true rfl, Nat.le_of_ble_eq_true rfl⟩ hl.1 rfl (Nat.le_of_ble_eq_true rfl) dX11_feed_27 (Nat.zero_le _) (Nat.zero_le _) (fun H locs hR hS hE9 => ?_)
    have ok_this := hE9 _ _ ok_this
    have hE := hE.tr hE9
    refine lv_aload_n hx hb dX11_feed_30 rfl (lv_at hl 0 rfl) ?_
    refine lv_iload hx hb dX11_feed_31 (lv_at hl 4 rfl) ?_
    obtain ⟨S10, hc11, hf⟩ := cv_of hf
    refine cl_RX11_97 (As := [.int a4]) (rest := []) hC hR hS (c_X11_four l G n this a4 S7 S10 hc11 ok_this) ok_this rfl ⟨Nat.le_of_ble_eq_true rfl, Nat.le_of_ble_eq_true rfl⟩ hl.1 rfl (Nat.le_of_ble_eq_true rfl) dX11_feed_33 (Nat.zero_le _) (Nat.zero_le _) (fun H locs hR hS hE12 => ?_)
    have ok_this := hE12 _ _ ok_this
    have hE := hE.tr hE12
    refine lv_aload_n hx hb dX11_feed_36 rfl (lv_at hl 0 rfl) ?_
    refine lv_iload hx hb dX11_feed_37 (lv_at hl 5 rfl) ?_
    obtain ⟨S13, hc14, hf⟩ := cv_of hf
    refine cl_RX11_97 (As := [.int a5]) (rest := []) hC hR hS (c_X11_four l G n this a5 S10 S13 hc14 ok_this) ok_this rfl ⟨Nat.le_of_ble_eq_true rfl, Nat.le_of_ble_eq_true rfl⟩ hl.1 rfl (Nat.le_of_ble_eq_true rfl) dX11_feed_39 (Nat.zero_le _) (Nat.zero_le _) (fun H locs hR hS hE15 => ?_)
    have ok_this := hE15 _ _ ok_this
    have hE := hE.tr hE15
    refine lv_aload_n hx hb dX11_feed_42 rfl (lv_at hl 0 rfl) ?_
    refine gf_RX11_94 hC hR ok_this dX11_feed_43 ?_
    exact r_iret hC hR hS hE hf dX11_feed_46
  · replace hf := if_f hf hc
    refine lv_iconst (v := -1) hx hb dX11_feed_13 (by decide) ?_
    exact r_iret hC hR hS hE hf dX11_feed_14
abbrev rX11_end : Room := { frames := 1, cells := 0, slots := 0, locals := 22 }
def f_X11_end (n : Nat) (this : Nat) (a1 : Int32) (S : MS) : Option (Int32 × MS) :=
  cl (f_X11_isIn n a1 (0 : Int32) (mI S this 7) S) fun x4 S1 => (if x4 = 0 then some ((-1 : Int32), S1) else bd (sI S1 this 7 a1) fun S5 => some (a1, S5))
set_option maxRecDepth 100000 in
set_option maxHeartbeats 4000000 in
theorem c_X11_end (l : Launch) (G : Gx) (n : Nat) (this : Nat) (a1 : Int32) (S : MS) (ro : Int32) (So : MS) (hf : f_X11_end n this a1 S = some (ro, So)) (ok_this : Ok S this 11) : Cn G l yX11_end cX11_end 2 (some .int) rX11_end [.ref this, .int a1] S (some (.int ro)) So := by
  refine Cn.of (by decide) (Nat.le_of_ble_eq_true rfl) ?_
  intro p e s m args below meth c hC hname hR ls hl
  have hC : Cx G RX11 cX11_end 2 (some .int) p s m args meth c := hC
  have hl : lv_has ls 2 [(0, .ref this), (1, .int a1)] := hl
  have hx := hC.x
  have hb := hC.b
  have hS : va_S (gA G) s.heap s.heap [] := va_S.rf
  have hE : Ex S S := Ex.rf S
  unfold f_X11_end at hf
  refine lv_iload_n hx hb dX11_end_0 rfl (lv_at hl 1 rfl) ?_
  refine lv_iconst (v := 0) hx hb dX11_end_1 (by decide) ?_
  refine lv_aload_n hx hb dX11_end_2 rfl (lv_at hl 0 rfl) ?_
  refine gf_RX11_94 hC hR ok_this dX11_end_3 ?_
  obtain ⟨x4, S1, hc2, hf⟩ := cl_of hf
  refine cl_RX11_71 (As := [.int a1, .int (0 : Int32), .int (mI S this 7)]) (rest := []) hC hR hS (c_X11_isIn l G n a1 (0 : Int32) (mI S this 7) S x4 S1 hc2 ) rfl ⟨Nat.le_of_ble_eq_true rfl, Nat.le_of_ble_eq_true rfl⟩ hl.1 rfl (Nat.le_of_ble_eq_true rfl) dX11_end_6 (Nat.zero_le _) (Nat.zero_le _) (fun H locs hR hS hE3 => ?_)
  have ok_this := hE3 _ _ ok_this
  have hE := hE.tr hE3
  refine lv_if_ne (tgt := 14) hx hb dX11_end_9 (by decide) (fun hc => ?_) (fun hc => ?_)
  · replace hf := if_f hf hc
    refine lv_aload_n hx hb dX11_end_14 rfl (lv_at hl 0 rfl) ?_
    refine lv_iload_n hx hb dX11_end_15 rfl (lv_at hl 1 rfl) ?_
    refine pf_RX11_94 hC hR hS ok_this dX11_end_16 hf (fun S5 H locs hf hR hS hE6 => ?_)
    have ok_this := hE6 _ _ ok_this
    have hE := hE.tr hE6
    refine lv_iload_n hx hb dX11_end_19 rfl (lv_at hl 1 rfl) ?_
    exact r_iret hC hR hS hE hf dX11_end_20
  · replace hf := if_t hf hc
    refine lv_iconst (v := -1) hx hb dX11_end_12 (by decide) ?_
    exact r_iret hC hR hS hE hf dX11_end_13
abbrev rX11_byteAt : Room := { frames := 0, cells := 0, slots := 0, locals := 0 }
def f_X11_byteAt (_n : Nat) (this : Nat) (a1 : Int32) (S : MS) : Option (Int32 × MS) :=
  (if (mI S this 7) ≤ a1 then some ((-1 : Int32), S) else gR S (mR S this 6) 12 fun q1 => ck (inb a1 (mN S q1)) (some ((mI S q1 a1.toNatClampNeg), S)))
set_option maxRecDepth 100000 in
set_option maxHeartbeats 4000000 in
theorem c_X11_byteAt (l : Launch) (G : Gx) (n : Nat) (this : Nat) (a1 : Int32) (S : MS) (ro : Int32) (So : MS) (hf : f_X11_byteAt n this a1 S = some (ro, So)) (ok_this : Ok S this 11) : Cn G l yX11_byteAt cX11_byteAt 2 (some .int) rX11_byteAt [.ref this, .int a1] S (some (.int ro)) So := by
  refine Cn.of (by decide) (Nat.le_of_ble_eq_true rfl) ?_
  intro p e s m args below meth c hC hname hR ls hl
  have hC : Cx G RX11 cX11_byteAt 2 (some .int) p s m args meth c := hC
  have hl : lv_has ls 2 [(0, .ref this), (1, .int a1)] := hl
  have hx := hC.x
  have hb := hC.b
  have hS : va_S (gA G) s.heap s.heap [] := va_S.rf
  have hE : Ex S S := Ex.rf S
  unfold f_X11_byteAt at hf
  refine lv_iload_n hx hb dX11_byteAt_0 rfl (lv_at hl 1 rfl) ?_
  refine lv_aload_n hx hb dX11_byteAt_1 rfl (lv_at hl 0 rfl) ?_
  refine gf_RX11_94 hC hR ok_this dX11_byteAt_2 ?_
  refine lv_icmp_ge (tgt := 17) hx hb dX11_byteAt_5 (by decide) (fun hc => ?_) (fun hc => ?_)
  · replace hf := if_t hf hc
    refine lv_iconst (v := -1) hx hb dX11_byteAt_17 (by decide) ?_
    exact r_iret hC hR hS hE hf dX11_byteAt_18
  · replace hf := if_f hf hc
    refine lv_aload_n hx hb dX11_byteAt_8 rfl (lv_at hl 0 rfl) ?_
    obtain ⟨q1, hq2, ok_q1, hf⟩ := gR_of hf
    refine gf_RX11_16 hC hR ok_this hq2 dX11_byteAt_9 ?_
    refine lv_iload_n hx hb dX11_byteAt_12 rfl (lv_at hl 1 rfl) ?_
    obtain ⟨hi3, hf⟩ := ck_of hf
    refine r_iald hC hR ok_q1 hi3 dX11_byteAt_13 ?_
    refine lv_goto (tgt := 18) hx hb dX11_byteAt_14 (by decide) ?_
    exact r_iret hC hR hS hE hf dX11_byteAt_18
abbrev rX11_isLetter : Room := { frames := 1, cells := 0, slots := 0, locals := 22 }
def f_X11_isLetter (n : Nat) (a1 : Int32) (S : MS) : Option (Int32 × MS) :=
  cl (f_X11_isIn n a1 (97 : Int32) (122 : Int32) S) fun x4 S1 => (if x4 = 0 then cl (f_X11_isIn n a1 (65 : Int32) (90 : Int32) S1) fun x8 S5 => (if x8 = 0 then zb (0 : Int32) (some ((0 : Int32), S5)) else zb (1 : Int32) (some ((1 : Int32), S5))) else zb (1 : Int32) (some ((1 : Int32), S1)))
set_option maxRecDepth 100000 in
set_option maxHeartbeats 4000000 in
theorem c_X11_isLetter (l : Launch) (G : Gx) (n : Nat) (a1 : Int32) (S : MS) (ro : Int32) (So : MS) (hf : f_X11_isLetter n a1 S = some (ro, So)) : Cn G l yX11_isLetter cX11_isLetter 1 (some .boolean) rX11_isLetter [.int a1] S (some (.int ro)) So := by
  refine Cn.of (by decide) (Nat.le_of_ble_eq_true rfl) ?_
  intro p e s m args below meth c hC hname hR ls hl
  have hC : Cx G RX11 cX11_isLetter 1 (some .boolean) p s m args meth c := hC
  have hl : lv_has ls 1 [(0, .int a1)] := hl
  have hx := hC.x
  have hb := hC.b
  have hS : va_S (gA G) s.heap s.heap [] := va_S.rf
  have hE : Ex S S := Ex.rf S
  unfold f_X11_isLetter at hf
  refine lv_iload_n hx hb dX11_isLetter_0 rfl (lv_at hl 0 rfl) ?_
  refine lv_bipush (v := 97) hx hb dX11_isLetter_1 (by decide) ?_
  refine lv_bipush (v := 122) hx hb dX11_isLetter_3 (by decide) ?_
  obtain ⟨x4, S1, hc2, hf⟩ := cl_of hf
  refine cl_RX11_71 (As := [.int a1, .int (97 : Int32), .int (122 : Int32)]) (rest := []) hC hR hS (c_X11_isIn l G n a1 (97 : Int32) (122 : Int32) S x4 S1 hc2 ) rfl ⟨Nat.le_of_ble_eq_true rfl, Nat.le_of_ble_eq_true rfl⟩ hl.1 rfl (Nat.le_of_ble_eq_true rfl) dX11_isLetter_5 (Nat.zero_le _) (Nat.zero_le _) (fun H locs hR hS hE3 => ?_)
  have hE := hE.tr hE3
  refine lv_if_ne (tgt := 22) hx hb dX11_isLetter_8 (by decide) (fun hc => ?_) (fun hc => ?_)
  · replace hf := if_f hf hc
    refine lv_iconst (v := 1) hx hb dX11_isLetter_22 (by decide) ?_
    refine lv_goto (tgt := 27) hx hb dX11_isLetter_23 (by decide) ?_
    exact r_zret hC hR hS hE hf dX11_isLetter_27
  · replace hf := if_t hf hc
    refine lv_iload_n hx hb dX11_isLetter_11 rfl (lv_at hl 0 rfl) ?_
    refine lv_bipush (v := 65) hx hb dX11_isLetter_12 (by decide) ?_
    refine lv_bipush (v := 90) hx hb dX11_isLetter_14 (by decide) ?_
    obtain ⟨x8, S5, hc6, hf⟩ := cl_of hf
    refine cl_RX11_71 (As := [.int a1, .int (65 : Int32), .int (90 : Int32)]) (rest := []) hC hR hS (c_X11_isIn l G n a1 (65 : Int32) (90 : Int32) S1 x8 S5 hc6 ) rfl ⟨Nat.le_of_ble_eq_true rfl, Nat.le_of_ble_eq_true rfl⟩ hl.1 rfl (Nat.le_of_ble_eq_true rfl) dX11_isLetter_16 (Nat.zero_le _) (Nat.zero_le _) (fun H locs hR hS hE7 => ?_)
    have hE := hE.tr hE7
    refine lv_if_eq (tgt := 26) hx hb dX11_isLetter_19 (by decide) (fun hc => ?_) (fun hc => ?_)
    · replace hf := if_t hf hc
      refine lv_iconst (v := 0) hx hb dX11_isLetter_26 (by decide) ?_
      exact r_zret hC hR hS hE hf dX11_isLetter_27
    · replace hf := if_f hf hc
      refine lv_iconst (v := 1) hx hb dX11_isLetter_22 (by decide) ?_
      refine lv_goto (tgt := 27) hx hb dX11_isLetter_23 (by decide) ?_
      exact r_zret hC hR hS hE hf dX11_isLetter_27
abbrev rX11_isDigit : Room := { frames := 1, cells := 0, slots := 0, locals := 22 }
def f_X11_isDigit (n : Nat) (a1 : Int32) (S : MS) : Option (Int32 × MS) :=
  cl (f_X11_isIn n a1 (48 : Int32) (57 : Int32) S) fun x4 S1 => zb x4 (some (x4, S1))
set_option maxRecDepth 100000 in
set_option maxHeartbeats 4000000 in
theorem c_X11_isDigit (l : Launch) (G : Gx) (n : Nat) (a1 : Int32) (S : MS) (ro : Int32) (So : MS) (hf : f_X11_isDigit n a1 S = some (ro, So)) : Cn G l yX11_isDigit cX11_isDigit 1 (some .boolean) rX11_isDigit [.int a1] S (some (.int ro)) So := by
  refine Cn.of (by decide) (Nat.le_of_ble_eq_true rfl) ?_
  intro p e s m args below meth c hC hname hR ls hl
  have hC : Cx G RX11 cX11_isDigit 1 (some .boolean) p s m args meth c := hC
  have hl : lv_has ls 1 [(0, .int a1)] := hl
  have hx := hC.x
  have hb := hC.b
  have hS : va_S (gA G) s.heap s.heap [] := va_S.rf
  have hE : Ex S S := Ex.rf S
  unfold f_X11_isDigit at hf
  refine lv_iload_n hx hb dX11_isDigit_0 rfl (lv_at hl 0 rfl) ?_
  refine lv_bipush (v := 48) hx hb dX11_isDigit_1 (by decide) ?_
  refine lv_bipush (v := 57) hx hb dX11_isDigit_3 (by decide) ?_
  obtain ⟨x4, S1, hc2, hf⟩ := cl_of hf
  refine cl_RX11_71 (As := [.int a1, .int (48 : Int32), .int (57 : Int32)]) (rest := []) hC hR hS (c_X11_isIn l G n a1 (48 : Int32) (57 : Int32) S x4 S1 hc2 ) rfl ⟨Nat.le_of_ble_eq_true rfl, Nat.le_of_ble_eq_true rfl⟩ hl.1 rfl (Nat.le_of_ble_eq_true rfl) dX11_isDigit_5 (Nat.zero_le _) (Nat.zero_le _) (fun H locs hR hS hE3 => ?_)
  have hE := hE.tr hE3
  exact r_zret hC hR hS hE hf dX11_isDigit_8
abbrev rX11_nextToken : Room := { frames := 2, cells := 0, slots := 0, locals := 42 }
def f_X11_nextToken_L161 (n : Nat) (this : Nat) (j223_59 : MS → Option (MS)) : Nat → MS → Option (MS)
  | 0, _ => none
  | k + 1, S65 => jn (f_X11_nextToken_L161 n this j223_59 k) fun rec161_64 => cl (f_X11_byteAt n this (mI S65 this 10) S65) fun x69 S66 => cl (f_X11_isLetter n x69 S66) fun x73 S70 => (if x73 = 0 then j223_59 S70 else jn (fun (S76 : MS) => bd (sI S76 this 10 ((mI S76 this 10) + (1 : Int32))) fun S77 => rec161_64 S77) fun j210_75 => (if (7 : Int32) ≤ ((mI S70 this 10) - (mI S70 this 11)) then j210_75 S70 else cl (f_X11_byteAt n this (mI S70 this 10) S70) fun x82 S79 => bd (sJ S79 this 14 ((lsh (mJ S70 this 14) (8 : Int32)) ||| (x82.toInt64))) fun S83 => j210_75 S83))
def f_X11_nextToken_L85 (n : Nat) (this : Nat) : Nat → MS → Option (MS)
  | 0, _ => none
  | k + 1, S94 => jn (f_X11_nextToken_L85 n this k) fun rec85_93 => cl (f_X11_byteAt n this (mI S94 this 10) S94) fun x98 S95 => cl (f_X11_isDigit n x98 S95) fun x102 S99 => (if x102 = 0 then some S99 else jn (fun (S105 : MS) => bd (sI S105 this 10 ((mI S105 this 10) + (1 : Int32))) fun S106 => rec85_93 S106) fun j131_104 => (if (100000 : Int32) ≤ (mI S99 this 13) then j131_104 S99 else cl (f_X11_byteAt n this (mI S99 this 10) S99) fun x111 S108 => bd (sI S108 this 13 ((((10 : Int32) * (mI S99 this 13)) + x111) - (48 : Int32))) fun S112 => j131_104 S112))
def f_X11_nextToken_L0 (n : Nat) (this : Nat) (j39_2 : MS → Option (MS)) : Nat → MS → Option (MS)
  | 0, _ => none
  | k + 1, S120 => jn (f_X11_nextToken_L0 n this j39_2 k) fun rec0_119 => cl (f_X11_byteAt n this (mI S120 this 10) S120) fun x124 S121 => jn (fun (S127 : MS) => bd (sI S127 this 10 ((mI S127 this 10) + (1 : Int32))) fun S128 => rec0_119 S128) fun j26_126 => (if x124 = (32 : Int32) then j26_126 S121 else cl (f_X11_byteAt n this (mI S121 this 10) S121) fun x133 S130 => (if x133 = (10 : Int32) then j26_126 S130 else j39_2 S130))
def f_X11_nextToken (n : Nat) (this : Nat) (S : MS) : Option (MS) :=
  jn (fun (S3 : MS) => bd (sI S3 this 11 (mI S3 this 10)) fun S4 => cl (f_X11_byteAt n this (mI S4 this 10) S4) fun x9 S6 => (if 0 ≤ x9 then cl (f_X11_isDigit n x9 S6) fun x13 S10 => (if x13 = 0 then cl (f_X11_isLetter n x9 S10) fun x17 S14 => (if x17 = 0 then bd (sI S14 this 10 ((mI S14 this 10) + (1 : Int32))) fun S18 => jn (fun (x22 : Int32) (S23 : MS) => jn (fun (q26 : Nat) (x27 : Int32) (S28 : MS) => bd (sI S28 q26 12 x27) fun S29 => jn (fun (S33 : MS) => cl (f_X11_byteAt n this (mI S33 this 10) S33) fun x37 S34 => (if x37 = (61 : Int32) then bd (sI S34 this 10 ((mI S34 this 10) + (1 : Int32))) fun S38 => (if x9 = (60 : Int32) then bd (sI S38 this 12 (4 : Int32)) fun S42 => some S42 else bd (sI S38 this 12 (5 : Int32)) fun S40 => some S40) else some S34)) fun j358_32 => (if x9 = (60 : Int32) then j358_32 S29 else (if x9 = (62 : Int32) then j358_32 S29 else some S29))) fun j343_25 => (if x22 = 0 then j343_25 this (3 : Int32) S23 else j343_25 this x9 S23)) fun j332_21 => jn (fun (S50 : MS) => j332_21 (1 : Int32) S50) fun j327_49 => (if x9 = (60 : Int32) then j327_49 S18 else (if x9 = (62 : Int32) then j327_49 S18 else (if x9 = (61 : Int32) then j327_49 S18 else (if x9 = (35 : Int32) then j327_49 S18 else (if x9 = (43 : Int32) then j327_49 S18 else (if x9 = (45 : Int32) then j327_49 S18 else (if x9 = (42 : Int32) then j327_49 S18 else (if x9 = (47 : Int32) then j327_49 S18 else (if x9 = (40 : Int32) then j327_49 S18 else (if x9 = (41 : Int32) then j327_49 S18 else (if x9 = (59 : Int32) then j327_49 S18 else (if x9 = (44 : Int32) then j327_49 S18 else j332_21 (0 : Int32) S18)))))))))))) else bd (sI S14 this 12 (2 : Int32)) fun S54 => bd (sJ S54 this 14 (0 : Int64)) fun S56 => jn (fun (S60 : MS) => (if ((mI S60 this 10) - (mI S60 this 11)) ≤ (7 : Int32) then some S60 else bd (sJ S60 this 14 (0 : Int64)) fun S61 => some S61)) fun j223_59 => f_X11_nextToken_L161 n this j223_59 n S56) else bd (sI S10 this 12 (1 : Int32)) fun S88 => bd (sI S88 this 13 (0 : Int32)) fun S90 => f_X11_nextToken_L85 n this n S90) else bd (sI S6 this 12 (0 : Int32)) fun S116 => some S116)) fun j39_2 => f_X11_nextToken_L0 n this j39_2 n S
set_option maxRecDepth 100000 in
set_option maxHeartbeats 4000000 in
theorem c_X11_nextToken (l : Launch) (G : Gx) (n : Nat) (this : Nat) (S : MS) (So : MS) (hf : f_X11_nextToken n this S = some So) (ok_this : Ok S this 11) : Cn G l yX11_nextToken cX11_nextToken 3 none rX11_nextToken [.ref this] S none So := by
  refine Cn.of (by decide) (Nat.le_of_ble_eq_true rfl) ?_
  intro p e s m args below meth c hC hname hR ls hl
  have hC : Cx G RX11 cX11_nextToken 3 none p s m args meth c := hC
  have hl : lv_has ls 3 [(0, .ref this)] := hl
  have hx := hC.x
  have hb := hC.b
  have hS : va_S (gA G) s.heap s.heap [] := va_S.rf
  have hE : Ex S S := Ex.rf S
  unfold f_X11_nextToken at hf
  obtain ⟨j39_2, ej39_2, hf⟩ := jn_of1 hf
  have hj39_1 : ∀ (S3 : MS) (H : Heap) (locs : List Loc) (ls : Array Slot), j39_2 S3 = some So → Rp G S3 H → va_S (gA G) s.heap H locs → Ex S S3 → Ok S3 this 11 → lv_has ls 3 [(0, .ref this)] → W p l e rX11_nextToken s m args below meth c H locs 0 0 (MQ below (Qn G S none So) args s 0 0 (gA G)) (F0 m 39 ls []) := by
    intro S3 H locs ls hf hR hS hE ok_this hl
    rw [ej39_2] at hf
    refine lv_aload_n hx hb dX11_nextToken_39 rfl (lv_at hl 0 rfl) ?_
    refine lv_aload_n hx hb dX11_nextToken_40 rfl (lv_at hl 0 rfl) ?_
    refine gf_RX11_101 hC hR ok_this dX11_nextToken_41 ?_
    refine pf_RX11_108 hC hR hS ok_this dX11_nextToken_44 hf (fun S4 H locs hf hR hS hE5 => ?_)
    have ok_this := hE5 _ _ ok_this
    have hE := hE.tr hE5
    refine lv_aload_n hx hb dX11_nextToken_47 rfl (lv_at hl 0 rfl) ?_
    refine lv_aload_n hx hb dX11_nextToken_48 rfl (lv_at hl 0 rfl) ?_
    refine gf_RX11_101 hC hR ok_this dX11_nextToken_49 ?_
    obtain ⟨x9, S6, hc7, hf⟩ := cl_of hf
    refine cl_RX11_104 (As := [.int (mI S4 this 10)]) (rest := []) hC hR hS (c_X11_byteAt l G n this (mI S4 this 10) S4 x9 S6 hc7 ok_this) ok_this rfl ⟨Nat.le_of_ble_eq_true rfl, Nat.le_of_ble_eq_true rfl⟩ hl.1 rfl (Nat.le_of_ble_eq_true rfl) dX11_nextToken_52 (Nat.zero_le _) (Nat.zero_le _) (fun H locs hR hS hE8 => ?_)
    have ok_this := hE8 _ _ ok_this
    have hE := hE.tr hE8
    refine lv_istore_n (lv' := [(1, .int x9), (0, .ref this)]) hx hb dX11_nextToken_55 rfl hl (by decide) rfl (fun ls hl => ?_)
    refine lv_iload_n hx hb dX11_nextToken_56 rfl (lv_at hl 0 rfl) ?_
    refine lv_if_ge (tgt := 68) hx hb dX11_nextToken_57 (by decide) (fun hc => ?_) (fun hc => ?_)
    · replace hf := if_t hf hc
      refine lv_iload_n hx hb dX11_nextToken_68 rfl (lv_at hl 0 rfl) ?_
      obtain ⟨x13, S10, hc11, hf⟩ := cl_of hf
      refine cl_RX11_114 (As := [.int x9]) (rest := []) hC hR hS (c_X11_isDigit l G n x9 S6 x13 S10 hc11 ) rfl ⟨Nat.le_of_ble_eq_true rfl, Nat.le_of_ble_eq_true rfl⟩ hl.1 rfl (Nat.le_of_ble_eq_true rfl) dX11_nextToken_69 (Nat.zero_le _) (Nat.zero_le _) (fun H locs hR hS hE12 => ?_)
      have ok_this := hE12 _ _ ok_this
      have hE := hE.tr hE12
      refine lv_if_eq (tgt := 144) hx hb dX11_nextToken_72 (by decide) (fun hc => ?_) (fun hc => ?_)
      · replace hf := if_t hf hc
        refine lv_iload_n hx hb dX11_nextToken_144 rfl (lv_at hl 0 rfl) ?_
        obtain ⟨x17, S14, hc15, hf⟩ := cl_of hf
        refine cl_RX11_121 (As := [.int x9]) (rest := []) hC hR hS (c_X11_isLetter l G n x9 S10 x17 S14 hc15 ) rfl ⟨Nat.le_of_ble_eq_true rfl, Nat.le_of_ble_eq_true rfl⟩ hl.1 rfl (Nat.le_of_ble_eq_true rfl) dX11_nextToken_145 (Nat.zero_le _) (Nat.zero_le _) (fun H locs hR hS hE16 => ?_)
        have ok_this := hE16 _ _ ok_this
        have hE := hE.tr hE16
        refine lv_if_eq (tgt := 245) hx hb dX11_nextToken_148 (by decide) (fun hc => ?_) (fun hc => ?_)
        · replace hf := if_t hf hc
          refine lv_aload_n hx hb dX11_nextToken_245 rfl (lv_at hl 1 rfl) ?_
          refine lv_dup hx hb dX11_nextToken_246 rfl ?_
          refine gf_RX11_101 hC hR ok_this dX11_nextToken_247 ?_
          refine lv_iconst (v := 1) hx hb dX11_nextToken_250 (by decide) ?_
          refine lv_iadd hx hb dX11_nextToken_251 ?_
          refine pf_RX11_101 hC hR hS ok_this dX11_nextToken_252 hf (fun S18 H locs hf hR hS hE19 => ?_)
          have ok_this := hE19 _ _ ok_this
          have hE := hE.tr hE19
          refine lv_iload_n hx hb dX11_nextToken_255 rfl (lv_at hl 0 rfl) ?_
          refine lv_bipush (v := 60) hx hb dX11_nextToken_256 (by decide) ?_
          obtain ⟨j332_21, ej332_21, hf⟩ := jn_of2 hf
          have hj332_20 : ∀ (x22 : Int32) (S23 : MS) (H : Heap) (locs : List Loc) (ls : Array Slot), j332_21 x22 S23 = some So → Rp G S23 H → va_S (gA G) s.heap H locs → Ex S S23 → Ok S23 this 11 → lv_has ls 3 [(0, .ref this), (1, .int x9)] → W p l e rX11_nextToken s m args below meth c H locs 0 0 (MQ below (Qn G S none So) args s 0 0 (gA G)) (F0 m 332 ls [.int x22]) := by
            intro x22 S23 H locs ls hf hR hS hE ok_this hl
            rw [ej332_21] at hf
            refine lv_istore_n (lv' := [(2, .int x22), (0, .ref this), (1, .int x9)]) hx hb dX11_nextToken_332 rfl hl (by decide) rfl (fun ls hl => ?_)
            refine lv_aload_n hx hb dX11_nextToken_333 rfl (lv_at hl 1 rfl) ?_
            refine lv_iload_n hx hb dX11_nextToken_334 rfl (lv_at hl 0 rfl) ?_
            obtain ⟨j343_25, ej343_25, hf⟩ := jn_of3 hf
            have hj343_24 : ∀ (q26 : Nat) (x27 : Int32) (S28 : MS) (H : Heap) (locs : List Loc) (ls : Array Slot), j343_25 q26 x27 S28 = some So → Rp G S28 H → va_S (gA G) s.heap H locs → Ex S S28 → Ok S28 this 11 → Ok S28 q26 11 → lv_has ls 3 [(0, .ref this), (1, .int x9)] → W p l e rX11_nextToken s m args below meth c H locs 0 0 (MQ below (Qn G S none So) args s 0 0 (gA G)) (F0 m 343 ls [.int x27, .ref q26]) := by
              intro q26 x27 S28 H locs ls hf hR hS hE ok_this ok_q26 hl
              rw [ej343_25] at hf
              refine pf_RX11_111 hC hR hS ok_q26 dX11_nextToken_343 hf (fun S29 H locs hf hR hS hE30 => ?_)
              have ok_this := hE30 _ _ ok_this
              have ok_q26 := hE30 _ _ ok_q26
              have hE := hE.tr hE30
              refine lv_iload_n hx hb dX11_nextToken_346 rfl (lv_at hl 1 rfl) ?_
              refine lv_bipush (v := 60) hx hb dX11_nextToken_347 (by decide) ?_
              obtain ⟨j358_32, ej358_32, hf⟩ := jn_of1 hf
              have hj358_31 : ∀ (S33 : MS) (H : Heap) (locs : List Loc) (ls : Array Slot), j358_32 S33 = some So → Rp G S33 H → va_S (gA G) s.heap H locs → Ex S S33 → Ok S33 this 11 → lv_has ls 3 [(0, .ref this), (1, .int x9)] → W p l e rX11_nextToken s m args below meth c H locs 0 0 (MQ below (Qn G S none So) args s 0 0 (gA G)) (F0 m 358 ls []) := by
                intro S33 H locs ls hf hR hS hE ok_this hl
                rw [ej358_32] at hf
                refine lv_aload_n hx hb dX11_nextToken_358 rfl (lv_at hl 0 rfl) ?_
                refine lv_aload_n hx hb dX11_nextToken_359 rfl (lv_at hl 0 rfl) ?_
                refine gf_RX11_101 hC hR ok_this dX11_nextToken_360 ?_
                obtain ⟨x37, S34, hc35, hf⟩ := cl_of hf
                refine cl_RX11_104 (As := [.int (mI S33 this 10)]) (rest := []) hC hR hS (c_X11_byteAt l G n this (mI S33 this 10) S33 x37 S34 hc35 ok_this) ok_this rfl ⟨Nat.le_of_ble_eq_true rfl, Nat.le_of_ble_eq_true rfl⟩ hl.1 rfl (Nat.le_of_ble_eq_true rfl) dX11_nextToken_363 (Nat.zero_le _) (Nat.zero_le _) (fun H locs hR hS hE36 => ?_)
                have ok_this := hE36 _ _ ok_this
                have hE := hE.tr hE36
                refine lv_bipush (v := 61) hx hb dX11_nextToken_366 (by decide) ?_
                refine lv_icmp_ne (tgt := 396) hx hb dX11_nextToken_368 (by decide) (fun hc => ?_) (fun hc => ?_)
                · replace hf := if_f hf hc
                  exact r_vret hC hR hS hE hf dX11_nextToken_396
                · replace hf := if_t hf hc
                  refine lv_aload_n hx hb dX11_nextToken_371 rfl (lv_at hl 0 rfl) ?_
                  refine lv_dup hx hb dX11_nextToken_372 rfl ?_
                  refine gf_RX11_101 hC hR ok_this dX11_nextToken_373 ?_
                  refine lv_iconst (v := 1) hx hb dX11_nextToken_376 (by decide) ?_
                  refine lv_iadd hx hb dX11_nextToken_377 ?_
                  refine pf_RX11_101 hC hR hS ok_this dX11_nextToken_378 hf (fun S38 H locs hf hR hS hE39 => ?_)
                  have ok_this := hE39 _ _ ok_this
                  have hE := hE.tr hE39
                  refine lv_aload_n hx hb dX11_nextToken_381 rfl (lv_at hl 0 rfl) ?_
                  refine lv_iload_n hx hb dX11_nextToken_382 rfl (lv_at hl 1 rfl) ?_
                  refine lv_bipush (v := 60) hx hb dX11_nextToken_383 (by decide) ?_
                  refine lv_icmp_ne (tgt := 392) hx hb dX11_nextToken_385 (by decide) (fun hc => ?_) (fun hc => ?_)
                  · replace hf := if_f hf hc
                    refine lv_iconst (v := 5) hx hb dX11_nextToken_392 (by decide) ?_
                    refine pf_RX11_111 hC hR hS ok_this dX11_nextToken_393 hf (fun S40 H locs hf hR hS hE41 => ?_)
                    have ok_this := hE41 _ _ ok_this
                    have hE := hE.tr hE41
                    exact r_vret hC hR hS hE hf dX11_nextToken_396
                  · replace hf := if_t hf hc
                    refine lv_iconst (v := 4) hx hb dX11_nextToken_388 (by decide) ?_
                    refine lv_goto (tgt := 393) hx hb dX11_nextToken_389 (by decide) ?_
                    refine pf_RX11_111 hC hR hS ok_this dX11_nextToken_393 hf (fun S42 H locs hf hR hS hE43 => ?_)
                    have ok_this := hE43 _ _ ok_this
                    have hE := hE.tr hE43
                    exact r_vret hC hR hS hE hf dX11_nextToken_396
              refine lv_icmp_eq (tgt := 358) hx hb dX11_nextToken_349 (by decide) (fun hc => ?_) (fun hc => ?_)
              · replace hf := if_t hf hc
                exact hj358_31 S29 _ _ _ hf hR hS hE ok_this (lv_sub hl [0, 1] rfl)
              · replace hf := if_f hf hc
                refine lv_iload_n hx hb dX11_nextToken_352 rfl (lv_at hl 1 rfl) ?_
                refine lv_bipush (v := 62) hx hb dX11_nextToken_353 (by decide) ?_
                refine lv_icmp_ne (tgt := 396) hx hb dX11_nextToken_355 (by decide) (fun hc => ?_) (fun hc => ?_)
                · replace hf := if_f hf hc
                  exact r_vret hC hR hS hE hf dX11_nextToken_396
                · replace hf := if_t hf hc
                  exact hj358_31 S29 _ _ _ hf hR hS hE ok_this (lv_sub hl [0, 1] rfl)
            refine lv_if_eq (tgt := 342) hx hb dX11_nextToken_335 (by decide) (fun hc => ?_) (fun hc => ?_)
            · replace hf := if_t hf hc
              refine lv_iconst (v := 3) hx hb dX11_nextToken_342 (by decide) ?_
              exact hj343_24 this (3 : Int32) S23 _ _ _ hf hR hS hE ok_this ok_this (lv_sub hl [1, 2] rfl)
            · replace hf := if_f hf hc
              refine lv_iload_n hx hb dX11_nextToken_338 rfl (lv_at hl 2 rfl) ?_
              refine lv_goto (tgt := 343) hx hb dX11_nextToken_339 (by decide) ?_
              exact hj343_24 this x9 S23 _ _ _ hf hR hS hE ok_this ok_this (lv_sub hl [1, 2] rfl)
          obtain ⟨j327_49, ej327_49, hf⟩ := jn_of1 hf
          have hj327_48 : ∀ (S50 : MS) (H : Heap) (locs : List Loc) (ls : Array Slot), j327_49 S50 = some So → Rp G S50 H → va_S (gA G) s.heap H locs → Ex S S50 → Ok S50 this 11 → lv_has ls 3 [(0, .ref this), (1, .int x9)] → W p l e rX11_nextToken s m args below meth c H locs 0 0 (MQ below (Qn G S none So) args s 0 0 (gA G)) (F0 m 327 ls []) := by
            intro S50 H locs ls hf hR hS hE ok_this hl
            rw [ej327_49] at hf
            refine lv_iconst (v := 1) hx hb dX11_nextToken_327 (by decide) ?_
            refine lv_goto (tgt := 332) hx hb dX11_nextToken_328 (by decide) ?_
            exact hj332_20 (1 : Int32) S50 _ _ _ hf hR hS hE ok_this (lv_sub hl [0, 1] rfl)
          refine lv_icmp_eq (tgt := 327) hx hb dX11_nextToken_258 (by decide) (fun hc => ?_) (fun hc => ?_)
          · replace hf := if_t hf hc
            exact hj327_48 S18 _ _ _ hf hR hS hE ok_this (lv_sub hl [1, 0] rfl)
          · replace hf := if_f hf hc
            refine lv_iload_n hx hb dX11_nextToken_261 rfl (lv_at hl 0 rfl) ?_
            refine lv_bipush (v := 62) hx hb dX11_nextToken_262 (by decide) ?_
            refine lv_icmp_eq (tgt := 327) hx hb dX11_nextToken_264 (by decide) (fun hc => ?_) (fun hc => ?_)
            · replace hf := if_t hf hc
              exact hj327_48 S18 _ _ _ hf hR hS hE ok_this (lv_sub hl [1, 0] rfl)
            · replace hf := if_f hf hc
              refine lv_iload_n hx hb dX11_nextToken_267 rfl (lv_at hl 0 rfl) ?_
              refine lv_bipush (v := 61) hx hb dX11_nextToken_268 (by decide) ?_
              refine lv_icmp_eq (tgt := 327) hx hb dX11_nextToken_270 (by decide) (fun hc => ?_) (fun hc => ?_)
              · replace hf := if_t hf hc
                exact hj327_48 S18 _ _ _ hf hR hS hE ok_this (lv_sub hl [1, 0] rfl)
              · replace hf := if_f hf hc
                refine lv_iload_n hx hb dX11_nextToken_273 rfl (lv_at hl 0 rfl) ?_
                refine lv_bipush (v := 35) hx hb dX11_nextToken_274 (by decide) ?_
                refine lv_icmp_eq (tgt := 327) hx hb dX11_nextToken_276 (by decide) (fun hc => ?_) (fun hc => ?_)
                · replace hf := if_t hf hc
                  exact hj327_48 S18 _ _ _ hf hR hS hE ok_this (lv_sub hl [1, 0] rfl)
                · replace hf := if_f hf hc
                  refine lv_iload_n hx hb dX11_nextToken_279 rfl (lv_at hl 0 rfl) ?_
                  refine lv_bipush (v := 43) hx hb dX11_nextToken_280 (by decide) ?_
                  refine lv_icmp_eq (tgt := 327) hx hb dX11_nextToken_282 (by decide) (fun hc => ?_) (fun hc => ?_)
                  · replace hf := if_t hf hc
                    exact hj327_48 S18 _ _ _ hf hR hS hE ok_this (lv_sub hl [1, 0] rfl)
                  · replace hf := if_f hf hc
                    refine lv_iload_n hx hb dX11_nextToken_285 rfl (lv_at hl 0 rfl) ?_
                    refine lv_bipush (v := 45) hx hb dX11_nextToken_286 (by decide) ?_
                    refine lv_icmp_eq (tgt := 327) hx hb dX11_nextToken_288 (by decide) (fun hc => ?_) (fun hc => ?_)
                    · replace hf := if_t hf hc
                      exact hj327_48 S18 _ _ _ hf hR hS hE ok_this (lv_sub hl [1, 0] rfl)
                    · replace hf := if_f hf hc
                      refine lv_iload_n hx hb dX11_nextToken_291 rfl (lv_at hl 0 rfl) ?_
                      refine lv_bipush (v := 42) hx hb dX11_nextToken_292 (by decide) ?_
                      refine lv_icmp_eq (tgt := 327) hx hb dX11_nextToken_294 (by decide) (fun hc => ?_) (fun hc => ?_)
                      · replace hf := if_t hf hc
                        exact hj327_48 S18 _ _ _ hf hR hS hE ok_this (lv_sub hl [1, 0] rfl)
                      · replace hf := if_f hf hc
                        refine lv_iload_n hx hb dX11_nextToken_297 rfl (lv_at hl 0 rfl) ?_
                        refine lv_bipush (v := 47) hx hb dX11_nextToken_298 (by decide) ?_
                        refine lv_icmp_eq (tgt := 327) hx hb dX11_nextToken_300 (by decide) (fun hc => ?_) (fun hc => ?_)
                        · replace hf := if_t hf hc
                          exact hj327_48 S18 _ _ _ hf hR hS hE ok_this (lv_sub hl [1, 0] rfl)
                        · replace hf := if_f hf hc
                          refine lv_iload_n hx hb dX11_nextToken_303 rfl (lv_at hl 0 rfl) ?_
                          refine lv_bipush (v := 40) hx hb dX11_nextToken_304 (by decide) ?_
                          refine lv_icmp_eq (tgt := 327) hx hb dX11_nextToken_306 (by decide) (fun hc => ?_) (fun hc => ?_)
                          · replace hf := if_t hf hc
                            exact hj327_48 S18 _ _ _ hf hR hS hE ok_this (lv_sub hl [1, 0] rfl)
                          · replace hf := if_f hf hc
                            refine lv_iload_n hx hb dX11_nextToken_309 rfl (lv_at hl 0 rfl) ?_
                            refine lv_bipush (v := 41) hx hb dX11_nextToken_310 (by decide) ?_
                            refine lv_icmp_eq (tgt := 327) hx hb dX11_nextToken_312 (by decide) (fun hc => ?_) (fun hc => ?_)
                            · replace hf := if_t hf hc
                              exact hj327_48 S18 _ _ _ hf hR hS hE ok_this (lv_sub hl [1, 0] rfl)
                            · replace hf := if_f hf hc
                              refine lv_iload_n hx hb dX11_nextToken_315 rfl (lv_at hl 0 rfl) ?_
                              refine lv_bipush (v := 59) hx hb dX11_nextToken_316 (by decide) ?_
                              refine lv_icmp_eq (tgt := 327) hx hb dX11_nextToken_318 (by decide) (fun hc => ?_) (fun hc => ?_)
                              · replace hf := if_t hf hc
                                exact hj327_48 S18 _ _ _ hf hR hS hE ok_this (lv_sub hl [1, 0] rfl)
                              · replace hf := if_f hf hc
                                refine lv_iload_n hx hb dX11_nextToken_321 rfl (lv_at hl 0 rfl) ?_
                                refine lv_bipush (v := 44) hx hb dX11_nextToken_322 (by decide) ?_
                                refine lv_icmp_ne (tgt := 331) hx hb dX11_nextToken_324 (by decide) (fun hc => ?_) (fun hc => ?_)
                                · replace hf := if_f hf hc
                                  refine lv_iconst (v := 0) hx hb dX11_nextToken_331 (by decide) ?_
                                  exact hj332_20 (0 : Int32) S18 _ _ _ hf hR hS hE ok_this (lv_sub hl [1, 0] rfl)
                                · replace hf := if_t hf hc
                                  exact hj327_48 S18 _ _ _ hf hR hS hE ok_this (lv_sub hl [1, 0] rfl)
        · replace hf := if_f hf hc
          refine lv_aload_n hx hb dX11_nextToken_151 rfl (lv_at hl 1 rfl) ?_
          refine lv_iconst (v := 2) hx hb dX11_nextToken_152 (by decide) ?_
          refine pf_RX11_111 hC hR hS ok_this dX11_nextToken_153 hf (fun S54 H locs hf hR hS hE55 => ?_)
          have ok_this := hE55 _ _ ok_this
          have hE := hE.tr hE55
          refine lv_aload_n hx hb dX11_nextToken_156 rfl (lv_at hl 1 rfl) ?_
          refine lv_lconst (v := 0) hx hb dX11_nextToken_157 (by decide) ?_
          refine pf_RX11_124 hC hR hS ok_this dX11_nextToken_158 hf (fun S56 H locs hf hR hS hE57 => ?_)
          have ok_this := hE57 _ _ ok_this
          have hE := hE.tr hE57
          obtain ⟨j223_59, ej223_59, hf⟩ := jn_of1 hf
          have hj223_58 : ∀ (S60 : MS) (H : Heap) (locs : List Loc) (ls : Array Slot), j223_59 S60 = some So → Rp G S60 H → va_S (gA G) s.heap H locs → Ex S S60 → Ok S60 this 11 → lv_has ls 3 [(0, .ref this)] → W p l e rX11_nextToken s m args below meth c H locs 0 0 (MQ below (Qn G S none So) args s 0 0 (gA G)) (F0 m 223 ls []) := by
            intro S60 H locs ls hf hR hS hE ok_this hl
            rw [ej223_59] at hf
            refine lv_aload_n hx hb dX11_nextToken_223 rfl (lv_at hl 0 rfl) ?_
            refine gf_RX11_101 hC hR ok_this dX11_nextToken_224 ?_
            refine lv_aload_n hx hb dX11_nextToken_227 rfl (lv_at hl 0 rfl) ?_
            refine gf_RX11_108 hC hR ok_this dX11_nextToken_228 ?_
            refine lv_isub hx hb dX11_nextToken_231 ?_
            refine lv_bipush (v := 7) hx hb dX11_nextToken_232 (by decide) ?_
            refine lv_icmp_le (tgt := 396) hx hb dX11_nextToken_234 (by decide) (fun hc => ?_) (fun hc => ?_)
            · replace hf := if_t hf hc
              exact r_vret hC hR hS hE hf dX11_nextToken_396
            · replace hf := if_f hf hc
              refine lv_aload_n hx hb dX11_nextToken_237 rfl (lv_at hl 0 rfl) ?_
              refine lv_lconst (v := 0) hx hb dX11_nextToken_238 (by decide) ?_
              refine pf_RX11_124 hC hR hS ok_this dX11_nextToken_239 hf (fun S61 H locs hf hR hS hE62 => ?_)
              have ok_this := hE62 _ _ ok_this
              have hE := hE.tr hE62
              refine lv_goto (tgt := 396) hx hb dX11_nextToken_242 (by decide) ?_
              exact r_vret hC hR hS hE hf dX11_nextToken_396
          have hh86 : ∀ k : Nat, ∀ (S65 : MS) (H : Heap) (locs : List Loc) (ls : Array Slot), f_X11_nextToken_L161 n this j223_59 k S65 = some So → Rp G S65 H → va_S (gA G) s.heap H locs → Ex S S65 → Ok S65 this 11 → lv_has ls 3 [(0, .ref this)] → W p l e rX11_nextToken s m args below meth c H locs 0 0 (MQ below (Qn G S none So) args s 0 0 (gA G)) (F0 m 161 ls []) := by
            intro k
            induction k with
            | zero =>
              intro S65 H locs ls hf hR hS hE ok_this hl
              exact absurd hf (by rw [f_X11_nextToken_L161]; exact fun h => by cases h)
            | succ k ih =>
              intro S65 H locs ls hf hR hS hE ok_this hl
              rw [f_X11_nextToken_L161] at hf
              obtain ⟨rec161_64, erec161_64, hf⟩ := jn_of1 hf
              have hL161_63 : ∀ (S65 : MS) (H : Heap) (locs : List Loc) (ls : Array Slot), rec161_64 S65 = some So → Rp G S65 H → va_S (gA G) s.heap H locs → Ex S S65 → Ok S65 this 11 → lv_has ls 3 [(0, .ref this)] → W p l e rX11_nextToken s m args below meth c H locs 0 0 (MQ below (Qn G S none So) args s 0 0 (gA G)) (F0 m 161 ls []) := by
                intro S65 H locs ls hf hR hS hE ok_this hl
                rw [erec161_64] at hf
                exact ih S65 _ _ _ hf hR hS hE ok_this hl
              refine lv_aload_n hx hb dX11_nextToken_161 rfl (lv_at hl 0 rfl) ?_
              refine lv_aload_n hx hb dX11_nextToken_162 rfl (lv_at hl 0 rfl) ?_
              refine gf_RX11_101 hC hR ok_this dX11_nextToken_163 ?_
              obtain ⟨x69, S66, hc67, hf⟩ := cl_of hf
              refine cl_RX11_104 (As := [.int (mI S65 this 10)]) (rest := []) hC hR hS (c_X11_byteAt l G n this (mI S65 this 10) S65 x69 S66 hc67 ok_this) ok_this rfl ⟨Nat.le_of_ble_eq_true rfl, Nat.le_of_ble_eq_true rfl⟩ hl.1 rfl (Nat.le_of_ble_eq_true rfl) dX11_nextToken_166 (Nat.zero_le _) (Nat.zero_le _) (fun H locs hR hS hE68 => ?_)
              have ok_this := hE68 _ _ ok_this
              have hE := hE.tr hE68
              obtain ⟨x73, S70, hc71, hf⟩ := cl_of hf
              refine cl_RX11_121 (As := [.int x69]) (rest := []) hC hR hS (c_X11_isLetter l G n x69 S66 x73 S70 hc71 ) rfl ⟨Nat.le_of_ble_eq_true rfl, Nat.le_of_ble_eq_true rfl⟩ hl.1 rfl (Nat.le_of_ble_eq_true rfl) dX11_nextToken_169 (Nat.zero_le _) (Nat.zero_le _) (fun H locs hR hS hE72 => ?_)
              have ok_this := hE72 _ _ ok_this
              have hE := hE.tr hE72
              refine lv_if_eq (tgt := 223) hx hb dX11_nextToken_172 (by decide) (fun hc => ?_) (fun hc => ?_)
              · replace hf := if_t hf hc
                exact hj223_58 S70 _ _ _ hf hR hS hE ok_this (lv_sub hl [0] rfl)
              · replace hf := if_f hf hc
                refine lv_aload_n hx hb dX11_nextToken_175 rfl (lv_at hl 0 rfl) ?_
                refine gf_RX11_101 hC hR ok_this dX11_nextToken_176 ?_
                refine lv_aload_n hx hb dX11_nextToken_179 rfl (lv_at hl 0 rfl) ?_
                refine gf_RX11_108 hC hR ok_this dX11_nextToken_180 ?_
                refine lv_isub hx hb dX11_nextToken_183 ?_
                refine lv_bipush (v := 7) hx hb dX11_nextToken_184 (by decide) ?_
                obtain ⟨j210_75, ej210_75, hf⟩ := jn_of1 hf
                have hj210_74 : ∀ (S76 : MS) (H : Heap) (locs : List Loc) (ls : Array Slot), j210_75 S76 = some So → Rp G S76 H → va_S (gA G) s.heap H locs → Ex S S76 → Ok S76 this 11 → lv_has ls 3 [(0, .ref this)] → W p l e rX11_nextToken s m args below meth c H locs 0 0 (MQ below (Qn G S none So) args s 0 0 (gA G)) (F0 m 210 ls []) := by
                  intro S76 H locs ls hf hR hS hE ok_this hl
                  rw [ej210_75] at hf
                  refine lv_aload_n hx hb dX11_nextToken_210 rfl (lv_at hl 0 rfl) ?_
                  refine lv_dup hx hb dX11_nextToken_211 rfl ?_
                  refine gf_RX11_101 hC hR ok_this dX11_nextToken_212 ?_
                  refine lv_iconst (v := 1) hx hb dX11_nextToken_215 (by decide) ?_
                  refine lv_iadd hx hb dX11_nextToken_216 ?_
                  refine pf_RX11_101 hC hR hS ok_this dX11_nextToken_217 hf (fun S77 H locs hf hR hS hE78 => ?_)
                  have ok_this := hE78 _ _ ok_this
                  have hE := hE.tr hE78
                  refine lv_goto (tgt := 161) hx hb dX11_nextToken_220 (by decide) ?_
                  exact hL161_63 S77 _ _ _ hf hR hS hE ok_this (lv_sub hl [0] rfl)
                refine lv_icmp_ge (tgt := 210) hx hb dX11_nextToken_186 (by decide) (fun hc => ?_) (fun hc => ?_)
                · replace hf := if_t hf hc
                  exact hj210_74 S70 _ _ _ hf hR hS hE ok_this (lv_sub hl [0] rfl)
                · replace hf := if_f hf hc
                  refine lv_aload_n hx hb dX11_nextToken_189 rfl (lv_at hl 0 rfl) ?_
                  refine lv_aload_n hx hb dX11_nextToken_190 rfl (lv_at hl 0 rfl) ?_
                  refine gf_RX11_124 hC hR ok_this dX11_nextToken_191 ?_
                  refine lv_bipush (v := 8) hx hb dX11_nextToken_194 (by decide) ?_
                  refine lv_lshl (v := (lsh (mJ S70 this 14) (8 : Int32))) hx hb dX11_nextToken_196 rfl ?_
                  refine lv_aload_n hx hb dX11_nextToken_197 rfl (lv_at hl 0 rfl) ?_
                  refine lv_aload_n hx hb dX11_nextToken_198 rfl (lv_at hl 0 rfl) ?_
                  refine gf_RX11_101 hC hR ok_this dX11_nextToken_199 ?_
                  obtain ⟨x82, S79, hc80, hf⟩ := cl_of hf
                  refine cl_RX11_104 (As := [.int (mI S70 this 10)]) (rest := [.long (lsh (mJ S70 this 14) (8 : Int32)), .ref this]) hC hR hS (c_X11_byteAt l G n this (mI S70 this 10) S70 x82 S79 hc80 ok_this) ok_this rfl ⟨Nat.le_of_ble_eq_true rfl, Nat.le_of_ble_eq_true rfl⟩ hl.1 rfl (Nat.le_of_ble_eq_true rfl) dX11_nextToken_202 (Nat.zero_le _) (Nat.zero_le _) (fun H locs hR hS hE81 => ?_)
                  have ok_this := hE81 _ _ ok_this
                  have hE := hE.tr hE81
                  refine lv_i2l (v := (x82.toInt64)) hx hb dX11_nextToken_205 rfl ?_
                  refine lv_lor hx hb dX11_nextToken_206 ?_
                  refine pf_RX11_124 hC hR hS ok_this dX11_nextToken_207 hf (fun S83 H locs hf hR hS hE84 => ?_)
                  have ok_this := hE84 _ _ ok_this
                  have hE := hE.tr hE84
                  exact hj210_74 S83 _ _ _ hf hR hS hE ok_this (lv_sub hl [0] rfl)
          exact hh86 n S56 _ _ _ hf hR hS hE ok_this (lv_sub hl [1] rfl)
      · replace hf := if_f hf hc
        refine lv_aload_n hx hb dX11_nextToken_75 rfl (lv_at hl 1 rfl) ?_
        refine lv_iconst (v := 1) hx hb dX11_nextToken_76 (by decide) ?_
        refine pf_RX11_111 hC hR hS ok_this dX11_nextToken_77 hf (fun S88 H locs hf hR hS hE89 => ?_)
        have ok_this := hE89 _ _ ok_this
        have hE := hE.tr hE89
        refine lv_aload_n hx hb dX11_nextToken_80 rfl (lv_at hl 1 rfl) ?_
        refine lv_iconst (v := 0) hx hb dX11_nextToken_81 (by decide) ?_
        refine pf_RX11_117 hC hR hS ok_this dX11_nextToken_82 hf (fun S90 H locs hf hR hS hE91 => ?_)
        have ok_this := hE91 _ _ ok_this
        have hE := hE.tr hE91
        have hh115 : ∀ k : Nat, ∀ (S94 : MS) (H : Heap) (locs : List Loc) (ls : Array Slot), f_X11_nextToken_L85 n this k S94 = some So → Rp G S94 H → va_S (gA G) s.heap H locs → Ex S S94 → Ok S94 this 11 → lv_has ls 3 [(0, .ref this)] → W p l e rX11_nextToken s m args below meth c H locs 0 0 (MQ below (Qn G S none So) args s 0 0 (gA G)) (F0 m 85 ls []) := by
          intro k
          induction k with
          | zero =>
            intro S94 H locs ls hf hR hS hE ok_this hl
            exact absurd hf (by rw [f_X11_nextToken_L85]; exact fun h => by cases h)
          | succ k ih =>
            intro S94 H locs ls hf hR hS hE ok_this hl
            rw [f_X11_nextToken_L85] at hf
            obtain ⟨rec85_93, erec85_93, hf⟩ := jn_of1 hf
            have hL85_92 : ∀ (S94 : MS) (H : Heap) (locs : List Loc) (ls : Array Slot), rec85_93 S94 = some So → Rp G S94 H → va_S (gA G) s.heap H locs → Ex S S94 → Ok S94 this 11 → lv_has ls 3 [(0, .ref this)] → W p l e rX11_nextToken s m args below meth c H locs 0 0 (MQ below (Qn G S none So) args s 0 0 (gA G)) (F0 m 85 ls []) := by
              intro S94 H locs ls hf hR hS hE ok_this hl
              rw [erec85_93] at hf
              exact ih S94 _ _ _ hf hR hS hE ok_this hl
            refine lv_aload_n hx hb dX11_nextToken_85 rfl (lv_at hl 0 rfl) ?_
            refine lv_aload_n hx hb dX11_nextToken_86 rfl (lv_at hl 0 rfl) ?_
            refine gf_RX11_101 hC hR ok_this dX11_nextToken_87 ?_
            obtain ⟨x98, S95, hc96, hf⟩ := cl_of hf
            refine cl_RX11_104 (As := [.int (mI S94 this 10)]) (rest := []) hC hR hS (c_X11_byteAt l G n this (mI S94 this 10) S94 x98 S95 hc96 ok_this) ok_this rfl ⟨Nat.le_of_ble_eq_true rfl, Nat.le_of_ble_eq_true rfl⟩ hl.1 rfl (Nat.le_of_ble_eq_true rfl) dX11_nextToken_90 (Nat.zero_le _) (Nat.zero_le _) (fun H locs hR hS hE97 => ?_)
            have ok_this := hE97 _ _ ok_this
            have hE := hE.tr hE97
            obtain ⟨x102, S99, hc100, hf⟩ := cl_of hf
            refine cl_RX11_114 (As := [.int x98]) (rest := []) hC hR hS (c_X11_isDigit l G n x98 S95 x102 S99 hc100 ) rfl ⟨Nat.le_of_ble_eq_true rfl, Nat.le_of_ble_eq_true rfl⟩ hl.1 rfl (Nat.le_of_ble_eq_true rfl) dX11_nextToken_93 (Nat.zero_le _) (Nat.zero_le _) (fun H locs hR hS hE101 => ?_)
            have ok_this := hE101 _ _ ok_this
            have hE := hE.tr hE101
            refine lv_if_eq (tgt := 396) hx hb dX11_nextToken_96 (by decide) (fun hc => ?_) (fun hc => ?_)
            · replace hf := if_t hf hc
              exact r_vret hC hR hS hE hf dX11_nextToken_396
            · replace hf := if_f hf hc
              refine lv_aload_n hx hb dX11_nextToken_99 rfl (lv_at hl 0 rfl) ?_
              refine gf_RX11_117 hC hR ok_this dX11_nextToken_100 ?_
              refine lv_ldc (v := 100000) hx hb hC.ow (hC.ts _ (bg22 _ (List.mem_of_getElem? (i := 8) rfl))) dX11_nextToken_103 ?_
              obtain ⟨j131_104, ej131_104, hf⟩ := jn_of1 hf
              have hj131_103 : ∀ (S105 : MS) (H : Heap) (locs : List Loc) (ls : Array Slot), j131_104 S105 = some So → Rp G S105 H → va_S (gA G) s.heap H locs → Ex S S105 → Ok S105 this 11 → lv_has ls 3 [(0, .ref this)] → W p l e rX11_nextToken s m args below meth c H locs 0 0 (MQ below (Qn G S none So) args s 0 0 (gA G)) (F0 m 131 ls []) := by
                intro S105 H locs ls hf hR hS hE ok_this hl
                rw [ej131_104] at hf
                refine lv_aload_n hx hb dX11_nextToken_131 rfl (lv_at hl 0 rfl) ?_
                refine lv_dup hx hb dX11_nextToken_132 rfl ?_
                refine gf_RX11_101 hC hR ok_this dX11_nextToken_133 ?_
                refine lv_iconst (v := 1) hx hb dX11_nextToken_136 (by decide) ?_
                refine lv_iadd hx hb dX11_nextToken_137 ?_
                refine pf_RX11_101 hC hR hS ok_this dX11_nextToken_138 hf (fun S106 H locs hf hR hS hE107 => ?_)
                have ok_this := hE107 _ _ ok_this
                have hE := hE.tr hE107
                refine lv_goto (tgt := 85) hx hb dX11_nextToken_141 (by decide) ?_
                exact hL85_92 S106 _ _ _ hf hR hS hE ok_this (lv_sub hl [0] rfl)
              refine lv_icmp_ge (tgt := 131) hx hb dX11_nextToken_105 (by decide) (fun hc => ?_) (fun hc => ?_)
              · replace hf := if_t hf hc
                exact hj131_103 S99 _ _ _ hf hR hS hE ok_this (lv_sub hl [0] rfl)
              · replace hf := if_f hf hc
                refine lv_aload_n hx hb dX11_nextToken_108 rfl (lv_at hl 0 rfl) ?_
                refine lv_bipush (v := 10) hx hb dX11_nextToken_109 (by decide) ?_
                refine lv_aload_n hx hb dX11_nextToken_111 rfl (lv_at hl 0 rfl) ?_
                refine gf_RX11_117 hC hR ok_this dX11_nextToken_112 ?_
                refine lv_imul hx hb dX11_nextToken_115 ?_
                refine lv_aload_n hx hb dX11_nextToken_116 rfl (lv_at hl 0 rfl) ?_
                refine lv_aload_n hx hb dX11_nextToken_117 rfl (lv_at hl 0 rfl) ?_
                refine gf_RX11_101 hC hR ok_this dX11_nextToken_118 ?_
                obtain ⟨x111, S108, hc109, hf⟩ := cl_of hf
                refine cl_RX11_104 (As := [.int (mI S99 this 10)]) (rest := [.int ((10 : Int32) * (mI S99 this 13)), .ref this]) hC hR hS (c_X11_byteAt l G n this (mI S99 this 10) S99 x111 S108 hc109 ok_this) ok_this rfl ⟨Nat.le_of_ble_eq_true rfl, Nat.le_of_ble_eq_true rfl⟩ hl.1 rfl (Nat.le_of_ble_eq_true rfl) dX11_nextToken_121 (Nat.zero_le _) (Nat.zero_le _) (fun H locs hR hS hE110 => ?_)
                have ok_this := hE110 _ _ ok_this
                have hE := hE.tr hE110
                refine lv_iadd hx hb dX11_nextToken_124 ?_
                refine lv_bipush (v := 48) hx hb dX11_nextToken_125 (by decide) ?_
                refine lv_isub hx hb dX11_nextToken_127 ?_
                refine pf_RX11_117 hC hR hS ok_this dX11_nextToken_128 hf (fun S112 H locs hf hR hS hE113 => ?_)
                have ok_this := hE113 _ _ ok_this
                have hE := hE.tr hE113
                exact hj131_103 S112 _ _ _ hf hR hS hE ok_this (lv_sub hl [0] rfl)
        exact hh115 n S90 _ _ _ hf hR hS hE ok_this (lv_sub hl [1] rfl)
    · replace hf := if_f hf hc
      refine lv_aload_n hx hb dX11_nextToken_60 rfl (lv_at hl 1 rfl) ?_
      refine lv_iconst (v := 0) hx hb dX11_nextToken_61 (by decide) ?_
      refine pf_RX11_111 hC hR hS ok_this dX11_nextToken_62 hf (fun S116 H locs hf hR hS hE117 => ?_)
      have ok_this := hE117 _ _ ok_this
      have hE := hE.tr hE117
      refine lv_goto (tgt := 396) hx hb dX11_nextToken_65 (by decide) ?_
      exact r_vret hC hR hS hE hf dX11_nextToken_396
  have hh135 : ∀ k : Nat, ∀ (S120 : MS) (H : Heap) (locs : List Loc) (ls : Array Slot), f_X11_nextToken_L0 n this j39_2 k S120 = some So → Rp G S120 H → va_S (gA G) s.heap H locs → Ex S S120 → Ok S120 this 11 → lv_has ls 3 [(0, .ref this)] → W p l e rX11_nextToken s m args below meth c H locs 0 0 (MQ below (Qn G S none So) args s 0 0 (gA G)) (F0 m 0 ls []) := by
    intro k
    induction k with
    | zero =>
      intro S120 H locs ls hf hR hS hE ok_this hl
      exact absurd hf (by rw [f_X11_nextToken_L0]; exact fun h => by cases h)
    | succ k ih =>
      intro S120 H locs ls hf hR hS hE ok_this hl
      rw [f_X11_nextToken_L0] at hf
      obtain ⟨rec0_119, erec0_119, hf⟩ := jn_of1 hf
      have hL0_118 : ∀ (S120 : MS) (H : Heap) (locs : List Loc) (ls : Array Slot), rec0_119 S120 = some So → Rp G S120 H → va_S (gA G) s.heap H locs → Ex S S120 → Ok S120 this 11 → lv_has ls 3 [(0, .ref this)] → W p l e rX11_nextToken s m args below meth c H locs 0 0 (MQ below (Qn G S none So) args s 0 0 (gA G)) (F0 m 0 ls []) := by
        intro S120 H locs ls hf hR hS hE ok_this hl
        rw [erec0_119] at hf
        exact ih S120 _ _ _ hf hR hS hE ok_this hl
      refine lv_aload_n hx hb dX11_nextToken_0 rfl (lv_at hl 0 rfl) ?_
      refine lv_aload_n hx hb dX11_nextToken_1 rfl (lv_at hl 0 rfl) ?_
      refine gf_RX11_101 hC hR ok_this dX11_nextToken_2 ?_
      obtain ⟨x124, S121, hc122, hf⟩ := cl_of hf
      refine cl_RX11_104 (As := [.int (mI S120 this 10)]) (rest := []) hC hR hS (c_X11_byteAt l G n this (mI S120 this 10) S120 x124 S121 hc122 ok_this) ok_this rfl ⟨Nat.le_of_ble_eq_true rfl, Nat.le_of_ble_eq_true rfl⟩ hl.1 rfl (Nat.le_of_ble_eq_true rfl) dX11_nextToken_5 (Nat.zero_le _) (Nat.zero_le _) (fun H locs hR hS hE123 => ?_)
      have ok_this := hE123 _ _ ok_this
      have hE := hE.tr hE123
      refine lv_bipush (v := 32) hx hb dX11_nextToken_8 (by decide) ?_
      obtain ⟨j26_126, ej26_126, hf⟩ := jn_of1 hf
      have hj26_125 : ∀ (S127 : MS) (H : Heap) (locs : List Loc) (ls : Array Slot), j26_126 S127 = some So → Rp G S127 H → va_S (gA G) s.heap H locs → Ex S S127 → Ok S127 this 11 → lv_has ls 3 [(0, .ref this)] → W p l e rX11_nextToken s m args below meth c H locs 0 0 (MQ below (Qn G S none So) args s 0 0 (gA G)) (F0 m 26 ls []) := by
        intro S127 H locs ls hf hR hS hE ok_this hl
        rw [ej26_126] at hf
        refine lv_aload_n hx hb dX11_nextToken_26 rfl (lv_at hl 0 rfl) ?_
        refine lv_dup hx hb dX11_nextToken_27 rfl ?_
        refine gf_RX11_101 hC hR ok_this dX11_nextToken_28 ?_
        refine lv_iconst (v := 1) hx hb dX11_nextToken_31 (by decide) ?_
        refine lv_iadd hx hb dX11_nextToken_32 ?_
        refine pf_RX11_101 hC hR hS ok_this dX11_nextToken_33 hf (fun S128 H locs hf hR hS hE129 => ?_)
        have ok_this := hE129 _ _ ok_this
        have hE := hE.tr hE129
        refine lv_goto (tgt := 0) hx hb dX11_nextToken_36 (by decide) ?_
        exact hL0_118 S128 _ _ _ hf hR hS hE ok_this (lv_sub hl [0] rfl)
      refine lv_icmp_eq (tgt := 26) hx hb dX11_nextToken_10 (by decide) (fun hc => ?_) (fun hc => ?_)
      · replace hf := if_t hf hc
        exact hj26_125 S121 _ _ _ hf hR hS hE ok_this (lv_sub hl [0] rfl)
      · replace hf := if_f hf hc
        refine lv_aload_n hx hb dX11_nextToken_13 rfl (lv_at hl 0 rfl) ?_
        refine lv_aload_n hx hb dX11_nextToken_14 rfl (lv_at hl 0 rfl) ?_
        refine gf_RX11_101 hC hR ok_this dX11_nextToken_15 ?_
        obtain ⟨x133, S130, hc131, hf⟩ := cl_of hf
        refine cl_RX11_104 (As := [.int (mI S121 this 10)]) (rest := []) hC hR hS (c_X11_byteAt l G n this (mI S121 this 10) S121 x133 S130 hc131 ok_this) ok_this rfl ⟨Nat.le_of_ble_eq_true rfl, Nat.le_of_ble_eq_true rfl⟩ hl.1 rfl (Nat.le_of_ble_eq_true rfl) dX11_nextToken_18 (Nat.zero_le _) (Nat.zero_le _) (fun H locs hR hS hE132 => ?_)
        have ok_this := hE132 _ _ ok_this
        have hE := hE.tr hE132
        refine lv_bipush (v := 10) hx hb dX11_nextToken_21 (by decide) ?_
        refine lv_icmp_ne (tgt := 39) hx hb dX11_nextToken_23 (by decide) (fun hc => ?_) (fun hc => ?_)
        · replace hf := if_f hf hc
          exact hj39_1 S130 _ _ _ hf hR hS hE ok_this (lv_sub hl [0] rfl)
        · replace hf := if_t hf hc
          exact hj26_125 S130 _ _ _ hf hR hS hE ok_this (lv_sub hl [0] rfl)
  exact hh135 n S _ _ _ hf hR hS hE ok_this (lv_sub hl [0] rfl)
abbrev rX11_w3 : Room := { frames := 0, cells := 0, slots := 0, locals := 0 }
def f_X11_w3 (_n : Nat) (a1 : Int32) (a2 : Int32) (a3 : Int32) (S : MS) : Option (Int64 × MS) :=
  some (((lsh ((lsh (a1.toInt64) (8 : Int32)) ||| (a2.toInt64)) (8 : Int32)) ||| (a3.toInt64)), S)
set_option maxRecDepth 100000 in
set_option maxHeartbeats 4000000 in
theorem c_X11_w3 (l : Launch) (G : Gx) (n : Nat) (a1 : Int32) (a2 : Int32) (a3 : Int32) (S : MS) (ro : Int64) (So : MS) (hf : f_X11_w3 n a1 a2 a3 S = some (ro, So)) : Cn G l yX11_w3 cX11_w3 3 (some .long) rX11_w3 [.int a1, .int a2, .int a3] S (some (.long ro)) So := by
  refine Cn.of (by decide) (Nat.le_of_ble_eq_true rfl) ?_
  intro p e s m args below meth c hC hname hR ls hl
  have hC : Cx G RX11 cX11_w3 3 (some .long) p s m args meth c := hC
  have hl : lv_has ls 3 [(0, .int a1), (1, .int a2), (2, .int a3)] := hl
  have hx := hC.x
  have hb := hC.b
  have hS : va_S (gA G) s.heap s.heap [] := va_S.rf
  have hE : Ex S S := Ex.rf S
  unfold f_X11_w3 at hf
  refine lv_iload_n hx hb dX11_w3_0 rfl (lv_at hl 0 rfl) ?_
  refine lv_i2l (v := (a1.toInt64)) hx hb dX11_w3_1 rfl ?_
  refine lv_bipush (v := 8) hx hb dX11_w3_2 (by decide) ?_
  refine lv_lshl (v := (lsh (a1.toInt64) (8 : Int32))) hx hb dX11_w3_4 rfl ?_
  refine lv_iload_n hx hb dX11_w3_5 rfl (lv_at hl 1 rfl) ?_
  refine lv_i2l (v := (a2.toInt64)) hx hb dX11_w3_6 rfl ?_
  refine lv_lor hx hb dX11_w3_7 ?_
  refine lv_bipush (v := 8) hx hb dX11_w3_8 (by decide) ?_
  refine lv_lshl (v := (lsh ((lsh (a1.toInt64) (8 : Int32)) ||| (a2.toInt64)) (8 : Int32))) hx hb dX11_w3_10 rfl ?_
  refine lv_iload_n hx hb dX11_w3_11 rfl (lv_at hl 2 rfl) ?_
  refine lv_i2l (v := (a3.toInt64)) hx hb dX11_w3_12 rfl ?_
  refine lv_lor hx hb dX11_w3_13 ?_
  exact r_lret hC hR hS hE hf dX11_w3_14
abbrev rX11_w5 : Room := { frames := 1, cells := 0, slots := 0, locals := 22 }
def f_X11_w5 (n : Nat) (a1 : Int32) (a2 : Int32) (a3 : Int32) (a4 : Int32) (a5 : Int32) (S : MS) : Option (Int64 × MS) :=
  cl (f_X11_w3 n a1 a2 a3 S) fun x4 S1 => some (((lsh ((lsh x4 (8 : Int32)) ||| (a4.toInt64)) (8 : Int32)) ||| (a5.toInt64)), S1)
set_option maxRecDepth 100000 in
set_option maxHeartbeats 4000000 in
theorem c_X11_w5 (l : Launch) (G : Gx) (n : Nat) (a1 : Int32) (a2 : Int32) (a3 : Int32) (a4 : Int32) (a5 : Int32) (S : MS) (ro : Int64) (So : MS) (hf : f_X11_w5 n a1 a2 a3 a4 a5 S = some (ro, So)) : Cn G l yX11_w5 cX11_w5 5 (some .long) rX11_w5 [.int a1, .int a2, .int a3, .int a4, .int a5] S (some (.long ro)) So := by
  refine Cn.of (by decide) (Nat.le_of_ble_eq_true rfl) ?_
  intro p e s m args below meth c hC hname hR ls hl
  have hC : Cx G RX11 cX11_w5 5 (some .long) p s m args meth c := hC
  have hl : lv_has ls 5 [(0, .int a1), (1, .int a2), (2, .int a3), (3, .int a4), (4, .int a5)] := hl
  have hx := hC.x
  have hb := hC.b
  have hS : va_S (gA G) s.heap s.heap [] := va_S.rf
  have hE : Ex S S := Ex.rf S
  unfold f_X11_w5 at hf
  refine lv_iload_n hx hb dX11_w5_0 rfl (lv_at hl 0 rfl) ?_
  refine lv_iload_n hx hb dX11_w5_1 rfl (lv_at hl 1 rfl) ?_
  refine lv_iload_n hx hb dX11_w5_2 rfl (lv_at hl 2 rfl) ?_
  obtain ⟨x4, S1, hc2, hf⟩ := cl_of hf
  refine cl_RX11_128 (As := [.int a1, .int a2, .int a3]) (rest := []) hC hR hS (c_X11_w3 l G n a1 a2 a3 S x4 S1 hc2 ) rfl ⟨Nat.le_of_ble_eq_true rfl, Nat.le_of_ble_eq_true rfl⟩ hl.1 rfl (Nat.le_of_ble_eq_true rfl) dX11_w5_3 (Nat.zero_le _) (Nat.zero_le _) (fun H locs hR hS hE3 => ?_)
  have hE := hE.tr hE3
  refine lv_bipush (v := 8) hx hb dX11_w5_6 (by decide) ?_
  refine lv_lshl (v := (lsh x4 (8 : Int32))) hx hb dX11_w5_8 rfl ?_
  refine lv_iload_n hx hb dX11_w5_9 rfl (lv_at hl 3 rfl) ?_
  refine lv_i2l (v := (a4.toInt64)) hx hb dX11_w5_10 rfl ?_
  refine lv_lor hx hb dX11_w5_11 ?_
  refine lv_bipush (v := 8) hx hb dX11_w5_12 (by decide) ?_
  refine lv_lshl (v := (lsh ((lsh x4 (8 : Int32)) ||| (a4.toInt64)) (8 : Int32))) hx hb dX11_w5_14 rfl ?_
  refine lv_iload hx hb dX11_w5_15 (lv_at hl 4 rfl) ?_
  refine lv_i2l (v := (a5.toInt64)) hx hb dX11_w5_17 rfl ?_
  refine lv_lor hx hb dX11_w5_18 ?_
  exact r_lret hC hR hS hE hf dX11_w5_19
abbrev rX11_w4 : Room := { frames := 1, cells := 0, slots := 0, locals := 22 }
def f_X11_w4 (n : Nat) (a1 : Int32) (a2 : Int32) (a3 : Int32) (a4 : Int32) (S : MS) : Option (Int64 × MS) :=
  cl (f_X11_w3 n a1 a2 a3 S) fun x4 S1 => some (((lsh x4 (8 : Int32)) ||| (a4.toInt64)), S1)
set_option maxRecDepth 100000 in
set_option maxHeartbeats 4000000 in
theorem c_X11_w4 (l : Launch) (G : Gx) (n : Nat) (a1 : Int32) (a2 : Int32) (a3 : Int32) (a4 : Int32) (S : MS) (ro : Int64) (So : MS) (hf : f_X11_w4 n a1 a2 a3 a4 S = some (ro, So)) : Cn G l yX11_w4 cX11_w4 4 (some .long) rX11_w4 [.int a1, .int a2, .int a3, .int a4] S (some (.long ro)) So := by
  refine Cn.of (by decide) (Nat.le_of_ble_eq_true rfl) ?_
  intro p e s m args below meth c hC hname hR ls hl
  have hC : Cx G RX11 cX11_w4 4 (some .long) p s m args meth c := hC
  have hl : lv_has ls 4 [(0, .int a1), (1, .int a2), (2, .int a3), (3, .int a4)] := hl
  have hx := hC.x
  have hb := hC.b
  have hS : va_S (gA G) s.heap s.heap [] := va_S.rf
  have hE : Ex S S := Ex.rf S
  unfold f_X11_w4 at hf
  refine lv_iload_n hx hb dX11_w4_0 rfl (lv_at hl 0 rfl) ?_
  refine lv_iload_n hx hb dX11_w4_1 rfl (lv_at hl 1 rfl) ?_
  refine lv_iload_n hx hb dX11_w4_2 rfl (lv_at hl 2 rfl) ?_
  obtain ⟨x4, S1, hc2, hf⟩ := cl_of hf
  refine cl_RX11_128 (As := [.int a1, .int a2, .int a3]) (rest := []) hC hR hS (c_X11_w3 l G n a1 a2 a3 S x4 S1 hc2 ) rfl ⟨Nat.le_of_ble_eq_true rfl, Nat.le_of_ble_eq_true rfl⟩ hl.1 rfl (Nat.le_of_ble_eq_true rfl) dX11_w4_3 (Nat.zero_le _) (Nat.zero_le _) (fun H locs hR hS hE3 => ?_)
  have hE := hE.tr hE3
  refine lv_bipush (v := 8) hx hb dX11_w4_6 (by decide) ?_
  refine lv_lshl (v := (lsh x4 (8 : Int32))) hx hb dX11_w4_8 rfl ?_
  refine lv_iload_n hx hb dX11_w4_9 rfl (lv_at hl 3 rfl) ?_
  refine lv_i2l (v := (a4.toInt64)) hx hb dX11_w4_10 rfl ?_
  refine lv_lor hx hb dX11_w4_11 ?_
  exact r_lret hC hR hS hE hf dX11_w4_12
abbrev rX11_w6 : Room := { frames := 2, cells := 0, slots := 0, locals := 46 }
def f_X11_w6 (n : Nat) (a1 : Int32) (a2 : Int32) (a3 : Int32) (a4 : Int32) (a5 : Int32) (a6 : Int32) (S : MS) : Option (Int64 × MS) :=
  cl (f_X11_w5 n a1 a2 a3 a4 a5 S) fun x4 S1 => some (((lsh x4 (8 : Int32)) ||| (a6.toInt64)), S1)
set_option maxRecDepth 100000 in
set_option maxHeartbeats 4000000 in
theorem c_X11_w6 (l : Launch) (G : Gx) (n : Nat) (a1 : Int32) (a2 : Int32) (a3 : Int32) (a4 : Int32) (a5 : Int32) (a6 : Int32) (S : MS) (ro : Int64) (So : MS) (hf : f_X11_w6 n a1 a2 a3 a4 a5 a6 S = some (ro, So)) : Cn G l yX11_w6 cX11_w6 6 (some .long) rX11_w6 [.int a1, .int a2, .int a3, .int a4, .int a5, .int a6] S (some (.long ro)) So := by
  refine Cn.of (by decide) (Nat.le_of_ble_eq_true rfl) ?_
  intro p e s m args below meth c hC hname hR ls hl
  have hC : Cx G RX11 cX11_w6 6 (some .long) p s m args meth c := hC
  have hl : lv_has ls 6 [(0, .int a1), (1, .int a2), (2, .int a3), (3, .int a4), (4, .int a5), (5, .int a6)] := hl
  have hx := hC.x
  have hb := hC.b
  have hS : va_S (gA G) s.heap s.heap [] := va_S.rf
  have hE : Ex S S := Ex.rf S
  unfold f_X11_w6 at hf
  refine lv_iload_n hx hb dX11_w6_0 rfl (lv_at hl 0 rfl) ?_
  refine lv_iload_n hx hb dX11_w6_1 rfl (lv_at hl 1 rfl) ?_
  refine lv_iload_n hx hb dX11_w6_2 rfl (lv_at hl 2 rfl) ?_
  refine lv_iload_n hx hb dX11_w6_3 rfl (lv_at hl 3 rfl) ?_
  refine lv_iload hx hb dX11_w6_4 (lv_at hl 4 rfl) ?_
  obtain ⟨x4, S1, hc2, hf⟩ := cl_of hf
  refine cl_RX11_132 (As := [.int a1, .int a2, .int a3, .int a4, .int a5]) (rest := []) hC hR hS (c_X11_w5 l G n a1 a2 a3 a4 a5 S x4 S1 hc2 ) rfl ⟨Nat.le_of_ble_eq_true rfl, Nat.le_of_ble_eq_true rfl⟩ hl.1 rfl (Nat.le_of_ble_eq_true rfl) dX11_w6_6 (Nat.zero_le _) (Nat.zero_le _) (fun H locs hR hS hE3 => ?_)
  have hE := hE.tr hE3
  refine lv_bipush (v := 8) hx hb dX11_w6_9 (by decide) ?_
  refine lv_lshl (v := (lsh x4 (8 : Int32))) hx hb dX11_w6_11 rfl ?_
  refine lv_iload hx hb dX11_w6_12 (lv_at hl 5 rfl) ?_
  refine lv_i2l (v := (a6.toInt64)) hx hb dX11_w6_14 rfl ?_
  refine lv_lor hx hb dX11_w6_15 ?_
  exact r_lret hC hR hS hE hf dX11_w6_16
abbrev rX11_isWord : Room := { frames := 0, cells := 0, slots := 0, locals := 0 }
def f_X11_isWord (_n : Nat) (this : Nat) (a1 : Int64) (S : MS) : Option (Int32 × MS) :=
  (if (mI S this 12) = (2 : Int32) then (if (lg_cmp (mJ S this 14) a1) = 0 then zb (1 : Int32) (some ((1 : Int32), S)) else zb (0 : Int32) (some ((0 : Int32), S))) else zb (0 : Int32) (some ((0 : Int32), S)))
set_option maxRecDepth 100000 in
set_option maxHeartbeats 4000000 in
theorem c_X11_isWord (l : Launch) (G : Gx) (n : Nat) (this : Nat) (a1 : Int64) (S : MS) (ro : Int32) (So : MS) (hf : f_X11_isWord n this a1 S = some (ro, So)) (ok_this : Ok S this 11) : Cn G l yX11_isWord cX11_isWord 3 (some .boolean) rX11_isWord [.ref this, .long a1] S (some (.int ro)) So := by
  refine Cn.of (by decide) (Nat.le_of_ble_eq_true rfl) ?_
  intro p e s m args below meth c hC hname hR ls hl
  have hC : Cx G RX11 cX11_isWord 3 (some .boolean) p s m args meth c := hC
  have hl : lv_has ls 3 [(0, .ref this), (1, .long a1)] := hl
  have hx := hC.x
  have hb := hC.b
  have hS : va_S (gA G) s.heap s.heap [] := va_S.rf
  have hE : Ex S S := Ex.rf S
  unfold f_X11_isWord at hf
  refine lv_aload_n hx hb dX11_isWord_0 rfl (lv_at hl 0 rfl) ?_
  refine gf_RX11_111 hC hR ok_this dX11_isWord_1 ?_
  refine lv_iconst (v := 2) hx hb dX11_isWord_4 (by decide) ?_
  refine lv_icmp_ne (tgt := 21) hx hb dX11_isWord_5 (by decide) (fun hc => ?_) (fun hc => ?_)
  · replace hf := if_f hf hc
    refine lv_iconst (v := 0) hx hb dX11_isWord_21 (by decide) ?_
    exact r_zret hC hR hS hE hf dX11_isWord_22
  · replace hf := if_t hf hc
    refine lv_aload_n hx hb dX11_isWord_8 rfl (lv_at hl 0 rfl) ?_
    refine gf_RX11_124 hC hR ok_this dX11_isWord_9 ?_
    refine lv_lload_n hx hb dX11_isWord_12 rfl (lv_at hl 1 rfl) ?_
    refine W.lcmp hx hb dX11_isWord_13 ?_
    refine lv_if_ne (tgt := 21) hx hb dX11_isWord_14 (by decide) (fun hc => ?_) (fun hc => ?_)
    · replace hf := if_f hf hc
      refine lv_iconst (v := 0) hx hb dX11_isWord_21 (by decide) ?_
      exact r_zret hC hR hS hE hf dX11_isWord_22
    · replace hf := if_t hf hc
      refine lv_iconst (v := 1) hx hb dX11_isWord_17 (by decide) ?_
      refine lv_goto (tgt := 22) hx hb dX11_isWord_18 (by decide) ?_
      exact r_zret hC hR hS hE hf dX11_isWord_22
abbrev rX11_emit : Room := { frames := 0, cells := 0, slots := 0, locals := 0 }
def f_X11_emit (_n : Nat) (this : Nat) (a1 : Int32) (a2 : Int32) (S : MS) : Option (MS) :=
  gR S (mR S this 5) 12 fun q1 => ck (inb (((mI S this 15) + (85 : Int32)) + ((2 : Int32) * (mI S this 17))) (mN S q1)) (bd (sI S q1 (((mI S this 15) + (85 : Int32)) + ((2 : Int32) * (mI S this 17))).toNatClampNeg a1) fun S4 => gR S4 (mR S4 this 5) 12 fun q6 => ck (inb ((((mI S4 this 15) + (85 : Int32)) + ((2 : Int32) * (mI S4 this 17))) + (1 : Int32)) (mN S4 q6)) (bd (sI S4 q6 ((((mI S4 this 15) + (85 : Int32)) + ((2 : Int32) * (mI S4 this 17))) + (1 : Int32)).toNatClampNeg a2) fun S9 => bd (sI S9 this 17 ((mI S9 this 17) + (1 : Int32))) fun S11 => some S11))
set_option maxRecDepth 100000 in
set_option maxHeartbeats 4000000 in
theorem c_X11_emit (l : Launch) (G : Gx) (n : Nat) (this : Nat) (a1 : Int32) (a2 : Int32) (S : MS) (So : MS) (hf : f_X11_emit n this a1 a2 S = some So) (ok_this : Ok S this 11) : Cn G l yX11_emit cX11_emit 3 none rX11_emit [.ref this, .int a1, .int a2] S none So := by
  refine Cn.of (by decide) (Nat.le_of_ble_eq_true rfl) ?_
  intro p e s m args below meth c hC hname hR ls hl
  have hC : Cx G RX11 cX11_emit 3 none p s m args meth c := hC
  have hl : lv_has ls 3 [(0, .ref this), (1, .int a1), (2, .int a2)] := hl
  have hx := hC.x
  have hb := hC.b
  have hS : va_S (gA G) s.heap s.heap [] := va_S.rf
  have hE : Ex S S := Ex.rf S
  unfold f_X11_emit at hf
  refine lv_aload_n hx hb dX11_emit_0 rfl (lv_at hl 0 rfl) ?_
  obtain ⟨q1, hq2, ok_q1, hf⟩ := gR_of hf
  refine gf_RX11_13 hC hR ok_this hq2 dX11_emit_1 ?_
  refine lv_aload_n hx hb dX11_emit_4 rfl (lv_at hl 0 rfl) ?_
  refine gf_RX11_136 hC hR ok_this dX11_emit_5 ?_
  refine lv_bipush (v := 85) hx hb dX11_emit_8 (by decide) ?_
  refine lv_iadd hx hb dX11_emit_10 ?_
  refine lv_iconst (v := 2) hx hb dX11_emit_11 (by decide) ?_
  refine lv_aload_n hx hb dX11_emit_12 rfl (lv_at hl 0 rfl) ?_
  refine gf_RX11_139 hC hR ok_this dX11_emit_13 ?_
  refine lv_imul hx hb dX11_emit_16 ?_
  refine lv_iadd hx hb dX11_emit_17 ?_
  refine lv_iload_n hx hb dX11_emit_18 rfl (lv_at hl 1 rfl) ?_
  obtain ⟨hi3, hf⟩ := ck_of hf
  refine rB_iast hC hR hS ok_q1 hi3 dX11_emit_19 hf (fun S4 H locs hf hR hS hE5 => ?_)
  have ok_this := hE5 _ _ ok_this
  have ok_q1 := hE5 _ _ ok_q1
  have hE := hE.tr hE5
  refine lv_aload_n hx hb dX11_emit_20 rfl (lv_at hl 0 rfl) ?_
  obtain ⟨q6, hq7, ok_q6, hf⟩ := gR_of hf
  refine gf_RX11_13 hC hR ok_this hq7 dX11_emit_21 ?_
  refine lv_aload_n hx hb dX11_emit_24 rfl (lv_at hl 0 rfl) ?_
  refine gf_RX11_136 hC hR ok_this dX11_emit_25 ?_
  refine lv_bipush (v := 85) hx hb dX11_emit_28 (by decide) ?_
  refine lv_iadd hx hb dX11_emit_30 ?_
  refine lv_iconst (v := 2) hx hb dX11_emit_31 (by decide) ?_
  refine lv_aload_n hx hb dX11_emit_32 rfl (lv_at hl 0 rfl) ?_
  refine gf_RX11_139 hC hR ok_this dX11_emit_33 ?_
  refine lv_imul hx hb dX11_emit_36 ?_
  refine lv_iadd hx hb dX11_emit_37 ?_
  refine lv_iconst (v := 1) hx hb dX11_emit_38 (by decide) ?_
  refine lv_iadd hx hb dX11_emit_39 ?_
  refine lv_iload_n hx hb dX11_emit_40 rfl (lv_at hl 2 rfl) ?_
  obtain ⟨hi8, hf⟩ := ck_of hf
  refine rB_iast hC hR hS ok_q6 hi8 dX11_emit_41 hf (fun S9 H locs hf hR hS hE10 => ?_)
  have ok_this := hE10 _ _ ok_this
  have ok_q1 := hE10 _ _ ok_q1
  have ok_q6 := hE10 _ _ ok_q6
  have hE := hE.tr hE10
  refine lv_aload_n hx hb dX11_emit_42 rfl (lv_at hl 0 rfl) ?_
  refine lv_dup hx hb dX11_emit_43 rfl ?_
  refine gf_RX11_139 hC hR ok_this dX11_emit_44 ?_
  refine lv_iconst (v := 1) hx hb dX11_emit_47 (by decide) ?_
  refine lv_iadd hx hb dX11_emit_48 ?_
  refine pf_RX11_139 hC hR hS ok_this dX11_emit_49 hf (fun S11 H locs hf hR hS hE12 => ?_)
  have ok_this := hE12 _ _ ok_this
  have ok_q1 := hE12 _ _ ok_q1
  have ok_q6 := hE12 _ _ ok_q6
  have hE := hE.tr hE12
  exact r_vret hC hR hS hE hf dX11_emit_52
abbrev rX11_push : Room := { frames := 0, cells := 0, slots := 0, locals := 0 }
def f_X11_push (_n : Nat) (this : Nat) (a1 : Int32) (S : MS) : Option (MS) :=
  gR S (mR S this 19) 12 fun q1 => ck (inb (mI S this 20) (mN S q1)) (bd (sI S q1 (mI S this 20).toNatClampNeg a1) fun S4 => bd (sI S4 this 20 ((mI S4 this 20) + (1 : Int32))) fun S6 => some S6)
set_option maxRecDepth 100000 in
set_option maxHeartbeats 4000000 in
theorem c_X11_push (l : Launch) (G : Gx) (n : Nat) (this : Nat) (a1 : Int32) (S : MS) (So : MS) (hf : f_X11_push n this a1 S = some So) (ok_this : Ok S this 11) : Cn G l yX11_push cX11_push 2 none rX11_push [.ref this, .int a1] S none So := by
  refine Cn.of (by decide) (Nat.le_of_ble_eq_true rfl) ?_
  intro p e s m args below meth c hC hname hR ls hl
  have hC : Cx G RX11 cX11_push 2 none p s m args meth c := hC
  have hl : lv_has ls 2 [(0, .ref this), (1, .int a1)] := hl
  have hx := hC.x
  have hb := hC.b
  have hS : va_S (gA G) s.heap s.heap [] := va_S.rf
  have hE : Ex S S := Ex.rf S
  unfold f_X11_push at hf
  refine lv_aload_n hx hb dX11_push_0 rfl (lv_at hl 0 rfl) ?_
  obtain ⟨q1, hq2, ok_q1, hf⟩ := gR_of hf
  refine gf_RX11_26 hC hR ok_this hq2 dX11_push_1 ?_
  refine lv_aload_n hx hb dX11_push_4 rfl (lv_at hl 0 rfl) ?_
  refine gf_RX11_142 hC hR ok_this dX11_push_5 ?_
  refine lv_iload_n hx hb dX11_push_8 rfl (lv_at hl 1 rfl) ?_
  obtain ⟨hi3, hf⟩ := ck_of hf
  refine rB_iast hC hR hS ok_q1 hi3 dX11_push_9 hf (fun S4 H locs hf hR hS hE5 => ?_)
  have ok_this := hE5 _ _ ok_this
  have ok_q1 := hE5 _ _ ok_q1
  have hE := hE.tr hE5
  refine lv_aload_n hx hb dX11_push_10 rfl (lv_at hl 0 rfl) ?_
  refine lv_dup hx hb dX11_push_11 rfl ?_
  refine gf_RX11_142 hC hR ok_this dX11_push_12 ?_
  refine lv_iconst (v := 1) hx hb dX11_push_15 (by decide) ?_
  refine lv_iadd hx hb dX11_push_16 ?_
  refine pf_RX11_142 hC hR hS ok_this dX11_push_17 hf (fun S6 H locs hf hR hS hE7 => ?_)
  have ok_this := hE7 _ _ ok_this
  have ok_q1 := hE7 _ _ ok_q1
  have hE := hE.tr hE7
  exact r_vret hC hR hS hE hf dX11_push_20
abbrev rX11_rank : Room := { frames := 0, cells := 0, slots := 0, locals := 0 }
def f_X11_rank (_n : Nat) (a1 : Int32) (S : MS) : Option (Int32 × MS) :=
  (if a1 < (40 : Int32) then (if a1 = (22 : Int32) then some ((1 : Int32), S) else (if a1 = (21 : Int32) then some ((2 : Int32), S) else (if a1 = (20 : Int32) then some ((3 : Int32), S) else (if a1 < (10 : Int32) then (if a1 = (2 : Int32) then some ((7 : Int32), S) else (if a1 < (5 : Int32) then some ((5 : Int32), S) else some ((6 : Int32), S))) else some ((4 : Int32), S))))) else some ((0 : Int32), S))
set_option maxRecDepth 100000 in
set_option maxHeartbeats 4000000 in
theorem c_X11_rank (l : Launch) (G : Gx) (n : Nat) (a1 : Int32) (S : MS) (ro : Int32) (So : MS) (hf : f_X11_rank n a1 S = some (ro, So)) : Cn G l yX11_rank cX11_rank 1 (some .int) rX11_rank [.int a1] S (some (.int ro)) So := by
  refine Cn.of (by decide) (Nat.le_of_ble_eq_true rfl) ?_
  intro p e s m args below meth c hC hname hR ls hl
  have hC : Cx G RX11 cX11_rank 1 (some .int) p s m args meth c := hC
  have hl : lv_has ls 1 [(0, .int a1)] := hl
  have hx := hC.x
  have hb := hC.b
  have hS : va_S (gA G) s.heap s.heap [] := va_S.rf
  have hE : Ex S S := Ex.rf S
  unfold f_X11_rank at hf
  refine lv_iload_n hx hb dX11_rank_0 rfl (lv_at hl 0 rfl) ?_
  refine lv_bipush (v := 40) hx hb dX11_rank_1 (by decide) ?_
  refine lv_icmp_lt (tgt := 10) hx hb dX11_rank_3 (by decide) (fun hc => ?_) (fun hc => ?_)
  · replace hf := if_t hf hc
    refine lv_iload_n hx hb dX11_rank_10 rfl (lv_at hl 0 rfl) ?_
    refine lv_bipush (v := 22) hx hb dX11_rank_11 (by decide) ?_
    refine lv_icmp_ne (tgt := 20) hx hb dX11_rank_13 (by decide) (fun hc => ?_) (fun hc => ?_)
    · replace hf := if_f hf hc
      refine lv_iload_n hx hb dX11_rank_20 rfl (lv_at hl 0 rfl) ?_
      refine lv_bipush (v := 21) hx hb dX11_rank_21 (by decide) ?_
      refine lv_icmp_ne (tgt := 30) hx hb dX11_rank_23 (by decide) (fun hc => ?_) (fun hc => ?_)
      · replace hf := if_f hf hc
        refine lv_iload_n hx hb dX11_rank_30 rfl (lv_at hl 0 rfl) ?_
        refine lv_bipush (v := 20) hx hb dX11_rank_31 (by decide) ?_
        refine lv_icmp_ne (tgt := 40) hx hb dX11_rank_33 (by decide) (fun hc => ?_) (fun hc => ?_)
        · replace hf := if_f hf hc
          refine lv_iload_n hx hb dX11_rank_40 rfl (lv_at hl 0 rfl) ?_
          refine lv_bipush (v := 10) hx hb dX11_rank_41 (by decide) ?_
          refine lv_icmp_lt (tgt := 50) hx hb dX11_rank_43 (by decide) (fun hc => ?_) (fun hc => ?_)
          · replace hf := if_t hf hc
            refine lv_iload_n hx hb dX11_rank_50 rfl (lv_at hl 0 rfl) ?_
            refine lv_iconst (v := 2) hx hb dX11_rank_51 (by decide) ?_
            refine lv_icmp_ne (tgt := 60) hx hb dX11_rank_52 (by decide) (fun hc => ?_) (fun hc => ?_)
            · replace hf := if_f hf hc
              refine lv_iload_n hx hb dX11_rank_60 rfl (lv_at hl 0 rfl) ?_
              refine lv_iconst (v := 5) hx hb dX11_rank_61 (by decide) ?_
              refine lv_icmp_lt (tgt := 70) hx hb dX11_rank_62 (by decide) (fun hc => ?_) (fun hc => ?_)
              · replace hf := if_t hf hc
                refine lv_iconst (v := 5) hx hb dX11_rank_70 (by decide) ?_
                exact r_iret hC hR hS hE hf dX11_rank_71
              · replace hf := if_f hf hc
                refine lv_bipush (v := 6) hx hb dX11_rank_65 (by decide) ?_
                refine lv_goto (tgt := 71) hx hb dX11_rank_67 (by decide) ?_
                exact r_iret hC hR hS hE hf dX11_rank_71
            · replace hf := if_t hf hc
              refine lv_bipush (v := 7) hx hb dX11_rank_55 (by decide) ?_
              refine lv_goto (tgt := 71) hx hb dX11_rank_57 (by decide) ?_
              exact r_iret hC hR hS hE hf dX11_rank_71
          · replace hf := if_f hf hc
            refine lv_iconst (v := 4) hx hb dX11_rank_46 (by decide) ?_
            refine lv_goto (tgt := 71) hx hb dX11_rank_47 (by decide) ?_
            exact r_iret hC hR hS hE hf dX11_rank_71
        · replace hf := if_t hf hc
          refine lv_iconst (v := 3) hx hb dX11_rank_36 (by decide) ?_
          refine lv_goto (tgt := 71) hx hb dX11_rank_37 (by decide) ?_
          exact r_iret hC hR hS hE hf dX11_rank_71
      · replace hf := if_t hf hc
        refine lv_iconst (v := 2) hx hb dX11_rank_26 (by decide) ?_
        refine lv_goto (tgt := 71) hx hb dX11_rank_27 (by decide) ?_
        exact r_iret hC hR hS hE hf dX11_rank_71
    · replace hf := if_t hf hc
      refine lv_iconst (v := 1) hx hb dX11_rank_16 (by decide) ?_
      refine lv_goto (tgt := 71) hx hb dX11_rank_17 (by decide) ?_
      exact r_iret hC hR hS hE hf dX11_rank_71
  · replace hf := if_f hf hc
    refine lv_iconst (v := 0) hx hb dX11_rank_6 (by decide) ?_
    refine lv_goto (tgt := 71) hx hb dX11_rank_7 (by decide) ?_
    exact r_iret hC hR hS hE hf dX11_rank_71
abbrev rX11_settle : Room := { frames := 1, cells := 0, slots := 0, locals := 22 }
def f_X11_settle_L0 (n : Nat) (this : Nat) (a1 : Int32) : Nat → MS → Option (MS)
  | 0, _ => none
  | k + 1, S3 => jn (f_X11_settle_L0 n this a1 k) fun rec0_2 => (if (mI S3 this 20) ≤ 0 then some S3 else gR S3 (mR S3 this 19) 12 fun q4 => ck (inb ((mI S3 this 20) - (1 : Int32)) (mN S3 q4)) (cl (f_X11_rank n (mI S3 q4 ((mI S3 this 20) - (1 : Int32)).toNatClampNeg) S3) fun x10 S7 => (if x10 < a1 then some S7 else bd (sI S7 this 20 ((mI S7 this 20) - (1 : Int32))) fun S11 => gR S11 (mR S11 this 19) 12 fun q13 => ck (inb (mI S11 this 20) (mN S11 q13)) (cv (f_X11_emit n this (mI S11 q13 (mI S11 this 20).toNatClampNeg) (0 : Int32) S11) fun S16 => gR S16 (mR S16 this 19) 12 fun q19 => ck (inb (mI S16 this 20) (mN S16 q19)) (jn (fun (S24 : MS) => bd (sI S24 this 21 ((mI S24 this 21) - (1 : Int32))) fun S25 => rec0_2 S25) fun j76_23 => (if (mI S16 q19 (mI S16 this 20).toNatClampNeg) = (2 : Int32) then j76_23 S16 else gR S16 (mR S16 this 19) 12 fun q27 => ck (inb (mI S16 this 20) (mN S16 q27)) ((if (mI S16 q27 (mI S16 this 20).toNatClampNeg) = (20 : Int32) then j76_23 S16 else rec0_2 S16))))))))
def f_X11_settle (n : Nat) (this : Nat) (a1 : Int32) (S : MS) : Option (MS) :=
  f_X11_settle_L0 n this a1 n S
set_option maxRecDepth 100000 in
set_option maxHeartbeats 4000000 in
theorem c_X11_settle (l : Launch) (G : Gx) (n : Nat) (this : Nat) (a1 : Int32) (S : MS) (So : MS) (hf : f_X11_settle n this a1 S = some So) (ok_this : Ok S this 11) : Cn G l yX11_settle cX11_settle 2 none rX11_settle [.ref this, .int a1] S none So := by
  refine Cn.of (by decide) (Nat.le_of_ble_eq_true rfl) ?_
  intro p e s m args below meth c hC hname hR ls hl
  have hC : Cx G RX11 cX11_settle 2 none p s m args meth c := hC
  have hl : lv_has ls 2 [(0, .ref this), (1, .int a1)] := hl
  have hx := hC.x
  have hb := hC.b
  have hS : va_S (gA G) s.heap s.heap [] := va_S.rf
  have hE : Ex S S := Ex.rf S
  unfold f_X11_settle at hf
  have hh31 : ∀ k : Nat, ∀ (S3 : MS) (H : Heap) (locs : List Loc) (ls : Array Slot), f_X11_settle_L0 n this a1 k S3 = some So → Rp G S3 H → va_S (gA G) s.heap H locs → Ex S S3 → Ok S3 this 11 → lv_has ls 2 [(0, .ref this), (1, .int a1)] → W p l e rX11_settle s m args below meth c H locs 0 0 (MQ below (Qn G S none So) args s 0 0 (gA G)) (F0 m 0 ls []) := by
    intro k
    induction k with
    | zero =>
      intro S3 H locs ls hf hR hS hE ok_this hl
      exact absurd hf (by rw [f_X11_settle_L0]; exact fun h => by cases h)
    | succ k ih =>
      intro S3 H locs ls hf hR hS hE ok_this hl
      rw [f_X11_settle_L0] at hf
      obtain ⟨rec0_2, erec0_2, hf⟩ := jn_of1 hf
      have hL0_1 : ∀ (S3 : MS) (H : Heap) (locs : List Loc) (ls : Array Slot), rec0_2 S3 = some So → Rp G S3 H → va_S (gA G) s.heap H locs → Ex S S3 → Ok S3 this 11 → lv_has ls 2 [(0, .ref this), (1, .int a1)] → W p l e rX11_settle s m args below meth c H locs 0 0 (MQ below (Qn G S none So) args s 0 0 (gA G)) (F0 m 0 ls []) := by
        intro S3 H locs ls hf hR hS hE ok_this hl
        rw [erec0_2] at hf
        exact ih S3 _ _ _ hf hR hS hE ok_this hl
      refine lv_aload_n hx hb dX11_settle_0 rfl (lv_at hl 0 rfl) ?_
      refine gf_RX11_142 hC hR ok_this dX11_settle_1 ?_
      refine lv_if_le (tgt := 89) hx hb dX11_settle_4 (by decide) (fun hc => ?_) (fun hc => ?_)
      · replace hf := if_t hf hc
        exact r_vret hC hR hS hE hf dX11_settle_89
      · replace hf := if_f hf hc
        refine lv_aload_n hx hb dX11_settle_7 rfl (lv_at hl 0 rfl) ?_
        obtain ⟨q4, hq5, ok_q4, hf⟩ := gR_of hf
        refine gf_RX11_26 hC hR ok_this hq5 dX11_settle_8 ?_
        refine lv_aload_n hx hb dX11_settle_11 rfl (lv_at hl 0 rfl) ?_
        refine gf_RX11_142 hC hR ok_this dX11_settle_12 ?_
        refine lv_iconst (v := 1) hx hb dX11_settle_15 (by decide) ?_
        refine lv_isub hx hb dX11_settle_16 ?_
        obtain ⟨hi6, hf⟩ := ck_of hf
        refine r_iald hC hR ok_q4 hi6 dX11_settle_17 ?_
        obtain ⟨x10, S7, hc8, hf⟩ := cl_of hf
        refine cl_RX11_145 (As := [.int (mI S3 q4 ((mI S3 this 20) - (1 : Int32)).toNatClampNeg)]) (rest := []) hC hR hS (c_X11_rank l G n (mI S3 q4 ((mI S3 this 20) - (1 : Int32)).toNatClampNeg) S3 x10 S7 hc8 ) rfl ⟨Nat.le_of_ble_eq_true rfl, Nat.le_of_ble_eq_true rfl⟩ hl.1 rfl (Nat.le_of_ble_eq_true rfl) dX11_settle_18 (Nat.zero_le _) (Nat.zero_le _) (fun H locs hR hS hE9 => ?_)
        have ok_this := hE9 _ _ ok_this
        have ok_q4 := hE9 _ _ ok_q4
        have hE := hE.tr hE9
        refine lv_iload_n hx hb dX11_settle_21 rfl (lv_at hl 1 rfl) ?_
        refine lv_icmp_lt (tgt := 89) hx hb dX11_settle_22 (by decide) (fun hc => ?_) (fun hc => ?_)
        · replace hf := if_t hf hc
          exact r_vret hC hR hS hE hf dX11_settle_89
        · replace hf := if_f hf hc
          refine lv_aload_n hx hb dX11_settle_25 rfl (lv_at hl 0 rfl) ?_
          refine lv_dup hx hb dX11_settle_26 rfl ?_
          refine gf_RX11_142 hC hR ok_this dX11_settle_27 ?_
          refine lv_iconst (v := 1) hx hb dX11_settle_30 (by decide) ?_
          refine lv_isub hx hb dX11_settle_31 ?_
          refine pf_RX11_142 hC hR hS ok_this dX11_settle_32 hf (fun S11 H locs hf hR hS hE12 => ?_)
          have ok_this := hE12 _ _ ok_this
          have ok_q4 := hE12 _ _ ok_q4
          have hE := hE.tr hE12
          refine lv_aload_n hx hb dX11_settle_35 rfl (lv_at hl 0 rfl) ?_
          refine lv_aload_n hx hb dX11_settle_36 rfl (lv_at hl 0 rfl) ?_
          obtain ⟨q13, hq14, ok_q13, hf⟩ := gR_of hf
          refine gf_RX11_26 hC hR ok_this hq14 dX11_settle_37 ?_
          refine lv_aload_n hx hb dX11_settle_40 rfl (lv_at hl 0 rfl) ?_
          refine gf_RX11_142 hC hR ok_this dX11_settle_41 ?_
          obtain ⟨hi15, hf⟩ := ck_of hf
          refine r_iald hC hR ok_q13 hi15 dX11_settle_44 ?_
          refine lv_iconst (v := 0) hx hb dX11_settle_45 (by decide) ?_
          obtain ⟨S16, hc17, hf⟩ := cv_of hf
          refine cl_RX11_148 (As := [.int (mI S11 q13 (mI S11 this 20).toNatClampNeg), .int (0 : Int32)]) (rest := []) hC hR hS (c_X11_emit l G n this (mI S11 q13 (mI S11 this 20).toNatClampNeg) (0 : Int32) S11 S16 hc17 ok_this) ok_this rfl ⟨Nat.le_of_ble_eq_true rfl, Nat.le_of_ble_eq_true rfl⟩ hl.1 rfl (Nat.le_of_ble_eq_true rfl) dX11_settle_46 (Nat.zero_le _) (Nat.zero_le _) (fun H locs hR hS hE18 => ?_)
          have ok_this := hE18 _ _ ok_this
          have ok_q4 := hE18 _ _ ok_q4
          have ok_q13 := hE18 _ _ ok_q13
          have hE := hE.tr hE18
          refine lv_aload_n hx hb dX11_settle_49 rfl (lv_at hl 0 rfl) ?_
          obtain ⟨q19, hq20, ok_q19, hf⟩ := gR_of hf
          refine gf_RX11_26 hC hR ok_this hq20 dX11_settle_50 ?_
          refine lv_aload_n hx hb dX11_settle_53 rfl (lv_at hl 0 rfl) ?_
          refine gf_RX11_142 hC hR ok_this dX11_settle_54 ?_
          obtain ⟨hi21, hf⟩ := ck_of hf
          refine r_iald hC hR ok_q19 hi21 dX11_settle_57 ?_
          refine lv_iconst (v := 2) hx hb dX11_settle_58 (by decide) ?_
          obtain ⟨j76_23, ej76_23, hf⟩ := jn_of1 hf
          have hj76_22 : ∀ (S24 : MS) (H : Heap) (locs : List Loc) (ls : Array Slot), j76_23 S24 = some So → Rp G S24 H → va_S (gA G) s.heap H locs → Ex S S24 → Ok S24 this 11 → lv_has ls 2 [(0, .ref this), (1, .int a1)] → W p l e rX11_settle s m args below meth c H locs 0 0 (MQ below (Qn G S none So) args s 0 0 (gA G)) (F0 m 76 ls []) := by
            intro S24 H locs ls hf hR hS hE ok_this hl
            rw [ej76_23] at hf
            refine lv_aload_n hx hb dX11_settle_76 rfl (lv_at hl 0 rfl) ?_
            refine lv_dup hx hb dX11_settle_77 rfl ?_
            refine gf_RX11_151 hC hR ok_this dX11_settle_78 ?_
            refine lv_iconst (v := 1) hx hb dX11_settle_81 (by decide) ?_
            refine lv_isub hx hb dX11_settle_82 ?_
            refine pf_RX11_151 hC hR hS ok_this dX11_settle_83 hf (fun S25 H locs hf hR hS hE26 => ?_)
            have ok_this := hE26 _ _ ok_this
            have hE := hE.tr hE26
            refine lv_goto (tgt := 0) hx hb dX11_settle_86 (by decide) ?_
            exact hL0_1 S25 _ _ _ hf hR hS hE ok_this (lv_sub hl [0, 1] rfl)
          refine lv_icmp_eq (tgt := 76) hx hb dX11_settle_59 (by decide) (fun hc => ?_) (fun hc => ?_)
          · replace hf := if_t hf hc
            exact hj76_22 S16 _ _ _ hf hR hS hE ok_this (lv_sub hl [0, 1] rfl)
          · replace hf := if_f hf hc
            refine lv_aload_n hx hb dX11_settle_62 rfl (lv_at hl 0 rfl) ?_
            obtain ⟨q27, hq28, ok_q27, hf⟩ := gR_of hf
            refine gf_RX11_26 hC hR ok_this hq28 dX11_settle_63 ?_
            refine lv_aload_n hx hb dX11_settle_66 rfl (lv_at hl 0 rfl) ?_
            refine gf_RX11_142 hC hR ok_this dX11_settle_67 ?_
            obtain ⟨hi29, hf⟩ := ck_of hf
            refine r_iald hC hR ok_q27 hi29 dX11_settle_70 ?_
            refine lv_bipush (v := 20) hx hb dX11_settle_71 (by decide) ?_
            refine lv_icmp_ne (tgt := 0) hx hb dX11_settle_73 (by decide) (fun hc => ?_) (fun hc => ?_)
            · replace hf := if_f hf hc
              exact hL0_1 S16 _ _ _ hf hR hS hE ok_this (lv_sub hl [0, 1] rfl)
            · replace hf := if_t hf hc
              exact hj76_22 S16 _ _ _ hf hR hS hE ok_this (lv_sub hl [0, 1] rfl)
  exact hh31 n S _ _ _ hf hR hS hE ok_this (lv_sub hl [0, 1] rfl)
abbrev rX11_whole : Room := { frames := 2, cells := 0, slots := 0, locals := 43 }
def f_X11_whole (n : Nat) (this : Nat) (S : MS) : Option (MS) :=
  zb (1 : Int32) (bd (sI S this 22 (1 : Int32)) fun S1 => cv (f_X11_settle n this (7 : Int32) S1) fun S4 => some S4)
set_option maxRecDepth 100000 in
set_option maxHeartbeats 4000000 in
theorem c_X11_whole (l : Launch) (G : Gx) (n : Nat) (this : Nat) (S : MS) (So : MS) (hf : f_X11_whole n this S = some So) (ok_this : Ok S this 11) : Cn G l yX11_whole cX11_whole 1 none rX11_whole [.ref this] S none So := by
  refine Cn.of (by decide) (Nat.le_of_ble_eq_true rfl) ?_
  intro p e s m args below meth c hC hname hR ls hl
  have hC : Cx G RX11 cX11_whole 1 none p s m args meth c := hC
  have hl : lv_has ls 1 [(0, .ref this)] := hl
  have hx := hC.x
  have hb := hC.b
  have hS : va_S (gA G) s.heap s.heap [] := va_S.rf
  have hE : Ex S S := Ex.rf S
  unfold f_X11_whole at hf
  refine lv_aload_n hx hb dX11_whole_0 rfl (lv_at hl 0 rfl) ?_
  refine lv_iconst (v := 1) hx hb dX11_whole_1 (by decide) ?_
  obtain ⟨hz2, hf⟩ := zb_of hf
  refine pf_RX11_154 hC hR hS ok_this hz2 dX11_whole_2 hf (fun S1 H locs hf hR hS hE3 => ?_)
  have ok_this := hE3 _ _ ok_this
  have hE := hE.tr hE3
  refine lv_aload_n hx hb dX11_whole_5 rfl (lv_at hl 0 rfl) ?_
  refine lv_bipush (v := 7) hx hb dX11_whole_6 (by decide) ?_
  obtain ⟨S4, hc5, hf⟩ := cv_of hf
  refine cl_RX11_158 (As := [.int (7 : Int32)]) (rest := []) hC hR hS (c_X11_settle l G n this (7 : Int32) S1 S4 hc5 ok_this) ok_this rfl ⟨Nat.le_of_ble_eq_true rfl, Nat.le_of_ble_eq_true rfl⟩ hl.1 rfl (Nat.le_of_ble_eq_true rfl) dX11_whole_8 (Nat.zero_le _) (Nat.zero_le _) (fun H locs hR hS hE6 => ?_)
  have ok_this := hE6 _ _ ok_this
  have hE := hE.tr hE6
  exact r_vret hC hR hS hE hf dX11_whole_11
abbrev rX11_marker : Room := { frames := 0, cells := 0, slots := 0, locals := 0 }
def f_X11_marker_L7 (n : Nat) (this : Nat) : Nat → Int32 → MS → Option (Int32 × MS)
  | 0, _, _ => none
  | k + 1, x4, S5 => jn (f_X11_marker_L7 n this k) fun rec7_3 => (if x4 < 0 then some (x4, S5) else gR S5 (mR S5 this 19) 12 fun q6 => ck (inb x4 (mN S5 q6)) ((if (40 : Int32) ≤ (mI S5 q6 x4.toNatClampNeg) then some (x4, S5) else bd (x4 + (-1 : Int32)) fun x9 => rec7_3 x9 S5)))
def f_X11_marker (n : Nat) (this : Nat) (S : MS) : Option (Int32 × MS) :=
  bd ((mI S this 20) - (1 : Int32)) fun x1 => f_X11_marker_L7 n this n x1 S
set_option maxRecDepth 100000 in
set_option maxHeartbeats 4000000 in
theorem c_X11_marker (l : Launch) (G : Gx) (n : Nat) (this : Nat) (S : MS) (ro : Int32) (So : MS) (hf : f_X11_marker n this S = some (ro, So)) (ok_this : Ok S this 11) : Cn G l yX11_marker cX11_marker 2 (some .int) rX11_marker [.ref this] S (some (.int ro)) So := by
  refine Cn.of (by decide) (Nat.le_of_ble_eq_true rfl) ?_
  intro p e s m args below meth c hC hname hR ls hl
  have hC : Cx G RX11 cX11_marker 2 (some .int) p s m args meth c := hC
  have hl : lv_has ls 2 [(0, .ref this)] := hl
  have hx := hC.x
  have hb := hC.b
  have hS : va_S (gA G) s.heap s.heap [] := va_S.rf
  have hE : Ex S S := Ex.rf S
  unfold f_X11_marker at hf
  refine lv_aload_n hx hb dX11_marker_0 rfl (lv_at hl 0 rfl) ?_
  refine gf_RX11_142 hC hR ok_this dX11_marker_1 ?_
  refine lv_iconst (v := 1) hx hb dX11_marker_4 (by decide) ?_
  refine lv_isub hx hb dX11_marker_5 ?_
  refine bdi hf (fun x1 hf => ?_)
  refine lv_istore_n (lv' := [(1, .int x1), (0, .ref this)]) hx hb dX11_marker_6 rfl hl (by decide) rfl (fun ls hl => ?_)
  have hh10 : ∀ k : Nat, ∀ (x4 : Int32) (S5 : MS) (H : Heap) (locs : List Loc) (ls : Array Slot), f_X11_marker_L7 n this k x4 S5 = some (ro, So) → Rp G S5 H → va_S (gA G) s.heap H locs → Ex S S5 → Ok S5 this 11 → lv_has ls 2 [(0, .ref this), (1, .int x4)] → W p l e rX11_marker s m args below meth c H locs 0 0 (MQ below (Qn G S (some (.int ro)) So) args s 0 0 (gA G)) (F0 m 7 ls []) := by
    intro k
    induction k with
    | zero =>
      intro x4 S5 H locs ls hf hR hS hE ok_this hl
      exact absurd hf (by rw [f_X11_marker_L7]; exact fun h => by cases h)
    | succ k ih =>
      intro x4 S5 H locs ls hf hR hS hE ok_this hl
      rw [f_X11_marker_L7] at hf
      obtain ⟨rec7_3, erec7_3, hf⟩ := jn_of2 hf
      have hL7_2 : ∀ (x4 : Int32) (S5 : MS) (H : Heap) (locs : List Loc) (ls : Array Slot), rec7_3 x4 S5 = some (ro, So) → Rp G S5 H → va_S (gA G) s.heap H locs → Ex S S5 → Ok S5 this 11 → lv_has ls 2 [(0, .ref this), (1, .int x4)] → W p l e rX11_marker s m args below meth c H locs 0 0 (MQ below (Qn G S (some (.int ro)) So) args s 0 0 (gA G)) (F0 m 7 ls []) := by
        intro x4 S5 H locs ls hf hR hS hE ok_this hl
        rw [erec7_3] at hf
        exact ih x4 S5 _ _ _ hf hR hS hE ok_this hl
      refine lv_iload_n hx hb dX11_marker_7 rfl (lv_at hl 1 rfl) ?_
      refine lv_if_lt (tgt := 28) hx hb dX11_marker_8 (by decide) (fun hc => ?_) (fun hc => ?_)
      · replace hf := if_t hf hc
        refine lv_iload_n hx hb dX11_marker_28 rfl (lv_at hl 1 rfl) ?_
        exact r_iret hC hR hS hE hf dX11_marker_29
      · replace hf := if_f hf hc
        refine lv_aload_n hx hb dX11_marker_11 rfl (lv_at hl 0 rfl) ?_
        obtain ⟨q6, hq7, ok_q6, hf⟩ := gR_of hf
        refine gf_RX11_26 hC hR ok_this hq7 dX11_marker_12 ?_
        refine lv_iload_n hx hb dX11_marker_15 rfl (lv_at hl 1 rfl) ?_
        obtain ⟨hi8, hf⟩ := ck_of hf
        refine r_iald hC hR ok_q6 hi8 dX11_marker_16 ?_
        refine lv_bipush (v := 40) hx hb dX11_marker_17 (by decide) ?_
        refine lv_icmp_ge (tgt := 28) hx hb dX11_marker_19 (by decide) (fun hc => ?_) (fun hc => ?_)
        · replace hf := if_t hf hc
          refine lv_iload_n hx hb dX11_marker_28 rfl (lv_at hl 1 rfl) ?_
          exact r_iret hC hR hS hE hf dX11_marker_29
        · replace hf := if_f hf hc
          refine r_iinc (n := -1) (z := -1) (lv' := fun x9 => [(1, .int x9), (0, .ref this)]) hx hb dX11_marker_22 hl (k := 1) rfl (by decide) (by decide) (fun _ => rfl) hf (fun x9 ls hf hl => ?_)
          refine lv_goto (tgt := 7) hx hb dX11_marker_25 (by decide) ?_
          exact hL7_2 x9 S5 _ _ _ hf hR hS hE ok_this (lv_sub hl [1, 0] rfl)
  exact hh10 n x1 S _ _ _ hf hR hS hE ok_this (lv_sub hl [1, 0] rfl)
abbrev rX11_isCompared : Room := { frames := 1, cells := 0, slots := 0, locals := 20 }
def f_X11_isCompared_L7 (n : Nat) (this : Nat) (j30_3 : Int32 → MS → Option (Int32 × MS)) : Nat → Int32 → MS → Option (Int32 × MS)
  | 0, _, _ => none
  | k + 1, x15, S16 => jn (f_X11_isCompared_L7 n this j30_3 k) fun rec7_14 => (if x15 < 0 then j30_3 x15 S16 else gR S16 (mR S16 this 19) 12 fun q17 => ck (inb x15 (mN S16 q17)) (cl (f_X11_rank n (mI S16 q17 x15.toNatClampNeg) S16) fun x23 S20 => (if x23 ≤ (4 : Int32) then j30_3 x15 S20 else bd (x15 + (-1 : Int32)) fun x24 => rec7_14 x24 S20)))
def f_X11_isCompared (n : Nat) (this : Nat) (S : MS) : Option (Int32 × MS) :=
  bd ((mI S this 20) - (1 : Int32)) fun x1 => jn (fun (x4 : Int32) (S5 : MS) => (if x4 < 0 then zb (0 : Int32) (some ((0 : Int32), S5)) else gR S5 (mR S5 this 19) 12 fun q6 => ck (inb x4 (mN S5 q6)) (cl (f_X11_rank n (mI S5 q6 x4.toNatClampNeg) S5) fun x12 S9 => (if x12 = (4 : Int32) then zb (1 : Int32) (some ((1 : Int32), S9)) else zb (0 : Int32) (some ((0 : Int32), S9)))))) fun j30_3 => f_X11_isCompared_L7 n this j30_3 n x1 S
set_option maxRecDepth 100000 in
set_option maxHeartbeats 4000000 in
theorem c_X11_isCompared (l : Launch) (G : Gx) (n : Nat) (this : Nat) (S : MS) (ro : Int32) (So : MS) (hf : f_X11_isCompared n this S = some (ro, So)) (ok_this : Ok S this 11) : Cn G l yX11_isCompared cX11_isCompared 2 (some .boolean) rX11_isCompared [.ref this] S (some (.int ro)) So := by
  refine Cn.of (by decide) (Nat.le_of_ble_eq_true rfl) ?_
  intro p e s m args below meth c hC hname hR ls hl
  have hC : Cx G RX11 cX11_isCompared 2 (some .boolean) p s m args meth c := hC
  have hl : lv_has ls 2 [(0, .ref this)] := hl
  have hx := hC.x
  have hb := hC.b
  have hS : va_S (gA G) s.heap s.heap [] := va_S.rf
  have hE : Ex S S := Ex.rf S
  unfold f_X11_isCompared at hf
  refine lv_aload_n hx hb dX11_isCompared_0 rfl (lv_at hl 0 rfl) ?_
  refine gf_RX11_142 hC hR ok_this dX11_isCompared_1 ?_
  refine lv_iconst (v := 1) hx hb dX11_isCompared_4 (by decide) ?_
  refine lv_isub hx hb dX11_isCompared_5 ?_
  refine bdi hf (fun x1 hf => ?_)
  refine lv_istore_n (lv' := [(1, .int x1), (0, .ref this)]) hx hb dX11_isCompared_6 rfl hl (by decide) rfl (fun ls hl => ?_)
  obtain ⟨j30_3, ej30_3, hf⟩ := jn_of2 hf
  have hj30_2 : ∀ (x4 : Int32) (S5 : MS) (H : Heap) (locs : List Loc) (ls : Array Slot), j30_3 x4 S5 = some (ro, So) → Rp G S5 H → va_S (gA G) s.heap H locs → Ex S S5 → Ok S5 this 11 → lv_has ls 2 [(0, .ref this), (1, .int x4)] → W p l e rX11_isCompared s m args below meth c H locs 0 0 (MQ below (Qn G S (some (.int ro)) So) args s 0 0 (gA G)) (F0 m 30 ls []) := by
    intro x4 S5 H locs ls hf hR hS hE ok_this hl
    rw [ej30_3] at hf
    refine lv_iload_n hx hb dX11_isCompared_30 rfl (lv_at hl 1 rfl) ?_
    refine lv_if_lt (tgt := 51) hx hb dX11_isCompared_31 (by decide) (fun hc => ?_) (fun hc => ?_)
    · replace hf := if_t hf hc
      refine lv_iconst (v := 0) hx hb dX11_isCompared_51 (by decide) ?_
      exact r_zret hC hR hS hE hf dX11_isCompared_52
    · replace hf := if_f hf hc
      refine lv_aload_n hx hb dX11_isCompared_34 rfl (lv_at hl 0 rfl) ?_
      obtain ⟨q6, hq7, ok_q6, hf⟩ := gR_of hf
      refine gf_RX11_26 hC hR ok_this hq7 dX11_isCompared_35 ?_
      refine lv_iload_n hx hb dX11_isCompared_38 rfl (lv_at hl 1 rfl) ?_
      obtain ⟨hi8, hf⟩ := ck_of hf
      refine r_iald hC hR ok_q6 hi8 dX11_isCompared_39 ?_
      obtain ⟨x12, S9, hc10, hf⟩ := cl_of hf
      refine cl_RX11_145 (As := [.int (mI S5 q6 x4.toNatClampNeg)]) (rest := []) hC hR hS (c_X11_rank l G n (mI S5 q6 x4.toNatClampNeg) S5 x12 S9 hc10 ) rfl ⟨Nat.le_of_ble_eq_true rfl, Nat.le_of_ble_eq_true rfl⟩ hl.1 rfl (Nat.le_of_ble_eq_true rfl) dX11_isCompared_40 (Nat.zero_le _) (Nat.zero_le _) (fun H locs hR hS hE11 => ?_)
      have ok_this := hE11 _ _ ok_this
      have ok_q6 := hE11 _ _ ok_q6
      have hE := hE.tr hE11
      refine lv_iconst (v := 4) hx hb dX11_isCompared_43 (by decide) ?_
      refine lv_icmp_ne (tgt := 51) hx hb dX11_isCompared_44 (by decide) (fun hc => ?_) (fun hc => ?_)
      · replace hf := if_f hf hc
        refine lv_iconst (v := 0) hx hb dX11_isCompared_51 (by decide) ?_
        exact r_zret hC hR hS hE hf dX11_isCompared_52
      · replace hf := if_t hf hc
        refine lv_iconst (v := 1) hx hb dX11_isCompared_47 (by decide) ?_
        refine lv_goto (tgt := 52) hx hb dX11_isCompared_48 (by decide) ?_
        exact r_zret hC hR hS hE hf dX11_isCompared_52
  have hh25 : ∀ k : Nat, ∀ (x15 : Int32) (S16 : MS) (H : Heap) (locs : List Loc) (ls : Array Slot), f_X11_isCompared_L7 n this j30_3 k x15 S16 = some (ro, So) → Rp G S16 H → va_S (gA G) s.heap H locs → Ex S S16 → Ok S16 this 11 → lv_has ls 2 [(0, .ref this), (1, .int x15)] → W p l e rX11_isCompared s m args below meth c H locs 0 0 (MQ below (Qn G S (some (.int ro)) So) args s 0 0 (gA G)) (F0 m 7 ls []) := by
    intro k
    induction k with
    | zero =>
      intro x15 S16 H locs ls hf hR hS hE ok_this hl
      exact absurd hf (by rw [f_X11_isCompared_L7]; exact fun h => by cases h)
    | succ k ih =>
      intro x15 S16 H locs ls hf hR hS hE ok_this hl
      rw [f_X11_isCompared_L7] at hf
      obtain ⟨rec7_14, erec7_14, hf⟩ := jn_of2 hf
      have hL7_13 : ∀ (x15 : Int32) (S16 : MS) (H : Heap) (locs : List Loc) (ls : Array Slot), rec7_14 x15 S16 = some (ro, So) → Rp G S16 H → va_S (gA G) s.heap H locs → Ex S S16 → Ok S16 this 11 → lv_has ls 2 [(0, .ref this), (1, .int x15)] → W p l e rX11_isCompared s m args below meth c H locs 0 0 (MQ below (Qn G S (some (.int ro)) So) args s 0 0 (gA G)) (F0 m 7 ls []) := by
        intro x15 S16 H locs ls hf hR hS hE ok_this hl
        rw [erec7_14] at hf
        exact ih x15 S16 _ _ _ hf hR hS hE ok_this hl
      refine lv_iload_n hx hb dX11_isCompared_7 rfl (lv_at hl 1 rfl) ?_
      refine lv_if_lt (tgt := 30) hx hb dX11_isCompared_8 (by decide) (fun hc => ?_) (fun hc => ?_)
      · replace hf := if_t hf hc
        exact hj30_2 x15 S16 _ _ _ hf hR hS hE ok_this (lv_sub hl [0, 1] rfl)
      · replace hf := if_f hf hc
        refine lv_aload_n hx hb dX11_isCompared_11 rfl (lv_at hl 0 rfl) ?_
        obtain ⟨q17, hq18, ok_q17, hf⟩ := gR_of hf
        refine gf_RX11_26 hC hR ok_this hq18 dX11_isCompared_12 ?_
        refine lv_iload_n hx hb dX11_isCompared_15 rfl (lv_at hl 1 rfl) ?_
        obtain ⟨hi19, hf⟩ := ck_of hf
        refine r_iald hC hR ok_q17 hi19 dX11_isCompared_16 ?_
        obtain ⟨x23, S20, hc21, hf⟩ := cl_of hf
        refine cl_RX11_145 (As := [.int (mI S16 q17 x15.toNatClampNeg)]) (rest := []) hC hR hS (c_X11_rank l G n (mI S16 q17 x15.toNatClampNeg) S16 x23 S20 hc21 ) rfl ⟨Nat.le_of_ble_eq_true rfl, Nat.le_of_ble_eq_true rfl⟩ hl.1 rfl (Nat.le_of_ble_eq_true rfl) dX11_isCompared_17 (Nat.zero_le _) (Nat.zero_le _) (fun H locs hR hS hE22 => ?_)
        have ok_this := hE22 _ _ ok_this
        have ok_q17 := hE22 _ _ ok_q17
        have hE := hE.tr hE22
        refine lv_iconst (v := 4) hx hb dX11_isCompared_20 (by decide) ?_
        refine lv_icmp_le (tgt := 30) hx hb dX11_isCompared_21 (by decide) (fun hc => ?_) (fun hc => ?_)
        · replace hf := if_t hf hc
          exact hj30_2 x15 S20 _ _ _ hf hR hS hE ok_this (lv_sub hl [0, 1] rfl)
        · replace hf := if_f hf hc
          refine r_iinc (n := -1) (z := -1) (lv' := fun x24 => [(1, .int x24), (0, .ref this)]) hx hb dX11_isCompared_24 hl (k := 1) rfl (by decide) (by decide) (fun _ => rfl) hf (fun x24 ls hf hl => ?_)
          refine lv_goto (tgt := 7) hx hb dX11_isCompared_27 (by decide) ?_
          exact hL7_13 x24 S20 _ _ _ hf hR hS hE ok_this (lv_sub hl [1, 0] rfl)
  exact hh25 n x1 S _ _ _ hf hR hS hE ok_this (lv_sub hl [1, 0] rfl)
abbrev rX11_isAskAhead : Room := { frames := 1, cells := 0, slots := 0, locals := 22 }
def f_X11_isAskAhead (n : Nat) (this : Nat) (a1 : Int32) (S : MS) : Option (Int32 × MS) :=
  (if a1 = 0 then zb (0 : Int32) (some ((0 : Int32), S)) else cl (f_X11_marker n this S) fun x4 S1 => (if 0 ≤ x4 then zb (0 : Int32) (some ((0 : Int32), S1)) else (if (mI S1 this 20) = 0 then zb (1 : Int32) (some ((1 : Int32), S1)) else gR S1 (mR S1 this 19) 12 fun q5 => ck (inb ((mI S1 this 20) - (1 : Int32)) (mN S1 q5)) (cl (f_X11_rank n (mI S1 q5 ((mI S1 this 20) - (1 : Int32)).toNatClampNeg) S1) fun x11 S8 => cl (f_X11_isIn n x11 (1 : Int32) (3 : Int32) S8) fun x15 S12 => (if x15 = 0 then zb (0 : Int32) (some ((0 : Int32), S12)) else zb (1 : Int32) (some ((1 : Int32), S12)))))))
set_option maxRecDepth 100000 in
set_option maxHeartbeats 4000000 in
theorem c_X11_isAskAhead (l : Launch) (G : Gx) (n : Nat) (this : Nat) (a1 : Int32) (S : MS) (ro : Int32) (So : MS) (hf : f_X11_isAskAhead n this a1 S = some (ro, So)) (ok_this : Ok S this 11) : Cn G l yX11_isAskAhead cX11_isAskAhead 2 (some .boolean) rX11_isAskAhead [.ref this, .int a1] S (some (.int ro)) So := by
  refine Cn.of (by decide) (Nat.le_of_ble_eq_true rfl) ?_
  intro p e s m args below meth c hC hname hR ls hl
  have hC : Cx G RX11 cX11_isAskAhead 2 (some .boolean) p s m args meth c := hC
  have hl : lv_has ls 2 [(0, .ref this), (1, .int a1)] := hl
  have hx := hC.x
  have hb := hC.b
  have hS : va_S (gA G) s.heap s.heap [] := va_S.rf
  have hE : Ex S S := Ex.rf S
  unfold f_X11_isAskAhead at hf
  refine lv_iload_n hx hb dX11_isAskAhead_0 rfl (lv_at hl 1 rfl) ?_
  refine lv_if_eq (tgt := 44) hx hb dX11_isAskAhead_1 (by decide) (fun hc => ?_) (fun hc => ?_)
  · replace hf := if_t hf hc
    refine lv_iconst (v := 0) hx hb dX11_isAskAhead_44 (by decide) ?_
    exact r_zret hC hR hS hE hf dX11_isAskAhead_45
  · replace hf := if_f hf hc
    refine lv_aload_n hx hb dX11_isAskAhead_4 rfl (lv_at hl 0 rfl) ?_
    obtain ⟨x4, S1, hc2, hf⟩ := cl_of hf
    refine cl_RX11_161 (As := []) (rest := []) hC hR hS (c_X11_marker l G n this S x4 S1 hc2 ok_this) ok_this rfl ⟨Nat.le_of_ble_eq_true rfl, Nat.le_of_ble_eq_true rfl⟩ hl.1 rfl (Nat.le_of_ble_eq_true rfl) dX11_isAskAhead_5 (Nat.zero_le _) (Nat.zero_le _) (fun H locs hR hS hE3 => ?_)
    have ok_this := hE3 _ _ ok_this
    have hE := hE.tr hE3
    refine lv_if_ge (tgt := 44) hx hb dX11_isAskAhead_8 (by decide) (fun hc => ?_) (fun hc => ?_)
    · replace hf := if_t hf hc
      refine lv_iconst (v := 0) hx hb dX11_isAskAhead_44 (by decide) ?_
      exact r_zret hC hR hS hE hf dX11_isAskAhead_45
    · replace hf := if_f hf hc
      refine lv_aload_n hx hb dX11_isAskAhead_11 rfl (lv_at hl 0 rfl) ?_
      refine gf_RX11_142 hC hR ok_this dX11_isAskAhead_12 ?_
      refine lv_if_eq (tgt := 40) hx hb dX11_isAskAhead_15 (by decide) (fun hc => ?_) (fun hc => ?_)
      · replace hf := if_t hf hc
        refine lv_iconst (v := 1) hx hb dX11_isAskAhead_40 (by decide) ?_
        refine lv_goto (tgt := 45) hx hb dX11_isAskAhead_41 (by decide) ?_
        exact r_zret hC hR hS hE hf dX11_isAskAhead_45
      · replace hf := if_f hf hc
        refine lv_aload_n hx hb dX11_isAskAhead_18 rfl (lv_at hl 0 rfl) ?_
        obtain ⟨q5, hq6, ok_q5, hf⟩ := gR_of hf
        refine gf_RX11_26 hC hR ok_this hq6 dX11_isAskAhead_19 ?_
        refine lv_aload_n hx hb dX11_isAskAhead_22 rfl (lv_at hl 0 rfl) ?_
        refine gf_RX11_142 hC hR ok_this dX11_isAskAhead_23 ?_
        refine lv_iconst (v := 1) hx hb dX11_isAskAhead_26 (by decide) ?_
        refine lv_isub hx hb dX11_isAskAhead_27 ?_
        obtain ⟨hi7, hf⟩ := ck_of hf
        refine r_iald hC hR ok_q5 hi7 dX11_isAskAhead_28 ?_
        obtain ⟨x11, S8, hc9, hf⟩ := cl_of hf
        refine cl_RX11_145 (As := [.int (mI S1 q5 ((mI S1 this 20) - (1 : Int32)).toNatClampNeg)]) (rest := []) hC hR hS (c_X11_rank l G n (mI S1 q5 ((mI S1 this 20) - (1 : Int32)).toNatClampNeg) S1 x11 S8 hc9 ) rfl ⟨Nat.le_of_ble_eq_true rfl, Nat.le_of_ble_eq_true rfl⟩ hl.1 rfl (Nat.le_of_ble_eq_true rfl) dX11_isAskAhead_29 (Nat.zero_le _) (Nat.zero_le _) (fun H locs hR hS hE10 => ?_)
        have ok_this := hE10 _ _ ok_this
        have ok_q5 := hE10 _ _ ok_q5
        have hE := hE.tr hE10
        refine lv_iconst (v := 1) hx hb dX11_isAskAhead_32 (by decide) ?_
        refine lv_iconst (v := 3) hx hb dX11_isAskAhead_33 (by decide) ?_
        obtain ⟨x15, S12, hc13, hf⟩ := cl_of hf
        refine cl_RX11_71 (As := [.int x11, .int (1 : Int32), .int (3 : Int32)]) (rest := []) hC hR hS (c_X11_isIn l G n x11 (1 : Int32) (3 : Int32) S8 x15 S12 hc13 ) rfl ⟨Nat.le_of_ble_eq_true rfl, Nat.le_of_ble_eq_true rfl⟩ hl.1 rfl (Nat.le_of_ble_eq_true rfl) dX11_isAskAhead_34 (Nat.zero_le _) (Nat.zero_le _) (fun H locs hR hS hE14 => ?_)
        have ok_this := hE14 _ _ ok_this
        have ok_q5 := hE14 _ _ ok_q5
        have hE := hE.tr hE14
        refine lv_if_eq (tgt := 44) hx hb dX11_isAskAhead_37 (by decide) (fun hc => ?_) (fun hc => ?_)
        · replace hf := if_t hf hc
          refine lv_iconst (v := 0) hx hb dX11_isAskAhead_44 (by decide) ?_
          exact r_zret hC hR hS hE hf dX11_isAskAhead_45
        · replace hf := if_f hf hc
          refine lv_iconst (v := 1) hx hb dX11_isAskAhead_40 (by decide) ?_
          refine lv_goto (tgt := 45) hx hb dX11_isAskAhead_41 (by decide) ?_
          exact r_zret hC hR hS hE hf dX11_isAskAhead_45
abbrev rX11_opensBy : Room := { frames := 3, cells := 0, slots := 0, locals := 64 }
def f_X11_opensBy (n : Nat) (this : Nat) (a1 : Int32) (S : MS) : Option (Int32 × MS) :=
  jn (fun (S3 : MS) => jn (fun (S6 : MS) => (if (mI S6 this 21) = (8 : Int32) then some ((3 : Int32), S6) else bd (sI S6 this 21 ((mI S6 this 21) + (1 : Int32))) fun S7 => cv (f_X11_push n this a1 S7) fun S9 => cv (f_X11_nextToken n this S9) fun S12 => some ((0 : Int32), S12))) fun j39_5 => jn (fun (S17 : MS) => (if (mI S17 this 12) = (40 : Int32) then j39_5 S17 else some ((1 : Int32), S17))) fun j28_16 => (if a1 = (41 : Int32) then j28_16 S3 else (if a1 = (42 : Int32) then j28_16 S3 else j39_5 S3))) fun j16_2 => jn (fun (S22 : MS) => cv (f_X11_nextToken n this S22) fun S23 => j16_2 S23) fun j12_21 => (if a1 = (41 : Int32) then j12_21 S else (if a1 = (42 : Int32) then j12_21 S else j16_2 S))
set_option maxRecDepth 100000 in
set_option maxHeartbeats 4000000 in
theorem c_X11_opensBy (l : Launch) (G : Gx) (n : Nat) (this : Nat) (a1 : Int32) (S : MS) (ro : Int32) (So : MS) (hf : f_X11_opensBy n this a1 S = some (ro, So)) (ok_this : Ok S this 11) : Cn G l yX11_opensBy cX11_opensBy 2 (some .int) rX11_opensBy [.ref this, .int a1] S (some (.int ro)) So := by
  refine Cn.of (by decide) (Nat.le_of_ble_eq_true rfl) ?_
  intro p e s m args below meth c hC hname hR ls hl
  have hC : Cx G RX11 cX11_opensBy 2 (some .int) p s m args meth c := hC
  have hl : lv_has ls 2 [(0, .ref this), (1, .int a1)] := hl
  have hx := hC.x
  have hb := hC.b
  have hS : va_S (gA G) s.heap s.heap [] := va_S.rf
  have hE : Ex S S := Ex.rf S
  unfold f_X11_opensBy at hf
  refine lv_iload_n hx hb dX11_opensBy_0 rfl (lv_at hl 1 rfl) ?_
  refine lv_bipush (v := 41) hx hb dX11_opensBy_1 (by decide) ?_
  obtain ⟨j16_2, ej16_2, hf⟩ := jn_of1 hf
  have hj16_1 : ∀ (S3 : MS) (H : Heap) (locs : List Loc) (ls : Array Slot), j16_2 S3 = some (ro, So) → Rp G S3 H → va_S (gA G) s.heap H locs → Ex S S3 → Ok S3 this 11 → lv_has ls 2 [(0, .ref this), (1, .int a1)] → W p l e rX11_opensBy s m args below meth c H locs 0 0 (MQ below (Qn G S (some (.int ro)) So) args s 0 0 (gA G)) (F0 m 16 ls []) := by
    intro S3 H locs ls hf hR hS hE ok_this hl
    rw [ej16_2] at hf
    refine lv_iload_n hx hb dX11_opensBy_16 rfl (lv_at hl 1 rfl) ?_
    refine lv_bipush (v := 41) hx hb dX11_opensBy_17 (by decide) ?_
    obtain ⟨j39_5, ej39_5, hf⟩ := jn_of1 hf
    have hj39_4 : ∀ (S6 : MS) (H : Heap) (locs : List Loc) (ls : Array Slot), j39_5 S6 = some (ro, So) → Rp G S6 H → va_S (gA G) s.heap H locs → Ex S S6 → Ok S6 this 11 → lv_has ls 2 [(0, .ref this), (1, .int a1)] → W p l e rX11_opensBy s m args below meth c H locs 0 0 (MQ below (Qn G S (some (.int ro)) So) args s 0 0 (gA G)) (F0 m 39 ls []) := by
      intro S6 H locs ls hf hR hS hE ok_this hl
      rw [ej39_5] at hf
      refine lv_aload_n hx hb dX11_opensBy_39 rfl (lv_at hl 0 rfl) ?_
      refine gf_RX11_151 hC hR ok_this dX11_opensBy_40 ?_
      refine lv_bipush (v := 8) hx hb dX11_opensBy_43 (by decide) ?_
      refine lv_icmp_ne (tgt := 50) hx hb dX11_opensBy_45 (by decide) (fun hc => ?_) (fun hc => ?_)
      · replace hf := if_f hf hc
        refine lv_aload_n hx hb dX11_opensBy_50 rfl (lv_at hl 0 rfl) ?_
        refine lv_dup hx hb dX11_opensBy_51 rfl ?_
        refine gf_RX11_151 hC hR ok_this dX11_opensBy_52 ?_
        refine lv_iconst (v := 1) hx hb dX11_opensBy_55 (by decide) ?_
        refine lv_iadd hx hb dX11_opensBy_56 ?_
        refine pf_RX11_151 hC hR hS ok_this dX11_opensBy_57 hf (fun S7 H locs hf hR hS hE8 => ?_)
        have ok_this := hE8 _ _ ok_this
        have hE := hE.tr hE8
        refine lv_aload_n hx hb dX11_opensBy_60 rfl (lv_at hl 0 rfl) ?_
        refine lv_iload_n hx hb dX11_opensBy_61 rfl (lv_at hl 1 rfl) ?_
        obtain ⟨S9, hc10, hf⟩ := cv_of hf
        refine cl_RX11_168 (As := [.int a1]) (rest := []) hC hR hS (c_X11_push l G n this a1 S7 S9 hc10 ok_this) ok_this rfl ⟨Nat.le_of_ble_eq_true rfl, Nat.le_of_ble_eq_true rfl⟩ hl.1 rfl (Nat.le_of_ble_eq_true rfl) dX11_opensBy_62 (Nat.zero_le _) (Nat.zero_le _) (fun H locs hR hS hE11 => ?_)
        have ok_this := hE11 _ _ ok_this
        have hE := hE.tr hE11
        refine lv_aload_n hx hb dX11_opensBy_65 rfl (lv_at hl 0 rfl) ?_
        obtain ⟨S12, hc13, hf⟩ := cv_of hf
        refine cl_RX11_165 (As := []) (rest := []) hC hR hS (c_X11_nextToken l G n this S9 S12 hc13 ok_this) ok_this rfl ⟨Nat.le_of_ble_eq_true rfl, Nat.le_of_ble_eq_true rfl⟩ hl.1 rfl (Nat.le_of_ble_eq_true rfl) dX11_opensBy_66 (Nat.zero_le _) (Nat.zero_le _) (fun H locs hR hS hE14 => ?_)
        have ok_this := hE14 _ _ ok_this
        have hE := hE.tr hE14
        refine lv_iconst (v := 0) hx hb dX11_opensBy_69 (by decide) ?_
        exact r_iret hC hR hS hE hf dX11_opensBy_70
      · replace hf := if_t hf hc
        refine lv_iconst (v := 3) hx hb dX11_opensBy_48 (by decide) ?_
        exact r_iret hC hR hS hE hf dX11_opensBy_49
    obtain ⟨j28_16, ej28_16, hf⟩ := jn_of1 hf
    have hj28_15 : ∀ (S17 : MS) (H : Heap) (locs : List Loc) (ls : Array Slot), j28_16 S17 = some (ro, So) → Rp G S17 H → va_S (gA G) s.heap H locs → Ex S S17 → Ok S17 this 11 → lv_has ls 2 [(0, .ref this), (1, .int a1)] → W p l e rX11_opensBy s m args below meth c H locs 0 0 (MQ below (Qn G S (some (.int ro)) So) args s 0 0 (gA G)) (F0 m 28 ls []) := by
      intro S17 H locs ls hf hR hS hE ok_this hl
      rw [ej28_16] at hf
      refine lv_aload_n hx hb dX11_opensBy_28 rfl (lv_at hl 0 rfl) ?_
      refine gf_RX11_111 hC hR ok_this dX11_opensBy_29 ?_
      refine lv_bipush (v := 40) hx hb dX11_opensBy_32 (by decide) ?_
      refine lv_icmp_eq (tgt := 39) hx hb dX11_opensBy_34 (by decide) (fun hc => ?_) (fun hc => ?_)
      · replace hf := if_t hf hc
        exact hj39_4 S17 _ _ _ hf hR hS hE ok_this (lv_sub hl [0, 1] rfl)
      · replace hf := if_f hf hc
        refine lv_iconst (v := 1) hx hb dX11_opensBy_37 (by decide) ?_
        exact r_iret hC hR hS hE hf dX11_opensBy_38
    refine lv_icmp_eq (tgt := 28) hx hb dX11_opensBy_19 (by decide) (fun hc => ?_) (fun hc => ?_)
    · replace hf := if_t hf hc
      exact hj28_15 S3 _ _ _ hf hR hS hE ok_this (lv_sub hl [0, 1] rfl)
    · replace hf := if_f hf hc
      refine lv_iload_n hx hb dX11_opensBy_22 rfl (lv_at hl 1 rfl) ?_
      refine lv_bipush (v := 42) hx hb dX11_opensBy_23 (by decide) ?_
      refine lv_icmp_ne (tgt := 39) hx hb dX11_opensBy_25 (by decide) (fun hc => ?_) (fun hc => ?_)
      · replace hf := if_f hf hc
        exact hj39_4 S3 _ _ _ hf hR hS hE ok_this (lv_sub hl [0, 1] rfl)
      · replace hf := if_t hf hc
        exact hj28_15 S3 _ _ _ hf hR hS hE ok_this (lv_sub hl [0, 1] rfl)
  obtain ⟨j12_21, ej12_21, hf⟩ := jn_of1 hf
  have hj12_20 : ∀ (S22 : MS) (H : Heap) (locs : List Loc) (ls : Array Slot), j12_21 S22 = some (ro, So) → Rp G S22 H → va_S (gA G) s.heap H locs → Ex S S22 → Ok S22 this 11 → lv_has ls 2 [(0, .ref this), (1, .int a1)] → W p l e rX11_opensBy s m args below meth c H locs 0 0 (MQ below (Qn G S (some (.int ro)) So) args s 0 0 (gA G)) (F0 m 12 ls []) := by
    intro S22 H locs ls hf hR hS hE ok_this hl
    rw [ej12_21] at hf
    refine lv_aload_n hx hb dX11_opensBy_12 rfl (lv_at hl 0 rfl) ?_
    obtain ⟨S23, hc24, hf⟩ := cv_of hf
    refine cl_RX11_165 (As := []) (rest := []) hC hR hS (c_X11_nextToken l G n this S22 S23 hc24 ok_this) ok_this rfl ⟨Nat.le_of_ble_eq_true rfl, Nat.le_of_ble_eq_true rfl⟩ hl.1 rfl (Nat.le_of_ble_eq_true rfl) dX11_opensBy_13 (Nat.zero_le _) (Nat.zero_le _) (fun H locs hR hS hE25 => ?_)
    have ok_this := hE25 _ _ ok_this
    have hE := hE.tr hE25
    exact hj16_1 S23 _ _ _ hf hR hS hE ok_this (lv_sub hl [0, 1] rfl)
  refine lv_icmp_eq (tgt := 12) hx hb dX11_opensBy_3 (by decide) (fun hc => ?_) (fun hc => ?_)
  · replace hf := if_t hf hc
    exact hj12_20 S _ _ _ hf hR hS hE ok_this (lv_sub hl [0, 1] rfl)
  · replace hf := if_f hf hc
    refine lv_iload_n hx hb dX11_opensBy_6 rfl (lv_at hl 1 rfl) ?_
    refine lv_bipush (v := 42) hx hb dX11_opensBy_7 (by decide) ?_
    refine lv_icmp_ne (tgt := 16) hx hb dX11_opensBy_9 (by decide) (fun hc => ?_) (fun hc => ?_)
    · replace hf := if_f hf hc
      exact hj16_1 S _ _ _ hf hR hS hE ok_this (lv_sub hl [0, 1] rfl)
    · replace hf := if_t hf hc
      exact hj12_20 S _ _ _ hf hR hS hE ok_this (lv_sub hl [0, 1] rfl)
abbrev rX11_isOf : Room := { frames := 0, cells := 0, slots := 0, locals := 0 }
def f_X11_isOf (_n : Nat) (this : Nat) (a1 : Int32) (S : MS) : Option (Int32 × MS) :=
  (if (mI S this 23) = (2 : Int32) then (if (8 : Int32) < a1 then zb (1 : Int32) (some ((1 : Int32), S)) else (if a1 = (3 : Int32) then zb (1 : Int32) (some ((1 : Int32), S)) else (if a1 = (4 : Int32) then zb (1 : Int32) (some ((1 : Int32), S)) else zb (0 : Int32) (some ((0 : Int32), S))))) else (if a1 < (6 : Int32) then zb (1 : Int32) (some ((1 : Int32), S)) else jn (fun (S3 : MS) => (if (mI S3 this 23) = (3 : Int32) then (if a1 = (8 : Int32) then zb (1 : Int32) (some ((1 : Int32), S3)) else zb (0 : Int32) (some ((0 : Int32), S3))) else zb (0 : Int32) (some ((0 : Int32), S3)))) fun j50_2 => (if (mI S this 23) = (1 : Int32) then (if a1 < (8 : Int32) then zb (1 : Int32) (some ((1 : Int32), S)) else j50_2 S) else j50_2 S)))
set_option maxRecDepth 100000 in
set_option maxHeartbeats 4000000 in
theorem c_X11_isOf (l : Launch) (G : Gx) (n : Nat) (this : Nat) (a1 : Int32) (S : MS) (ro : Int32) (So : MS) (hf : f_X11_isOf n this a1 S = some (ro, So)) (ok_this : Ok S this 11) : Cn G l yX11_isOf cX11_isOf 2 (some .boolean) rX11_isOf [.ref this, .int a1] S (some (.int ro)) So := by
  refine Cn.of (by decide) (Nat.le_of_ble_eq_true rfl) ?_
  intro p e s m args below meth c hC hname hR ls hl
  have hC : Cx G RX11 cX11_isOf 2 (some .boolean) p s m args meth c := hC
  have hl : lv_has ls 2 [(0, .ref this), (1, .int a1)] := hl
  have hx := hC.x
  have hb := hC.b
  have hS : va_S (gA G) s.heap s.heap [] := va_S.rf
  have hE : Ex S S := Ex.rf S
  unfold f_X11_isOf at hf
  refine lv_aload_n hx hb dX11_isOf_0 rfl (lv_at hl 0 rfl) ?_
  refine gf_RX11_225 hC hR ok_this dX11_isOf_1 ?_
  refine lv_iconst (v := 2) hx hb dX11_isOf_4 (by decide) ?_
  refine lv_icmp_ne (tgt := 30) hx hb dX11_isOf_5 (by decide) (fun hc => ?_) (fun hc => ?_)
  · replace hf := if_f hf hc
    refine lv_iload_n hx hb dX11_isOf_30 rfl (lv_at hl 1 rfl) ?_
    refine lv_bipush (v := 6) hx hb dX11_isOf_31 (by decide) ?_
    refine lv_icmp_lt (tgt := 64) hx hb dX11_isOf_33 (by decide) (fun hc => ?_) (fun hc => ?_)
    · replace hf := if_t hf hc
      refine lv_iconst (v := 1) hx hb dX11_isOf_64 (by decide) ?_
      refine lv_goto (tgt := 69) hx hb dX11_isOf_65 (by decide) ?_
      exact r_zret hC hR hS hE hf dX11_isOf_69
    · replace hf := if_f hf hc
      refine lv_aload_n hx hb dX11_isOf_36 rfl (lv_at hl 0 rfl) ?_
      refine gf_RX11_225 hC hR ok_this dX11_isOf_37 ?_
      refine lv_iconst (v := 1) hx hb dX11_isOf_40 (by decide) ?_
      obtain ⟨j50_2, ej50_2, hf⟩ := jn_of1 hf
      have hj50_1 : ∀ (S3 : MS) (H : Heap) (locs : List Loc) (ls : Array Slot), j50_2 S3 = some (ro, So) → Rp G S3 H → va_S (gA G) s.heap H locs → Ex S S3 → Ok S3 this 11 → lv_has ls 2 [(0, .ref this), (1, .int a1)] → W p l e rX11_isOf s m args below meth c H locs 0 0 (MQ below (Qn G S (some (.int ro)) So) args s 0 0 (gA G)) (F0 m 50 ls []) := by
        intro S3 H locs ls hf hR hS hE ok_this hl
        rw [ej50_2] at hf
        refine lv_aload_n hx hb dX11_isOf_50 rfl (lv_at hl 0 rfl) ?_
        refine gf_RX11_225 hC hR ok_this dX11_isOf_51 ?_
        refine lv_iconst (v := 3) hx hb dX11_isOf_54 (by decide) ?_
        refine lv_icmp_ne (tgt := 68) hx hb dX11_isOf_55 (by decide) (fun hc => ?_) (fun hc => ?_)
        · replace hf := if_f hf hc
          refine lv_iconst (v := 0) hx hb dX11_isOf_68 (by decide) ?_
          exact r_zret hC hR hS hE hf dX11_isOf_69
        · replace hf := if_t hf hc
          refine lv_iload_n hx hb dX11_isOf_58 rfl (lv_at hl 1 rfl) ?_
          refine lv_bipush (v := 8) hx hb dX11_isOf_59 (by decide) ?_
          refine lv_icmp_ne (tgt := 68) hx hb dX11_isOf_61 (by decide) (fun hc => ?_) (fun hc => ?_)
          · replace hf := if_f hf hc
            refine lv_iconst (v := 0) hx hb dX11_isOf_68 (by decide) ?_
            exact r_zret hC hR hS hE hf dX11_isOf_69
          · replace hf := if_t hf hc
            refine lv_iconst (v := 1) hx hb dX11_isOf_64 (by decide) ?_
            refine lv_goto (tgt := 69) hx hb dX11_isOf_65 (by decide) ?_
            exact r_zret hC hR hS hE hf dX11_isOf_69
      refine lv_icmp_ne (tgt := 50) hx hb dX11_isOf_41 (by decide) (fun hc => ?_) (fun hc => ?_)
      · replace hf := if_f hf hc
        exact hj50_1 S _ _ _ hf hR hS hE ok_this (lv_sub hl [0, 1] rfl)
      · replace hf := if_t hf hc
        refine lv_iload_n hx hb dX11_isOf_44 rfl (lv_at hl 1 rfl) ?_
        refine lv_bipush (v := 8) hx hb dX11_isOf_45 (by decide) ?_
        refine lv_icmp_lt (tgt := 64) hx hb dX11_isOf_47 (by decide) (fun hc => ?_) (fun hc => ?_)
        · replace hf := if_t hf hc
          refine lv_iconst (v := 1) hx hb dX11_isOf_64 (by decide) ?_
          refine lv_goto (tgt := 69) hx hb dX11_isOf_65 (by decide) ?_
          exact r_zret hC hR hS hE hf dX11_isOf_69
        · replace hf := if_f hf hc
          exact hj50_1 S _ _ _ hf hR hS hE ok_this (lv_sub hl [0, 1] rfl)
  · replace hf := if_t hf hc
    refine lv_iload_n hx hb dX11_isOf_8 rfl (lv_at hl 1 rfl) ?_
    refine lv_bipush (v := 8) hx hb dX11_isOf_9 (by decide) ?_
    refine lv_icmp_gt (tgt := 24) hx hb dX11_isOf_11 (by decide) (fun hc => ?_) (fun hc => ?_)
    · replace hf := if_t hf hc
      refine lv_iconst (v := 1) hx hb dX11_isOf_24 (by decide) ?_
      refine lv_goto (tgt := 29) hx hb dX11_isOf_25 (by decide) ?_
      exact r_zret hC hR hS hE hf dX11_isOf_29
    · replace hf := if_f hf hc
      refine lv_iload_n hx hb dX11_isOf_14 rfl (lv_at hl 1 rfl) ?_
      refine lv_iconst (v := 3) hx hb dX11_isOf_15 (by decide) ?_
      refine lv_icmp_eq (tgt := 24) hx hb dX11_isOf_16 (by decide) (fun hc => ?_) (fun hc => ?_)
      · replace hf := if_t hf hc
        refine lv_iconst (v := 1) hx hb dX11_isOf_24 (by decide) ?_
        refine lv_goto (tgt := 29) hx hb dX11_isOf_25 (by decide) ?_
        exact r_zret hC hR hS hE hf dX11_isOf_29
      · replace hf := if_f hf hc
        refine lv_iload_n hx hb dX11_isOf_19 rfl (lv_at hl 1 rfl) ?_
        refine lv_iconst (v := 4) hx hb dX11_isOf_20 (by decide) ?_
        refine lv_icmp_ne (tgt := 28) hx hb dX11_isOf_21 (by decide) (fun hc => ?_) (fun hc => ?_)
        · replace hf := if_f hf hc
          refine lv_iconst (v := 0) hx hb dX11_isOf_28 (by decide) ?_
          exact r_zret hC hR hS hE hf dX11_isOf_29
        · replace hf := if_t hf hc
          refine lv_iconst (v := 1) hx hb dX11_isOf_24 (by decide) ?_
          refine lv_goto (tgt := 29) hx hb dX11_isOf_25 (by decide) ?_
          exact r_zret hC hR hS hE hf dX11_isOf_29
abbrev rX11_isStrength : Room := { frames := 1, cells := 0, slots := 0, locals := 21 }
def f_X11_isStrength (n : Nat) (this : Nat) (S : MS) : Option (Int32 × MS) :=
  (if ((mI S this 10) - (mI S this 11)) = (8 : Int32) then cl (f_X11_byteAt n this (mI S this 11) S) fun x4 S1 => (if x4 = (115 : Int32) then cl (f_X11_byteAt n this ((mI S1 this 11) + (1 : Int32)) S1) fun x8 S5 => (if x8 = (116 : Int32) then cl (f_X11_byteAt n this ((mI S5 this 11) + (2 : Int32)) S5) fun x12 S9 => (if x12 = (114 : Int32) then cl (f_X11_byteAt n this ((mI S9 this 11) + (3 : Int32)) S9) fun x16 S13 => (if x16 = (101 : Int32) then cl (f_X11_byteAt n this ((mI S13 this 11) + (4 : Int32)) S13) fun x20 S17 => (if x20 = (110 : Int32) then cl (f_X11_byteAt n this ((mI S17 this 11) + (5 : Int32)) S17) fun x24 S21 => (if x24 = (103 : Int32) then cl (f_X11_byteAt n this ((mI S21 this 11) + (6 : Int32)) S21) fun x28 S25 => (if x28 = (116 : Int32) then cl (f_X11_byteAt n this ((mI S25 this 11) + (7 : Int32)) S25) fun x32 S29 => (if x32 = (104 : Int32) then zb (1 : Int32) (some ((1 : Int32), S29)) else zb (0 : Int32) (some ((0 : Int32), S29))) else zb (0 : Int32) (some ((0 : Int32), S25))) else zb (0 : Int32) (some ((0 : Int32), S21))) else zb (0 : Int32) (some ((0 : Int32), S17))) else zb (0 : Int32) (some ((0 : Int32), S13))) else zb (0 : Int32) (some ((0 : Int32), S9))) else zb (0 : Int32) (some ((0 : Int32), S5))) else zb (0 : Int32) (some ((0 : Int32), S1))) else zb (0 : Int32) (some ((0 : Int32), S)))
set_option maxRecDepth 100000 in
set_option maxHeartbeats 4000000 in
theorem c_X11_isStrength (l : Launch) (G : Gx) (n : Nat) (this : Nat) (S : MS) (ro : Int32) (So : MS) (hf : f_X11_isStrength n this S = some (ro, So)) (ok_this : Ok S this 11) : Cn G l yX11_isStrength cX11_isStrength 1 (some .boolean) rX11_isStrength [.ref this] S (some (.int ro)) So := by
  refine Cn.of (by decide) (Nat.le_of_ble_eq_true rfl) ?_
  intro p e s m args below meth c hC hname hR ls hl
  have hC : Cx G RX11 cX11_isStrength 1 (some .boolean) p s m args meth c := hC
  have hl : lv_has ls 1 [(0, .ref this)] := hl
  have hx := hC.x
  have hb := hC.b
  have hS : va_S (gA G) s.heap s.heap [] := va_S.rf
  have hE : Ex S S := Ex.rf S
  unfold f_X11_isStrength at hf
  refine lv_aload_n hx hb dX11_isStrength_0 rfl (lv_at hl 0 rfl) ?_
  refine gf_RX11_101 hC hR ok_this dX11_isStrength_1 ?_
  refine lv_aload_n hx hb dX11_isStrength_4 rfl (lv_at hl 0 rfl) ?_
  refine gf_RX11_108 hC hR ok_this dX11_isStrength_5 ?_
  refine lv_isub hx hb dX11_isStrength_8 ?_
  refine lv_bipush (v := 8) hx hb dX11_isStrength_9 (by decide) ?_
  refine lv_icmp_ne (tgt := 72) hx hb dX11_isStrength_11 (by decide) (fun hc => ?_) (fun hc => ?_)
  · replace hf := if_f hf hc
    refine lv_iconst (v := 0) hx hb dX11_isStrength_72 (by decide) ?_
    exact r_zret hC hR hS hE hf dX11_isStrength_73
  · replace hf := if_t hf hc
    refine lv_aload_n hx hb dX11_isStrength_14 rfl (lv_at hl 0 rfl) ?_
    refine lv_aload_n hx hb dX11_isStrength_15 rfl (lv_at hl 0 rfl) ?_
    refine gf_RX11_108 hC hR ok_this dX11_isStrength_16 ?_
    obtain ⟨x4, S1, hc2, hf⟩ := cl_of hf
    refine cl_RX11_104 (As := [.int (mI S this 11)]) (rest := []) hC hR hS (c_X11_byteAt l G n this (mI S this 11) S x4 S1 hc2 ok_this) ok_this rfl ⟨Nat.le_of_ble_eq_true rfl, Nat.le_of_ble_eq_true rfl⟩ hl.1 rfl (Nat.le_of_ble_eq_true rfl) dX11_isStrength_19 (Nat.zero_le _) (Nat.zero_le _) (fun H locs hR hS hE3 => ?_)
    have ok_this := hE3 _ _ ok_this
    have hE := hE.tr hE3
    refine lv_bipush (v := 115) hx hb dX11_isStrength_22 (by decide) ?_
    refine lv_icmp_ne (tgt := 72) hx hb dX11_isStrength_24 (by decide) (fun hc => ?_) (fun hc => ?_)
    · replace hf := if_f hf hc
      refine lv_iconst (v := 0) hx hb dX11_isStrength_72 (by decide) ?_
      exact r_zret hC hR hS hE hf dX11_isStrength_73
    · replace hf := if_t hf hc
      refine lv_aload_n hx hb dX11_isStrength_27 rfl (lv_at hl 0 rfl) ?_
      refine lv_aload_n hx hb dX11_isStrength_28 rfl (lv_at hl 0 rfl) ?_
      refine gf_RX11_108 hC hR ok_this dX11_isStrength_29 ?_
      refine lv_iconst (v := 1) hx hb dX11_isStrength_32 (by decide) ?_
      refine lv_iadd hx hb dX11_isStrength_33 ?_
      obtain ⟨x8, S5, hc6, hf⟩ := cl_of hf
      refine cl_RX11_104 (As := [.int ((mI S1 this 11) + (1 : Int32))]) (rest := []) hC hR hS (c_X11_byteAt l G n this ((mI S1 this 11) + (1 : Int32)) S1 x8 S5 hc6 ok_this) ok_this rfl ⟨Nat.le_of_ble_eq_true rfl, Nat.le_of_ble_eq_true rfl⟩ hl.1 rfl (Nat.le_of_ble_eq_true rfl) dX11_isStrength_34 (Nat.zero_le _) (Nat.zero_le _) (fun H locs hR hS hE7 => ?_)
      have ok_this := hE7 _ _ ok_this
      have hE := hE.tr hE7
      refine lv_bipush (v := 116) hx hb dX11_isStrength_37 (by decide) ?_
      refine lv_icmp_ne (tgt := 72) hx hb dX11_isStrength_39 (by decide) (fun hc => ?_) (fun hc => ?_)
      · replace hf := if_f hf hc
        refine lv_iconst (v := 0) hx hb dX11_isStrength_72 (by decide) ?_
        exact r_zret hC hR hS hE hf dX11_isStrength_73
      · replace hf := if_t hf hc
        refine lv_aload_n hx hb dX11_isStrength_42 rfl (lv_at hl 0 rfl) ?_
        refine lv_aload_n hx hb dX11_isStrength_43 rfl (lv_at hl 0 rfl) ?_
        refine gf_RX11_108 hC hR ok_this dX11_isStrength_44 ?_
        refine lv_iconst (v := 2) hx hb dX11_isStrength_47 (by decide) ?_
        refine lv_iadd hx hb dX11_isStrength_48 ?_
        obtain ⟨x12, S9, hc10, hf⟩ := cl_of hf
        refine cl_RX11_104 (As := [.int ((mI S5 this 11) + (2 : Int32))]) (rest := []) hC hR hS (c_X11_byteAt l G n this ((mI S5 this 11) + (2 : Int32)) S5 x12 S9 hc10 ok_this) ok_this rfl ⟨Nat.le_of_ble_eq_true rfl, Nat.le_of_ble_eq_true rfl⟩ hl.1 rfl (Nat.le_of_ble_eq_true rfl) dX11_isStrength_49 (Nat.zero_le _) (Nat.zero_le _) (fun H locs hR hS hE11 => ?_)
        have ok_this := hE11 _ _ ok_this
        have hE := hE.tr hE11
        refine lv_bipush (v := 114) hx hb dX11_isStrength_52 (by decide) ?_
        refine lv_icmp_ne (tgt := 72) hx hb dX11_isStrength_54 (by decide) (fun hc => ?_) (fun hc => ?_)
        · replace hf := if_f hf hc
          refine lv_iconst (v := 0) hx hb dX11_isStrength_72 (by decide) ?_
          exact r_zret hC hR hS hE hf dX11_isStrength_73
        · replace hf := if_t hf hc
          refine lv_aload_n hx hb dX11_isStrength_57 rfl (lv_at hl 0 rfl) ?_
          refine lv_aload_n hx hb dX11_isStrength_58 rfl (lv_at hl 0 rfl) ?_
          refine gf_RX11_108 hC hR ok_this dX11_isStrength_59 ?_
          refine lv_iconst (v := 3) hx hb dX11_isStrength_62 (by decide) ?_
          refine lv_iadd hx hb dX11_isStrength_63 ?_
          obtain ⟨x16, S13, hc14, hf⟩ := cl_of hf
          refine cl_RX11_104 (As := [.int ((mI S9 this 11) + (3 : Int32))]) (rest := []) hC hR hS (c_X11_byteAt l G n this ((mI S9 this 11) + (3 : Int32)) S9 x16 S13 hc14 ok_this) ok_this rfl ⟨Nat.le_of_ble_eq_true rfl, Nat.le_of_ble_eq_true rfl⟩ hl.1 rfl (Nat.le_of_ble_eq_true rfl) dX11_isStrength_64 (Nat.zero_le _) (Nat.zero_le _) (fun H locs hR hS hE15 => ?_)
          have ok_this := hE15 _ _ ok_this
          have hE := hE.tr hE15
          refine lv_bipush (v := 101) hx hb dX11_isStrength_67 (by decide) ?_
          refine lv_icmp_eq (tgt := 74) hx hb dX11_isStrength_69 (by decide) (fun hc => ?_) (fun hc => ?_)
          · replace hf := if_t hf hc
            refine lv_aload_n hx hb dX11_isStrength_74 rfl (lv_at hl 0 rfl) ?_
            refine lv_aload_n hx hb dX11_isStrength_75 rfl (lv_at hl 0 rfl) ?_
            refine gf_RX11_108 hC hR ok_this dX11_isStrength_76 ?_
            refine lv_iconst (v := 4) hx hb dX11_isStrength_79 (by decide) ?_
            refine lv_iadd hx hb dX11_isStrength_80 ?_
            obtain ⟨x20, S17, hc18, hf⟩ := cl_of hf
            refine cl_RX11_104 (As := [.int ((mI S13 this 11) + (4 : Int32))]) (rest := []) hC hR hS (c_X11_byteAt l G n this ((mI S13 this 11) + (4 : Int32)) S13 x20 S17 hc18 ok_this) ok_this rfl ⟨Nat.le_of_ble_eq_true rfl, Nat.le_of_ble_eq_true rfl⟩ hl.1 rfl (Nat.le_of_ble_eq_true rfl) dX11_isStrength_81 (Nat.zero_le _) (Nat.zero_le _) (fun H locs hR hS hE19 => ?_)
            have ok_this := hE19 _ _ ok_this
            have hE := hE.tr hE19
            refine lv_bipush (v := 110) hx hb dX11_isStrength_84 (by decide) ?_
            refine lv_icmp_ne (tgt := 140) hx hb dX11_isStrength_86 (by decide) (fun hc => ?_) (fun hc => ?_)
            · replace hf := if_f hf hc
              refine lv_iconst (v := 0) hx hb dX11_isStrength_140 (by decide) ?_
              exact r_zret hC hR hS hE hf dX11_isStrength_141
            · replace hf := if_t hf hc
              refine lv_aload_n hx hb dX11_isStrength_89 rfl (lv_at hl 0 rfl) ?_
              refine lv_aload_n hx hb dX11_isStrength_90 rfl (lv_at hl 0 rfl) ?_
              refine gf_RX11_108 hC hR ok_this dX11_isStrength_91 ?_
              refine lv_iconst (v := 5) hx hb dX11_isStrength_94 (by decide) ?_
              refine lv_iadd hx hb dX11_isStrength_95 ?_
              obtain ⟨x24, S21, hc22, hf⟩ := cl_of hf
              refine cl_RX11_104 (As := [.int ((mI S17 this 11) + (5 : Int32))]) (rest := []) hC hR hS (c_X11_byteAt l G n this ((mI S17 this 11) + (5 : Int32)) S17 x24 S21 hc22 ok_this) ok_this rfl ⟨Nat.le_of_ble_eq_true rfl, Nat.le_of_ble_eq_true rfl⟩ hl.1 rfl (Nat.le_of_ble_eq_true rfl) dX11_isStrength_96 (Nat.zero_le _) (Nat.zero_le _) (fun H locs hR hS hE23 => ?_)
              have ok_this := hE23 _ _ ok_this
              have hE := hE.tr hE23
              refine lv_bipush (v := 103) hx hb dX11_isStrength_99 (by decide) ?_
              refine lv_icmp_ne (tgt := 140) hx hb dX11_isStrength_101 (by decide) (fun hc => ?_) (fun hc => ?_)
              · replace hf := if_f hf hc
                refine lv_iconst (v := 0) hx hb dX11_isStrength_140 (by decide) ?_
                exact r_zret hC hR hS hE hf dX11_isStrength_141
              · replace hf := if_t hf hc
                refine lv_aload_n hx hb dX11_isStrength_104 rfl (lv_at hl 0 rfl) ?_
                refine lv_aload_n hx hb dX11_isStrength_105 rfl (lv_at hl 0 rfl) ?_
                refine gf_RX11_108 hC hR ok_this dX11_isStrength_106 ?_
                refine lv_bipush (v := 6) hx hb dX11_isStrength_109 (by decide) ?_
                refine lv_iadd hx hb dX11_isStrength_111 ?_
                obtain ⟨x28, S25, hc26, hf⟩ := cl_of hf
                refine cl_RX11_104 (As := [.int ((mI S21 this 11) + (6 : Int32))]) (rest := []) hC hR hS (c_X11_byteAt l G n this ((mI S21 this 11) + (6 : Int32)) S21 x28 S25 hc26 ok_this) ok_this rfl ⟨Nat.le_of_ble_eq_true rfl, Nat.le_of_ble_eq_true rfl⟩ hl.1 rfl (Nat.le_of_ble_eq_true rfl) dX11_isStrength_112 (Nat.zero_le _) (Nat.zero_le _) (fun H locs hR hS hE27 => ?_)
                have ok_this := hE27 _ _ ok_this
                have hE := hE.tr hE27
                refine lv_bipush (v := 116) hx hb dX11_isStrength_115 (by decide) ?_
                refine lv_icmp_ne (tgt := 140) hx hb dX11_isStrength_117 (by decide) (fun hc => ?_) (fun hc => ?_)
                · replace hf := if_f hf hc
                  refine lv_iconst (v := 0) hx hb dX11_isStrength_140 (by decide) ?_
                  exact r_zret hC hR hS hE hf dX11_isStrength_141
                · replace hf := if_t hf hc
                  refine lv_aload_n hx hb dX11_isStrength_120 rfl (lv_at hl 0 rfl) ?_
                  refine lv_aload_n hx hb dX11_isStrength_121 rfl (lv_at hl 0 rfl) ?_
                  refine gf_RX11_108 hC hR ok_this dX11_isStrength_122 ?_
                  refine lv_bipush (v := 7) hx hb dX11_isStrength_125 (by decide) ?_
                  refine lv_iadd hx hb dX11_isStrength_127 ?_
                  obtain ⟨x32, S29, hc30, hf⟩ := cl_of hf
                  refine cl_RX11_104 (As := [.int ((mI S25 this 11) + (7 : Int32))]) (rest := []) hC hR hS (c_X11_byteAt l G n this ((mI S25 this 11) + (7 : Int32)) S25 x32 S29 hc30 ok_this) ok_this rfl ⟨Nat.le_of_ble_eq_true rfl, Nat.le_of_ble_eq_true rfl⟩ hl.1 rfl (Nat.le_of_ble_eq_true rfl) dX11_isStrength_128 (Nat.zero_le _) (Nat.zero_le _) (fun H locs hR hS hE31 => ?_)
                  have ok_this := hE31 _ _ ok_this
                  have hE := hE.tr hE31
                  refine lv_bipush (v := 104) hx hb dX11_isStrength_131 (by decide) ?_
                  refine lv_icmp_ne (tgt := 140) hx hb dX11_isStrength_133 (by decide) (fun hc => ?_) (fun hc => ?_)
                  · replace hf := if_f hf hc
                    refine lv_iconst (v := 0) hx hb dX11_isStrength_140 (by decide) ?_
                    exact r_zret hC hR hS hE hf dX11_isStrength_141
                  · replace hf := if_t hf hc
                    refine lv_iconst (v := 1) hx hb dX11_isStrength_136 (by decide) ?_
                    refine lv_goto (tgt := 141) hx hb dX11_isStrength_137 (by decide) ?_
                    exact r_zret hC hR hS hE hf dX11_isStrength_141
          · replace hf := if_f hf hc
            refine lv_iconst (v := 0) hx hb dX11_isStrength_72 (by decide) ?_
            exact r_zret hC hR hS hE hf dX11_isStrength_73
abbrev rX11_nameOf : Room := { frames := 3, cells := 0, slots := 0, locals := 71 }
def f_X11_nameOf (n : Nat) (this : Nat) (S : MS) : Option (Int32 × MS) :=
  (if (mI S this 12) = (2 : Int32) then cl (f_X11_w6 n (119 : Int32) (101 : Int32) (105 : Int32) (103 : Int32) (104 : Int32) (116 : Int32) S) fun x4 S1 => (if (lg_cmp (mJ S this 14) x4) = 0 then some ((0 : Int32), S1) else cl (f_X11_w4 n (108 : Int32) (105 : Int32) (101 : Int32) (115 : Int32) S1) fun x8 S5 => (if (lg_cmp (mJ S1 this 14) x8) = 0 then some ((1 : Int32), S5) else cl (f_X11_w6 n (98 : Int32) (101 : Int32) (115 : Int32) (105 : Int32) (100 : Int32) (101 : Int32) S5) fun x12 S9 => (if (lg_cmp (mJ S5 this 14) x12) = 0 then some ((2 : Int32), S9) else (if (lg_cmp (mJ S9 this 14) (120 : Int64)) = 0 then some ((3 : Int32), S9) else (if (lg_cmp (mJ S9 this 14) (121 : Int64)) = 0 then some ((4 : Int32), S9) else cl (f_X11_w4 n (104 : Int32) (111 : Int32) (117 : Int32) (114 : Int32) S9) fun x16 S13 => (if (lg_cmp (mJ S9 this 14) x16) = 0 then some ((5 : Int32), S13) else cl (f_X11_isStrength n this S13) fun x20 S17 => (if x20 = 0 then cl (f_X11_w5 n (115 : Int32) (112 : Int32) (97 : Int32) (114 : Int32) (101 : Int32) S17) fun x24 S21 => (if (lg_cmp (mJ S17 this 14) x24) = 0 then some ((7 : Int32), S21) else cl (f_X11_w4 n (109 : Int32) (97 : Int32) (110 : Int32) (121 : Int32) S21) fun x28 S25 => (if (lg_cmp (mJ S21 this 14) x28) = 0 then some ((8 : Int32), S25) else cl (f_X11_w3 n (97 : Int32) (103 : Int32) (101 : Int32) S25) fun x32 S29 => (if (lg_cmp (mJ S25 this 14) x32) = 0 then some ((9 : Int32), S29) else cl (f_X11_w4 n (97 : Int32) (114 : Int32) (101 : Int32) (97 : Int32) S29) fun x36 S33 => (if (lg_cmp (mJ S29 this 14) x36) = 0 then some ((10 : Int32), S33) else cl (f_X11_w5 n (119 : Int32) (97 : Int32) (116 : Int32) (101 : Int32) (114 : Int32) S33) fun x40 S37 => (if (lg_cmp (mJ S33 this 14) x40) = 0 then some ((11 : Int32), S37) else some ((-1 : Int32), S37)))))) else some ((6 : Int32), S17)))))))) else some ((-1 : Int32), S))
set_option maxRecDepth 100000 in
set_option maxHeartbeats 4000000 in
theorem c_X11_nameOf (l : Launch) (G : Gx) (n : Nat) (this : Nat) (S : MS) (ro : Int32) (So : MS) (hf : f_X11_nameOf n this S = some (ro, So)) (ok_this : Ok S this 11) : Cn G l yX11_nameOf cX11_nameOf 1 (some .int) rX11_nameOf [.ref this] S (some (.int ro)) So := by
  refine Cn.of (by decide) (Nat.le_of_ble_eq_true rfl) ?_
  intro p e s m args below meth c hC hname hR ls hl
  have hC : Cx G RX11 cX11_nameOf 1 (some .int) p s m args meth c := hC
  have hl : lv_has ls 1 [(0, .ref this)] := hl
  have hx := hC.x
  have hb := hC.b
  have hS : va_S (gA G) s.heap s.heap [] := va_S.rf
  have hE : Ex S S := Ex.rf S
  unfold f_X11_nameOf at hf
  refine lv_aload_n hx hb dX11_nameOf_0 rfl (lv_at hl 0 rfl) ?_
  refine gf_RX11_111 hC hR ok_this dX11_nameOf_1 ?_
  refine lv_iconst (v := 2) hx hb dX11_nameOf_4 (by decide) ?_
  refine lv_icmp_eq (tgt := 10) hx hb dX11_nameOf_5 (by decide) (fun hc => ?_) (fun hc => ?_)
  · replace hf := if_t hf hc
    refine lv_aload_n hx hb dX11_nameOf_10 rfl (lv_at hl 0 rfl) ?_
    refine gf_RX11_124 hC hR ok_this dX11_nameOf_11 ?_
    refine lv_bipush (v := 119) hx hb dX11_nameOf_14 (by decide) ?_
    refine lv_bipush (v := 101) hx hb dX11_nameOf_16 (by decide) ?_
    refine lv_bipush (v := 105) hx hb dX11_nameOf_18 (by decide) ?_
    refine lv_bipush (v := 103) hx hb dX11_nameOf_20 (by decide) ?_
    refine lv_bipush (v := 104) hx hb dX11_nameOf_22 (by decide) ?_
    refine lv_bipush (v := 116) hx hb dX11_nameOf_24 (by decide) ?_
    obtain ⟨x4, S1, hc2, hf⟩ := cl_of hf
    refine cl_RX11_210 (As := [.int (119 : Int32), .int (101 : Int32), .int (105 : Int32), .int (103 : Int32), .int (104 : Int32), .int (116 : Int32)]) (rest := [.long (mJ S this 14)]) hC hR hS (c_X11_w6 l G n (119 : Int32) (101 : Int32) (105 : Int32) (103 : Int32) (104 : Int32) (116 : Int32) S x4 S1 hc2 ) rfl ⟨Nat.le_of_ble_eq_true rfl, Nat.le_of_ble_eq_true rfl⟩ hl.1 rfl (Nat.le_of_ble_eq_true rfl) dX11_nameOf_26 (Nat.zero_le _) (Nat.zero_le _) (fun H locs hR hS hE3 => ?_)
    have ok_this := hE3 _ _ ok_this
    have hE := hE.tr hE3
    refine W.lcmp hx hb dX11_nameOf_29 ?_
    refine lv_if_ne (tgt := 35) hx hb dX11_nameOf_30 (by decide) (fun hc => ?_) (fun hc => ?_)
    · replace hf := if_f hf hc
      refine lv_aload_n hx hb dX11_nameOf_35 rfl (lv_at hl 0 rfl) ?_
      refine gf_RX11_124 hC hR ok_this dX11_nameOf_36 ?_
      refine lv_bipush (v := 108) hx hb dX11_nameOf_39 (by decide) ?_
      refine lv_bipush (v := 105) hx hb dX11_nameOf_41 (by decide) ?_
      refine lv_bipush (v := 101) hx hb dX11_nameOf_43 (by decide) ?_
      refine lv_bipush (v := 115) hx hb dX11_nameOf_45 (by decide) ?_
      obtain ⟨x8, S5, hc6, hf⟩ := cl_of hf
      refine cl_RX11_214 (As := [.int (108 : Int32), .int (105 : Int32), .int (101 : Int32), .int (115 : Int32)]) (rest := [.long (mJ S1 this 14)]) hC hR hS (c_X11_w4 l G n (108 : Int32) (105 : Int32) (101 : Int32) (115 : Int32) S1 x8 S5 hc6 ) rfl ⟨Nat.le_of_ble_eq_true rfl, Nat.le_of_ble_eq_true rfl⟩ hl.1 rfl (Nat.le_of_ble_eq_true rfl) dX11_nameOf_47 (Nat.zero_le _) (Nat.zero_le _) (fun H locs hR hS hE7 => ?_)
      have ok_this := hE7 _ _ ok_this
      have hE := hE.tr hE7
      refine W.lcmp hx hb dX11_nameOf_50 ?_
      refine lv_if_ne (tgt := 56) hx hb dX11_nameOf_51 (by decide) (fun hc => ?_) (fun hc => ?_)
      · replace hf := if_f hf hc
        refine lv_aload_n hx hb dX11_nameOf_56 rfl (lv_at hl 0 rfl) ?_
        refine gf_RX11_124 hC hR ok_this dX11_nameOf_57 ?_
        refine lv_bipush (v := 98) hx hb dX11_nameOf_60 (by decide) ?_
        refine lv_bipush (v := 101) hx hb dX11_nameOf_62 (by decide) ?_
        refine lv_bipush (v := 115) hx hb dX11_nameOf_64 (by decide) ?_
        refine lv_bipush (v := 105) hx hb dX11_nameOf_66 (by decide) ?_
        refine lv_bipush (v := 100) hx hb dX11_nameOf_68 (by decide) ?_
        refine lv_bipush (v := 101) hx hb dX11_nameOf_70 (by decide) ?_
        obtain ⟨x12, S9, hc10, hf⟩ := cl_of hf
        refine cl_RX11_210 (As := [.int (98 : Int32), .int (101 : Int32), .int (115 : Int32), .int (105 : Int32), .int (100 : Int32), .int (101 : Int32)]) (rest := [.long (mJ S5 this 14)]) hC hR hS (c_X11_w6 l G n (98 : Int32) (101 : Int32) (115 : Int32) (105 : Int32) (100 : Int32) (101 : Int32) S5 x12 S9 hc10 ) rfl ⟨Nat.le_of_ble_eq_true rfl, Nat.le_of_ble_eq_true rfl⟩ hl.1 rfl (Nat.le_of_ble_eq_true rfl) dX11_nameOf_72 (Nat.zero_le _) (Nat.zero_le _) (fun H locs hR hS hE11 => ?_)
        have ok_this := hE11 _ _ ok_this
        have hE := hE.tr hE11
        refine W.lcmp hx hb dX11_nameOf_75 ?_
        refine lv_if_ne (tgt := 81) hx hb dX11_nameOf_76 (by decide) (fun hc => ?_) (fun hc => ?_)
        · replace hf := if_f hf hc
          refine lv_aload_n hx hb dX11_nameOf_81 rfl (lv_at hl 0 rfl) ?_
          refine gf_RX11_124 hC hR ok_this dX11_nameOf_82 ?_
          refine lv_ldc2 (v := 120) hx hb hC.ow (hC.ts _ (bg26 _ (List.mem_of_getElem? (i := 13) rfl))) dX11_nameOf_85 ?_
          refine W.lcmp hx hb dX11_nameOf_88 ?_
          refine lv_if_ne (tgt := 94) hx hb dX11_nameOf_89 (by decide) (fun hc => ?_) (fun hc => ?_)
          · replace hf := if_f hf hc
            refine lv_aload_n hx hb dX11_nameOf_94 rfl (lv_at hl 0 rfl) ?_
            refine gf_RX11_124 hC hR ok_this dX11_nameOf_95 ?_
            refine lv_ldc2 (v := 121) hx hb hC.ow (hC.ts _ (bg26 _ (List.mem_of_getElem? (i := 14) rfl))) dX11_nameOf_98 ?_
            refine W.lcmp hx hb dX11_nameOf_101 ?_
            refine lv_if_ne (tgt := 107) hx hb dX11_nameOf_102 (by decide) (fun hc => ?_) (fun hc => ?_)
            · replace hf := if_f hf hc
              refine lv_aload_n hx hb dX11_nameOf_107 rfl (lv_at hl 0 rfl) ?_
              refine gf_RX11_124 hC hR ok_this dX11_nameOf_108 ?_
              refine lv_bipush (v := 104) hx hb dX11_nameOf_111 (by decide) ?_
              refine lv_bipush (v := 111) hx hb dX11_nameOf_113 (by decide) ?_
              refine lv_bipush (v := 117) hx hb dX11_nameOf_115 (by decide) ?_
              refine lv_bipush (v := 114) hx hb dX11_nameOf_117 (by decide) ?_
              obtain ⟨x16, S13, hc14, hf⟩ := cl_of hf
              refine cl_RX11_214 (As := [.int (104 : Int32), .int (111 : Int32), .int (117 : Int32), .int (114 : Int32)]) (rest := [.long (mJ S9 this 14)]) hC hR hS (c_X11_w4 l G n (104 : Int32) (111 : Int32) (117 : Int32) (114 : Int32) S9 x16 S13 hc14 ) rfl ⟨Nat.le_of_ble_eq_true rfl, Nat.le_of_ble_eq_true rfl⟩ hl.1 rfl (Nat.le_of_ble_eq_true rfl) dX11_nameOf_119 (Nat.zero_le _) (Nat.zero_le _) (fun H locs hR hS hE15 => ?_)
              have ok_this := hE15 _ _ ok_this
              have hE := hE.tr hE15
              refine W.lcmp hx hb dX11_nameOf_122 ?_
              refine lv_if_ne (tgt := 128) hx hb dX11_nameOf_123 (by decide) (fun hc => ?_) (fun hc => ?_)
              · replace hf := if_f hf hc
                refine lv_aload_n hx hb dX11_nameOf_128 rfl (lv_at hl 0 rfl) ?_
                obtain ⟨x20, S17, hc18, hf⟩ := cl_of hf
                refine cl_RX11_222 (As := []) (rest := []) hC hR hS (c_X11_isStrength l G n this S13 x20 S17 hc18 ok_this) ok_this rfl ⟨Nat.le_of_ble_eq_true rfl, Nat.le_of_ble_eq_true rfl⟩ hl.1 rfl (Nat.le_of_ble_eq_true rfl) dX11_nameOf_129 (Nat.zero_le _) (Nat.zero_le _) (fun H locs hR hS hE19 => ?_)
                have ok_this := hE19 _ _ ok_this
                have hE := hE.tr hE19
                refine lv_if_eq (tgt := 138) hx hb dX11_nameOf_132 (by decide) (fun hc => ?_) (fun hc => ?_)
                · replace hf := if_t hf hc
                  refine lv_aload_n hx hb dX11_nameOf_138 rfl (lv_at hl 0 rfl) ?_
                  refine gf_RX11_124 hC hR ok_this dX11_nameOf_139 ?_
                  refine lv_bipush (v := 115) hx hb dX11_nameOf_142 (by decide) ?_
                  refine lv_bipush (v := 112) hx hb dX11_nameOf_144 (by decide) ?_
                  refine lv_bipush (v := 97) hx hb dX11_nameOf_146 (by decide) ?_
                  refine lv_bipush (v := 114) hx hb dX11_nameOf_148 (by decide) ?_
                  refine lv_bipush (v := 101) hx hb dX11_nameOf_150 (by decide) ?_
                  obtain ⟨x24, S21, hc22, hf⟩ := cl_of hf
                  refine cl_RX11_132 (As := [.int (115 : Int32), .int (112 : Int32), .int (97 : Int32), .int (114 : Int32), .int (101 : Int32)]) (rest := [.long (mJ S17 this 14)]) hC hR hS (c_X11_w5 l G n (115 : Int32) (112 : Int32) (97 : Int32) (114 : Int32) (101 : Int32) S17 x24 S21 hc22 ) rfl ⟨Nat.le_of_ble_eq_true rfl, Nat.le_of_ble_eq_true rfl⟩ hl.1 rfl (Nat.le_of_ble_eq_true rfl) dX11_nameOf_152 (Nat.zero_le _) (Nat.zero_le _) (fun H locs hR hS hE23 => ?_)
                  have ok_this := hE23 _ _ ok_this
                  have hE := hE.tr hE23
                  refine W.lcmp hx hb dX11_nameOf_155 ?_
                  refine lv_if_ne (tgt := 162) hx hb dX11_nameOf_156 (by decide) (fun hc => ?_) (fun hc => ?_)
                  · replace hf := if_f hf hc
                    refine lv_aload_n hx hb dX11_nameOf_162 rfl (lv_at hl 0 rfl) ?_
                    refine gf_RX11_124 hC hR ok_this dX11_nameOf_163 ?_
                    refine lv_bipush (v := 109) hx hb dX11_nameOf_166 (by decide) ?_
                    refine lv_bipush (v := 97) hx hb dX11_nameOf_168 (by decide) ?_
                    refine lv_bipush (v := 110) hx hb dX11_nameOf_170 (by decide) ?_
                    refine lv_bipush (v := 121) hx hb dX11_nameOf_172 (by decide) ?_
                    obtain ⟨x28, S25, hc26, hf⟩ := cl_of hf
                    refine cl_RX11_214 (As := [.int (109 : Int32), .int (97 : Int32), .int (110 : Int32), .int (121 : Int32)]) (rest := [.long (mJ S21 this 14)]) hC hR hS (c_X11_w4 l G n (109 : Int32) (97 : Int32) (110 : Int32) (121 : Int32) S21 x28 S25 hc26 ) rfl ⟨Nat.le_of_ble_eq_true rfl, Nat.le_of_ble_eq_true rfl⟩ hl.1 rfl (Nat.le_of_ble_eq_true rfl) dX11_nameOf_174 (Nat.zero_le _) (Nat.zero_le _) (fun H locs hR hS hE27 => ?_)
                    have ok_this := hE27 _ _ ok_this
                    have hE := hE.tr hE27
                    refine W.lcmp hx hb dX11_nameOf_177 ?_
                    refine lv_if_ne (tgt := 184) hx hb dX11_nameOf_178 (by decide) (fun hc => ?_) (fun hc => ?_)
                    · replace hf := if_f hf hc
                      refine lv_aload_n hx hb dX11_nameOf_184 rfl (lv_at hl 0 rfl) ?_
                      refine gf_RX11_124 hC hR ok_this dX11_nameOf_185 ?_
                      refine lv_bipush (v := 97) hx hb dX11_nameOf_188 (by decide) ?_
                      refine lv_bipush (v := 103) hx hb dX11_nameOf_190 (by decide) ?_
                      refine lv_bipush (v := 101) hx hb dX11_nameOf_192 (by decide) ?_
                      obtain ⟨x32, S29, hc30, hf⟩ := cl_of hf
                      refine cl_RX11_128 (As := [.int (97 : Int32), .int (103 : Int32), .int (101 : Int32)]) (rest := [.long (mJ S25 this 14)]) hC hR hS (c_X11_w3 l G n (97 : Int32) (103 : Int32) (101 : Int32) S25 x32 S29 hc30 ) rfl ⟨Nat.le_of_ble_eq_true rfl, Nat.le_of_ble_eq_true rfl⟩ hl.1 rfl (Nat.le_of_ble_eq_true rfl) dX11_nameOf_194 (Nat.zero_le _) (Nat.zero_le _) (fun H locs hR hS hE31 => ?_)
                      have ok_this := hE31 _ _ ok_this
                      have hE := hE.tr hE31
                      refine W.lcmp hx hb dX11_nameOf_197 ?_
                      refine lv_if_ne (tgt := 204) hx hb dX11_nameOf_198 (by decide) (fun hc => ?_) (fun hc => ?_)
                      · replace hf := if_f hf hc
                        refine lv_aload_n hx hb dX11_nameOf_204 rfl (lv_at hl 0 rfl) ?_
                        refine gf_RX11_124 hC hR ok_this dX11_nameOf_205 ?_
                        refine lv_bipush (v := 97) hx hb dX11_nameOf_208 (by decide) ?_
                        refine lv_bipush (v := 114) hx hb dX11_nameOf_210 (by decide) ?_
                        refine lv_bipush (v := 101) hx hb dX11_nameOf_212 (by decide) ?_
                        refine lv_bipush (v := 97) hx hb dX11_nameOf_214 (by decide) ?_
                        obtain ⟨x36, S33, hc34, hf⟩ := cl_of hf
                        refine cl_RX11_214 (As := [.int (97 : Int32), .int (114 : Int32), .int (101 : Int32), .int (97 : Int32)]) (rest := [.long (mJ S29 this 14)]) hC hR hS (c_X11_w4 l G n (97 : Int32) (114 : Int32) (101 : Int32) (97 : Int32) S29 x36 S33 hc34 ) rfl ⟨Nat.le_of_ble_eq_true rfl, Nat.le_of_ble_eq_true rfl⟩ hl.1 rfl (Nat.le_of_ble_eq_true rfl) dX11_nameOf_216 (Nat.zero_le _) (Nat.zero_le _) (fun H locs hR hS hE35 => ?_)
                        have ok_this := hE35 _ _ ok_this
                        have hE := hE.tr hE35
                        refine W.lcmp hx hb dX11_nameOf_219 ?_
                        refine lv_if_ne (tgt := 228) hx hb dX11_nameOf_220 (by decide) (fun hc => ?_) (fun hc => ?_)
                        · replace hf := if_f hf hc
                          refine lv_aload_n hx hb dX11_nameOf_228 rfl (lv_at hl 0 rfl) ?_
                          refine gf_RX11_124 hC hR ok_this dX11_nameOf_229 ?_
                          refine lv_bipush (v := 119) hx hb dX11_nameOf_232 (by decide) ?_
                          refine lv_bipush (v := 97) hx hb dX11_nameOf_234 (by decide) ?_
                          refine lv_bipush (v := 116) hx hb dX11_nameOf_236 (by decide) ?_
                          refine lv_bipush (v := 101) hx hb dX11_nameOf_238 (by decide) ?_
                          refine lv_bipush (v := 114) hx hb dX11_nameOf_240 (by decide) ?_
                          obtain ⟨x40, S37, hc38, hf⟩ := cl_of hf
                          refine cl_RX11_132 (As := [.int (119 : Int32), .int (97 : Int32), .int (116 : Int32), .int (101 : Int32), .int (114 : Int32)]) (rest := [.long (mJ S33 this 14)]) hC hR hS (c_X11_w5 l G n (119 : Int32) (97 : Int32) (116 : Int32) (101 : Int32) (114 : Int32) S33 x40 S37 hc38 ) rfl ⟨Nat.le_of_ble_eq_true rfl, Nat.le_of_ble_eq_true rfl⟩ hl.1 rfl (Nat.le_of_ble_eq_true rfl) dX11_nameOf_242 (Nat.zero_le _) (Nat.zero_le _) (fun H locs hR hS hE39 => ?_)
                          have ok_this := hE39 _ _ ok_this
                          have hE := hE.tr hE39
                          refine W.lcmp hx hb dX11_nameOf_245 ?_
                          refine lv_if_ne (tgt := 254) hx hb dX11_nameOf_246 (by decide) (fun hc => ?_) (fun hc => ?_)
                          · replace hf := if_f hf hc
                            refine lv_iconst (v := -1) hx hb dX11_nameOf_254 (by decide) ?_
                            exact r_iret hC hR hS hE hf dX11_nameOf_255
                          · replace hf := if_t hf hc
                            refine lv_bipush (v := 11) hx hb dX11_nameOf_249 (by decide) ?_
                            refine lv_goto (tgt := 255) hx hb dX11_nameOf_251 (by decide) ?_
                            exact r_iret hC hR hS hE hf dX11_nameOf_255
                        · replace hf := if_t hf hc
                          refine lv_bipush (v := 10) hx hb dX11_nameOf_223 (by decide) ?_
                          refine lv_goto (tgt := 255) hx hb dX11_nameOf_225 (by decide) ?_
                          exact r_iret hC hR hS hE hf dX11_nameOf_255
                      · replace hf := if_t hf hc
                        refine lv_bipush (v := 9) hx hb dX11_nameOf_201 (by decide) ?_
                        exact r_iret hC hR hS hE hf dX11_nameOf_203
                    · replace hf := if_t hf hc
                      refine lv_bipush (v := 8) hx hb dX11_nameOf_181 (by decide) ?_
                      exact r_iret hC hR hS hE hf dX11_nameOf_183
                  · replace hf := if_t hf hc
                    refine lv_bipush (v := 7) hx hb dX11_nameOf_159 (by decide) ?_
                    exact r_iret hC hR hS hE hf dX11_nameOf_161
                · replace hf := if_f hf hc
                  refine lv_bipush (v := 6) hx hb dX11_nameOf_135 (by decide) ?_
                  exact r_iret hC hR hS hE hf dX11_nameOf_137
              · replace hf := if_t hf hc
                refine lv_iconst (v := 5) hx hb dX11_nameOf_126 (by decide) ?_
                exact r_iret hC hR hS hE hf dX11_nameOf_127
            · replace hf := if_t hf hc
              refine lv_iconst (v := 4) hx hb dX11_nameOf_105 (by decide) ?_
              exact r_iret hC hR hS hE hf dX11_nameOf_106
          · replace hf := if_t hf hc
            refine lv_iconst (v := 3) hx hb dX11_nameOf_92 (by decide) ?_
            exact r_iret hC hR hS hE hf dX11_nameOf_93
        · replace hf := if_t hf hc
          refine lv_iconst (v := 2) hx hb dX11_nameOf_79 (by decide) ?_
          exact r_iret hC hR hS hE hf dX11_nameOf_80
      · replace hf := if_t hf hc
        refine lv_iconst (v := 1) hx hb dX11_nameOf_54 (by decide) ?_
        exact r_iret hC hR hS hE hf dX11_nameOf_55
    · replace hf := if_t hf hc
      refine lv_iconst (v := 0) hx hb dX11_nameOf_33 (by decide) ?_
      exact r_iret hC hR hS hE hf dX11_nameOf_34
  · replace hf := if_f hf hc
    refine lv_iconst (v := -1) hx hb dX11_nameOf_8 (by decide) ?_
    exact r_iret hC hR hS hE hf dX11_nameOf_9
abbrev rX11_beginOne : Room := { frames := 4, cells := 0, slots := 0, locals := 91 }
def f_X11_beginOne (n : Nat) (this : Nat) (a1 : Int32) (S : MS) : Option (Int32 × MS) :=
  jn (fun (S3 : MS) => cl (f_X11_nameOf n this S3) fun x7 S4 => jn (fun (S10 : MS) => jn (fun (S13 : MS) => jn (fun (q16 : Nat) (x17 : Int32) (S18 : MS) => jn (fun (q21 : Nat) (x22 : Int32) (x23 : Int32) (S24 : MS) => cv (f_X11_emit n q21 x22 x23 S24) fun S25 => cv (f_X11_nextToken n this S25) fun S28 => cv (f_X11_whole n this S28) fun S31 => some ((0 : Int32), S31)) fun j81_20 => (if (mI S18 this 12) = (1 : Int32) then j81_20 q16 x17 (mI S18 this 13) S18 else j81_20 q16 x17 x7 S18)) fun j65_15 => (if (mI S13 this 12) = (1 : Int32) then j65_15 this (0 : Int32) S13 else j65_15 this (1 : Int32) S13)) fun j51_12 => (if (mI S10 this 12) = (1 : Int32) then j51_12 S10 else (if x7 < 0 then (if (mI S10 this 12) = (40 : Int32) then cl (f_X11_opensBy n this (40 : Int32) S10) fun x88 S85 => some (x88, S85) else (if (mI S10 this 12) = (45 : Int32) then cl (f_X11_opensBy n this (2 : Int32) S10) fun x84 S81 => some (x84, S81) else cl (f_X11_w3 n (109 : Int32) (105 : Int32) (110 : Int32) S10) fun x44 S41 => cl (f_X11_isWord n this x44 S41) fun x48 S45 => (if x48 = 0 then cl (f_X11_w3 n (109 : Int32) (97 : Int32) (120 : Int32) S45) fun x52 S49 => cl (f_X11_isWord n this x52 S49) fun x56 S53 => (if x56 = 0 then cl (f_X11_w3 n (110 : Int32) (111 : Int32) (116 : Int32) S53) fun x60 S57 => cl (f_X11_isWord n this x60 S57) fun x64 S61 => (if x64 = 0 then some ((1 : Int32), S61) else cl (f_X11_isAskAhead n this a1 S61) fun x68 S65 => (if x68 = 0 then some ((1 : Int32), S65) else cl (f_X11_opensBy n this (20 : Int32) S65) fun x72 S69 => some (x72, S69))) else cl (f_X11_opensBy n this (42 : Int32) S53) fun x76 S73 => some (x76, S73)) else cl (f_X11_opensBy n this (41 : Int32) S45) fun x80 S77 => some (x80, S77)))) else j51_12 S10))) fun j39_9 => (if x7 < 0 then j39_9 S4 else cl (f_X11_isOf n this x7 S4) fun x93 S90 => (if x93 = 0 then some ((5 : Int32), S90) else j39_9 S90))) fun j20_2 => (if (mI S this 12) = (1 : Int32) then (if (mI S this 13) ≤ (9999 : Int32) then j20_2 S else some ((2 : Int32), S)) else j20_2 S)
set_option maxRecDepth 100000 in
set_option maxHeartbeats 4000000 in
theorem c_X11_beginOne (l : Launch) (G : Gx) (n : Nat) (this : Nat) (a1 : Int32) (S : MS) (ro : Int32) (So : MS) (hf : f_X11_beginOne n this a1 S = some (ro, So)) (ok_this : Ok S this 11) : Cn G l yX11_beginOne cX11_beginOne 3 (some .int) rX11_beginOne [.ref this, .int a1] S (some (.int ro)) So := by
  refine Cn.of (by decide) (Nat.le_of_ble_eq_true rfl) ?_
  intro p e s m args below meth c hC hname hR ls hl
  have hC : Cx G RX11 cX11_beginOne 3 (some .int) p s m args meth c := hC
  have hl : lv_has ls 3 [(0, .ref this), (1, .int a1)] := hl
  have hx := hC.x
  have hb := hC.b
  have hS : va_S (gA G) s.heap s.heap [] := va_S.rf
  have hE : Ex S S := Ex.rf S
  unfold f_X11_beginOne at hf
  refine lv_aload_n hx hb dX11_beginOne_0 rfl (lv_at hl 0 rfl) ?_
  refine gf_RX11_111 hC hR ok_this dX11_beginOne_1 ?_
  refine lv_iconst (v := 1) hx hb dX11_beginOne_4 (by decide) ?_
  obtain ⟨j20_2, ej20_2, hf⟩ := jn_of1 hf
  have hj20_1 : ∀ (S3 : MS) (H : Heap) (locs : List Loc) (ls : Array Slot), j20_2 S3 = some (ro, So) → Rp G S3 H → va_S (gA G) s.heap H locs → Ex S S3 → Ok S3 this 11 → lv_has ls 3 [(0, .ref this), (1, .int a1)] → W p l e rX11_beginOne s m args below meth c H locs 0 0 (MQ below (Qn G S (some (.int ro)) So) args s 0 0 (gA G)) (F0 m 20 ls []) := by
    intro S3 H locs ls hf hR hS hE ok_this hl
    rw [ej20_2] at hf
    refine lv_aload_n hx hb dX11_beginOne_20 rfl (lv_at hl 0 rfl) ?_
    obtain ⟨x7, S4, hc5, hf⟩ := cl_of hf
    refine cl_RX11_171 (As := []) (rest := []) hC hR hS (c_X11_nameOf l G n this S3 x7 S4 hc5 ok_this) ok_this rfl ⟨Nat.le_of_ble_eq_true rfl, Nat.le_of_ble_eq_true rfl⟩ hl.1 rfl (Nat.le_of_ble_eq_true rfl) dX11_beginOne_21 (Nat.zero_le _) (Nat.zero_le _) (fun H locs hR hS hE6 => ?_)
    have ok_this := hE6 _ _ ok_this
    have hE := hE.tr hE6
    refine lv_istore_n (lv' := [(2, .int x7), (0, .ref this), (1, .int a1)]) hx hb dX11_beginOne_24 rfl hl (by decide) rfl (fun ls hl => ?_)
    refine lv_iload_n hx hb dX11_beginOne_25 rfl (lv_at hl 0 rfl) ?_
    obtain ⟨j39_9, ej39_9, hf⟩ := jn_of1 hf
    have hj39_8 : ∀ (S10 : MS) (H : Heap) (locs : List Loc) (ls : Array Slot), j39_9 S10 = some (ro, So) → Rp G S10 H → va_S (gA G) s.heap H locs → Ex S S10 → Ok S10 this 11 → lv_has ls 3 [(0, .ref this), (1, .int a1), (2, .int x7)] → W p l e rX11_beginOne s m args below meth c H locs 0 0 (MQ below (Qn G S (some (.int ro)) So) args s 0 0 (gA G)) (F0 m 39 ls []) := by
      intro S10 H locs ls hf hR hS hE ok_this hl
      rw [ej39_9] at hf
      refine lv_aload_n hx hb dX11_beginOne_39 rfl (lv_at hl 0 rfl) ?_
      refine gf_RX11_111 hC hR ok_this dX11_beginOne_40 ?_
      refine lv_iconst (v := 1) hx hb dX11_beginOne_43 (by decide) ?_
      obtain ⟨j51_12, ej51_12, hf⟩ := jn_of1 hf
      have hj51_11 : ∀ (S13 : MS) (H : Heap) (locs : List Loc) (ls : Array Slot), j51_12 S13 = some (ro, So) → Rp G S13 H → va_S (gA G) s.heap H locs → Ex S S13 → Ok S13 this 11 → lv_has ls 3 [(0, .ref this), (2, .int x7)] → W p l e rX11_beginOne s m args below meth c H locs 0 0 (MQ below (Qn G S (some (.int ro)) So) args s 0 0 (gA G)) (F0 m 51 ls []) := by
        intro S13 H locs ls hf hR hS hE ok_this hl
        rw [ej51_12] at hf
        refine lv_aload_n hx hb dX11_beginOne_51 rfl (lv_at hl 0 rfl) ?_
        refine lv_aload_n hx hb dX11_beginOne_52 rfl (lv_at hl 0 rfl) ?_
        refine gf_RX11_111 hC hR ok_this dX11_beginOne_53 ?_
        refine lv_iconst (v := 1) hx hb dX11_beginOne_56 (by decide) ?_
        obtain ⟨j65_15, ej65_15, hf⟩ := jn_of3 hf
        have hj65_14 : ∀ (q16 : Nat) (x17 : Int32) (S18 : MS) (H : Heap) (locs : List Loc) (ls : Array Slot), j65_15 q16 x17 S18 = some (ro, So) → Rp G S18 H → va_S (gA G) s.heap H locs → Ex S S18 → Ok S18 this 11 → Ok S18 q16 11 → lv_has ls 3 [(0, .ref this), (2, .int x7)] → W p l e rX11_beginOne s m args below meth c H locs 0 0 (MQ below (Qn G S (some (.int ro)) So) args s 0 0 (gA G)) (F0 m 65 ls [.int x17, .ref q16]) := by
          intro q16 x17 S18 H locs ls hf hR hS hE ok_this ok_q16 hl
          rw [ej65_15] at hf
          refine lv_aload_n hx hb dX11_beginOne_65 rfl (lv_at hl 0 rfl) ?_
          refine gf_RX11_111 hC hR ok_this dX11_beginOne_66 ?_
          refine lv_iconst (v := 1) hx hb dX11_beginOne_69 (by decide) ?_
          obtain ⟨j81_20, ej81_20, hf⟩ := jn_of4 hf
          have hj81_19 : ∀ (q21 : Nat) (x22 : Int32) (x23 : Int32) (S24 : MS) (H : Heap) (locs : List Loc) (ls : Array Slot), j81_20 q21 x22 x23 S24 = some (ro, So) → Rp G S24 H → va_S (gA G) s.heap H locs → Ex S S24 → Ok S24 this 11 → Ok S24 q21 11 → lv_has ls 3 [(0, .ref this)] → W p l e rX11_beginOne s m args below meth c H locs 0 0 (MQ below (Qn G S (some (.int ro)) So) args s 0 0 (gA G)) (F0 m 81 ls [.int x23, .int x22, .ref q21]) := by
            intro q21 x22 x23 S24 H locs ls hf hR hS hE ok_this ok_q21 hl
            rw [ej81_20] at hf
            obtain ⟨S25, hc26, hf⟩ := cv_of hf
            refine cl_RX11_148 (As := [.int x22, .int x23]) (rest := []) hC hR hS (c_X11_emit l G n q21 x22 x23 S24 S25 hc26 ok_q21) ok_q21 rfl ⟨Nat.le_of_ble_eq_true rfl, Nat.le_of_ble_eq_true rfl⟩ hl.1 rfl (Nat.le_of_ble_eq_true rfl) dX11_beginOne_81 (Nat.zero_le _) (Nat.zero_le _) (fun H locs hR hS hE27 => ?_)
            have ok_this := hE27 _ _ ok_this
            have ok_q21 := hE27 _ _ ok_q21
            have hE := hE.tr hE27
            refine lv_aload_n hx hb dX11_beginOne_84 rfl (lv_at hl 0 rfl) ?_
            obtain ⟨S28, hc29, hf⟩ := cv_of hf
            refine cl_RX11_165 (As := []) (rest := []) hC hR hS (c_X11_nextToken l G n this S25 S28 hc29 ok_this) ok_this rfl ⟨Nat.le_of_ble_eq_true rfl, Nat.le_of_ble_eq_true rfl⟩ hl.1 rfl (Nat.le_of_ble_eq_true rfl) dX11_beginOne_85 (Nat.zero_le _) (Nat.zero_le _) (fun H locs hR hS hE30 => ?_)
            have ok_this := hE30 _ _ ok_this
            have ok_q21 := hE30 _ _ ok_q21
            have hE := hE.tr hE30
            refine lv_aload_n hx hb dX11_beginOne_88 rfl (lv_at hl 0 rfl) ?_
            obtain ⟨S31, hc32, hf⟩ := cv_of hf
            refine cl_RX11_177 (As := []) (rest := []) hC hR hS (c_X11_whole l G n this S28 S31 hc32 ok_this) ok_this rfl ⟨Nat.le_of_ble_eq_true rfl, Nat.le_of_ble_eq_true rfl⟩ hl.1 rfl (Nat.le_of_ble_eq_true rfl) dX11_beginOne_89 (Nat.zero_le _) (Nat.zero_le _) (fun H locs hR hS hE33 => ?_)
            have ok_this := hE33 _ _ ok_this
            have ok_q21 := hE33 _ _ ok_q21
            have hE := hE.tr hE33
            refine lv_iconst (v := 0) hx hb dX11_beginOne_92 (by decide) ?_
            exact r_iret hC hR hS hE hf dX11_beginOne_93
          refine lv_icmp_ne (tgt := 80) hx hb dX11_beginOne_70 (by decide) (fun hc => ?_) (fun hc => ?_)
          · replace hf := if_f hf hc
            refine lv_iload_n hx hb dX11_beginOne_80 rfl (lv_at hl 1 rfl) ?_
            exact hj81_19 q16 x17 x7 S18 _ _ _ hf hR hS hE ok_this ok_q16 (lv_sub hl [0] rfl)
          · replace hf := if_t hf hc
            refine lv_aload_n hx hb dX11_beginOne_73 rfl (lv_at hl 0 rfl) ?_
            refine gf_RX11_117 hC hR ok_this dX11_beginOne_74 ?_
            refine lv_goto (tgt := 81) hx hb dX11_beginOne_77 (by decide) ?_
            exact hj81_19 q16 x17 (mI S18 this 13) S18 _ _ _ hf hR hS hE ok_this ok_q16 (lv_sub hl [0] rfl)
        refine lv_icmp_ne (tgt := 64) hx hb dX11_beginOne_57 (by decide) (fun hc => ?_) (fun hc => ?_)
        · replace hf := if_f hf hc
          refine lv_iconst (v := 1) hx hb dX11_beginOne_64 (by decide) ?_
          exact hj65_14 this (1 : Int32) S13 _ _ _ hf hR hS hE ok_this ok_this (lv_sub hl [0, 1] rfl)
        · replace hf := if_t hf hc
          refine lv_iconst (v := 0) hx hb dX11_beginOne_60 (by decide) ?_
          refine lv_goto (tgt := 65) hx hb dX11_beginOne_61 (by decide) ?_
          exact hj65_14 this (0 : Int32) S13 _ _ _ hf hR hS hE ok_this ok_this (lv_sub hl [0, 1] rfl)
      refine lv_icmp_eq (tgt := 51) hx hb dX11_beginOne_44 (by decide) (fun hc => ?_) (fun hc => ?_)
      · replace hf := if_t hf hc
        exact hj51_11 S10 _ _ _ hf hR hS hE ok_this (lv_sub hl [0, 2] rfl)
      · replace hf := if_f hf hc
        refine lv_iload_n hx hb dX11_beginOne_47 rfl (lv_at hl 2 rfl) ?_
        refine lv_if_lt (tgt := 94) hx hb dX11_beginOne_48 (by decide) (fun hc => ?_) (fun hc => ?_)
        · replace hf := if_t hf hc
          refine lv_aload_n hx hb dX11_beginOne_94 rfl (lv_at hl 0 rfl) ?_
          refine gf_RX11_111 hC hR ok_this dX11_beginOne_95 ?_
          refine lv_bipush (v := 40) hx hb dX11_beginOne_98 (by decide) ?_
          refine lv_icmp_ne (tgt := 110) hx hb dX11_beginOne_100 (by decide) (fun hc => ?_) (fun hc => ?_)
          · replace hf := if_f hf hc
            refine lv_aload_n hx hb dX11_beginOne_110 rfl (lv_at hl 0 rfl) ?_
            refine gf_RX11_111 hC hR ok_this dX11_beginOne_111 ?_
            refine lv_bipush (v := 45) hx hb dX11_beginOne_114 (by decide) ?_
            refine lv_icmp_ne (tgt := 125) hx hb dX11_beginOne_116 (by decide) (fun hc => ?_) (fun hc => ?_)
            · replace hf := if_f hf hc
              refine lv_aload_n hx hb dX11_beginOne_125 rfl (lv_at hl 0 rfl) ?_
              refine lv_bipush (v := 109) hx hb dX11_beginOne_126 (by decide) ?_
              refine lv_bipush (v := 105) hx hb dX11_beginOne_128 (by decide) ?_
              refine lv_bipush (v := 110) hx hb dX11_beginOne_130 (by decide) ?_
              obtain ⟨x44, S41, hc42, hf⟩ := cl_of hf
              refine cl_RX11_128 (As := [.int (109 : Int32), .int (105 : Int32), .int (110 : Int32)]) (rest := [.ref this]) hC hR hS (c_X11_w3 l G n (109 : Int32) (105 : Int32) (110 : Int32) S10 x44 S41 hc42 ) rfl ⟨Nat.le_of_ble_eq_true rfl, Nat.le_of_ble_eq_true rfl⟩ hl.1 rfl (Nat.le_of_ble_eq_true rfl) dX11_beginOne_132 (Nat.zero_le _) (Nat.zero_le _) (fun H locs hR hS hE43 => ?_)
              have ok_this := hE43 _ _ ok_this
              have hE := hE.tr hE43
              obtain ⟨x48, S45, hc46, hf⟩ := cl_of hf
              refine cl_RX11_183 (As := [.long x44]) (rest := []) hC hR hS (c_X11_isWord l G n this x44 S41 x48 S45 hc46 ok_this) ok_this rfl ⟨Nat.le_of_ble_eq_true rfl, Nat.le_of_ble_eq_true rfl⟩ hl.1 rfl (Nat.le_of_ble_eq_true rfl) dX11_beginOne_135 (Nat.zero_le _) (Nat.zero_le _) (fun H locs hR hS hE47 => ?_)
              have ok_this := hE47 _ _ ok_this
              have hE := hE.tr hE47
              refine lv_if_eq (tgt := 148) hx hb dX11_beginOne_138 (by decide) (fun hc => ?_) (fun hc => ?_)
              · replace hf := if_t hf hc
                refine lv_aload_n hx hb dX11_beginOne_148 rfl (lv_at hl 0 rfl) ?_
                refine lv_bipush (v := 109) hx hb dX11_beginOne_149 (by decide) ?_
                refine lv_bipush (v := 97) hx hb dX11_beginOne_151 (by decide) ?_
                refine lv_bipush (v := 120) hx hb dX11_beginOne_153 (by decide) ?_
                obtain ⟨x52, S49, hc50, hf⟩ := cl_of hf
                refine cl_RX11_128 (As := [.int (109 : Int32), .int (97 : Int32), .int (120 : Int32)]) (rest := [.ref this]) hC hR hS (c_X11_w3 l G n (109 : Int32) (97 : Int32) (120 : Int32) S45 x52 S49 hc50 ) rfl ⟨Nat.le_of_ble_eq_true rfl, Nat.le_of_ble_eq_true rfl⟩ hl.1 rfl (Nat.le_of_ble_eq_true rfl) dX11_beginOne_155 (Nat.zero_le _) (Nat.zero_le _) (fun H locs hR hS hE51 => ?_)
                have ok_this := hE51 _ _ ok_this
                have hE := hE.tr hE51
                obtain ⟨x56, S53, hc54, hf⟩ := cl_of hf
                refine cl_RX11_183 (As := [.long x52]) (rest := []) hC hR hS (c_X11_isWord l G n this x52 S49 x56 S53 hc54 ok_this) ok_this rfl ⟨Nat.le_of_ble_eq_true rfl, Nat.le_of_ble_eq_true rfl⟩ hl.1 rfl (Nat.le_of_ble_eq_true rfl) dX11_beginOne_158 (Nat.zero_le _) (Nat.zero_le _) (fun H locs hR hS hE55 => ?_)
                have ok_this := hE55 _ _ ok_this
                have hE := hE.tr hE55
                refine lv_if_eq (tgt := 171) hx hb dX11_beginOne_161 (by decide) (fun hc => ?_) (fun hc => ?_)
                · replace hf := if_t hf hc
                  refine lv_aload_n hx hb dX11_beginOne_171 rfl (lv_at hl 0 rfl) ?_
                  refine lv_bipush (v := 110) hx hb dX11_beginOne_172 (by decide) ?_
                  refine lv_bipush (v := 111) hx hb dX11_beginOne_174 (by decide) ?_
                  refine lv_bipush (v := 116) hx hb dX11_beginOne_176 (by decide) ?_
                  obtain ⟨x60, S57, hc58, hf⟩ := cl_of hf
                  refine cl_RX11_128 (As := [.int (110 : Int32), .int (111 : Int32), .int (116 : Int32)]) (rest := [.ref this]) hC hR hS (c_X11_w3 l G n (110 : Int32) (111 : Int32) (116 : Int32) S53 x60 S57 hc58 ) rfl ⟨Nat.le_of_ble_eq_true rfl, Nat.le_of_ble_eq_true rfl⟩ hl.1 rfl (Nat.le_of_ble_eq_true rfl) dX11_beginOne_178 (Nat.zero_le _) (Nat.zero_le _) (fun H locs hR hS hE59 => ?_)
                  have ok_this := hE59 _ _ ok_this
                  have hE := hE.tr hE59
                  obtain ⟨x64, S61, hc62, hf⟩ := cl_of hf
                  refine cl_RX11_183 (As := [.long x60]) (rest := []) hC hR hS (c_X11_isWord l G n this x60 S57 x64 S61 hc62 ok_this) ok_this rfl ⟨Nat.le_of_ble_eq_true rfl, Nat.le_of_ble_eq_true rfl⟩ hl.1 rfl (Nat.le_of_ble_eq_true rfl) dX11_beginOne_181 (Nat.zero_le _) (Nat.zero_le _) (fun H locs hR hS hE63 => ?_)
                  have ok_this := hE63 _ _ ok_this
                  have hE := hE.tr hE63
                  refine lv_if_eq (tgt := 204) hx hb dX11_beginOne_184 (by decide) (fun hc => ?_) (fun hc => ?_)
                  · replace hf := if_t hf hc
                    refine lv_iconst (v := 1) hx hb dX11_beginOne_204 (by decide) ?_
                    exact r_iret hC hR hS hE hf dX11_beginOne_205
                  · replace hf := if_f hf hc
                    refine lv_aload_n hx hb dX11_beginOne_187 rfl (lv_at hl 0 rfl) ?_
                    refine lv_iload_n hx hb dX11_beginOne_188 rfl (lv_at hl 1 rfl) ?_
                    obtain ⟨x68, S65, hc66, hf⟩ := cl_of hf
                    refine cl_RX11_187 (As := [.int a1]) (rest := []) hC hR hS (c_X11_isAskAhead l G n this a1 S61 x68 S65 hc66 ok_this) ok_this rfl ⟨Nat.le_of_ble_eq_true rfl, Nat.le_of_ble_eq_true rfl⟩ hl.1 rfl (Nat.le_of_ble_eq_true rfl) dX11_beginOne_189 (Nat.zero_le _) (Nat.zero_le _) (fun H locs hR hS hE67 => ?_)
                    have ok_this := hE67 _ _ ok_this
                    have hE := hE.tr hE67
                    refine lv_if_eq (tgt := 204) hx hb dX11_beginOne_192 (by decide) (fun hc => ?_) (fun hc => ?_)
                    · replace hf := if_t hf hc
                      refine lv_iconst (v := 1) hx hb dX11_beginOne_204 (by decide) ?_
                      exact r_iret hC hR hS hE hf dX11_beginOne_205
                    · replace hf := if_f hf hc
                      refine lv_aload_n hx hb dX11_beginOne_195 rfl (lv_at hl 0 rfl) ?_
                      refine lv_bipush (v := 20) hx hb dX11_beginOne_196 (by decide) ?_
                      obtain ⟨x72, S69, hc70, hf⟩ := cl_of hf
                      refine cl_RX11_180 (As := [.int (20 : Int32)]) (rest := []) hC hR hS (c_X11_opensBy l G n this (20 : Int32) S65 x72 S69 hc70 ok_this) ok_this rfl ⟨Nat.le_of_ble_eq_true rfl, Nat.le_of_ble_eq_true rfl⟩ hl.1 rfl (Nat.le_of_ble_eq_true rfl) dX11_beginOne_198 (Nat.zero_le _) (Nat.zero_le _) (fun H locs hR hS hE71 => ?_)
                      have ok_this := hE71 _ _ ok_this
                      have hE := hE.tr hE71
                      refine lv_goto (tgt := 205) hx hb dX11_beginOne_201 (by decide) ?_
                      exact r_iret hC hR hS hE hf dX11_beginOne_205
                · replace hf := if_f hf hc
                  refine lv_aload_n hx hb dX11_beginOne_164 rfl (lv_at hl 0 rfl) ?_
                  refine lv_bipush (v := 42) hx hb dX11_beginOne_165 (by decide) ?_
                  obtain ⟨x76, S73, hc74, hf⟩ := cl_of hf
                  refine cl_RX11_180 (As := [.int (42 : Int32)]) (rest := []) hC hR hS (c_X11_opensBy l G n this (42 : Int32) S53 x76 S73 hc74 ok_this) ok_this rfl ⟨Nat.le_of_ble_eq_true rfl, Nat.le_of_ble_eq_true rfl⟩ hl.1 rfl (Nat.le_of_ble_eq_true rfl) dX11_beginOne_167 (Nat.zero_le _) (Nat.zero_le _) (fun H locs hR hS hE75 => ?_)
                  have ok_this := hE75 _ _ ok_this
                  have hE := hE.tr hE75
                  exact r_iret hC hR hS hE hf dX11_beginOne_170
              · replace hf := if_f hf hc
                refine lv_aload_n hx hb dX11_beginOne_141 rfl (lv_at hl 0 rfl) ?_
                refine lv_bipush (v := 41) hx hb dX11_beginOne_142 (by decide) ?_
                obtain ⟨x80, S77, hc78, hf⟩ := cl_of hf
                refine cl_RX11_180 (As := [.int (41 : Int32)]) (rest := []) hC hR hS (c_X11_opensBy l G n this (41 : Int32) S45 x80 S77 hc78 ok_this) ok_this rfl ⟨Nat.le_of_ble_eq_true rfl, Nat.le_of_ble_eq_true rfl⟩ hl.1 rfl (Nat.le_of_ble_eq_true rfl) dX11_beginOne_144 (Nat.zero_le _) (Nat.zero_le _) (fun H locs hR hS hE79 => ?_)
                have ok_this := hE79 _ _ ok_this
                have hE := hE.tr hE79
                exact r_iret hC hR hS hE hf dX11_beginOne_147
            · replace hf := if_t hf hc
              refine lv_aload_n hx hb dX11_beginOne_119 rfl (lv_at hl 0 rfl) ?_
              refine lv_iconst (v := 2) hx hb dX11_beginOne_120 (by decide) ?_
              obtain ⟨x84, S81, hc82, hf⟩ := cl_of hf
              refine cl_RX11_180 (As := [.int (2 : Int32)]) (rest := []) hC hR hS (c_X11_opensBy l G n this (2 : Int32) S10 x84 S81 hc82 ok_this) ok_this rfl ⟨Nat.le_of_ble_eq_true rfl, Nat.le_of_ble_eq_true rfl⟩ hl.1 rfl (Nat.le_of_ble_eq_true rfl) dX11_beginOne_121 (Nat.zero_le _) (Nat.zero_le _) (fun H locs hR hS hE83 => ?_)
              have ok_this := hE83 _ _ ok_this
              have hE := hE.tr hE83
              exact r_iret hC hR hS hE hf dX11_beginOne_124
          · replace hf := if_t hf hc
            refine lv_aload_n hx hb dX11_beginOne_103 rfl (lv_at hl 0 rfl) ?_
            refine lv_bipush (v := 40) hx hb dX11_beginOne_104 (by decide) ?_
            obtain ⟨x88, S85, hc86, hf⟩ := cl_of hf
            refine cl_RX11_180 (As := [.int (40 : Int32)]) (rest := []) hC hR hS (c_X11_opensBy l G n this (40 : Int32) S10 x88 S85 hc86 ok_this) ok_this rfl ⟨Nat.le_of_ble_eq_true rfl, Nat.le_of_ble_eq_true rfl⟩ hl.1 rfl (Nat.le_of_ble_eq_true rfl) dX11_beginOne_106 (Nat.zero_le _) (Nat.zero_le _) (fun H locs hR hS hE87 => ?_)
            have ok_this := hE87 _ _ ok_this
            have hE := hE.tr hE87
            exact r_iret hC hR hS hE hf dX11_beginOne_109
        · replace hf := if_f hf hc
          exact hj51_11 S10 _ _ _ hf hR hS hE ok_this (lv_sub hl [0, 2] rfl)
    refine lv_if_lt (tgt := 39) hx hb dX11_beginOne_26 (by decide) (fun hc => ?_) (fun hc => ?_)
    · replace hf := if_t hf hc
      exact hj39_8 S4 _ _ _ hf hR hS hE ok_this (lv_sub hl [1, 2, 0] rfl)
    · replace hf := if_f hf hc
      refine lv_aload_n hx hb dX11_beginOne_29 rfl (lv_at hl 1 rfl) ?_
      refine lv_iload_n hx hb dX11_beginOne_30 rfl (lv_at hl 0 rfl) ?_
      obtain ⟨x93, S90, hc91, hf⟩ := cl_of hf
      refine cl_RX11_174 (As := [.int x7]) (rest := []) hC hR hS (c_X11_isOf l G n this x7 S4 x93 S90 hc91 ok_this) ok_this rfl ⟨Nat.le_of_ble_eq_true rfl, Nat.le_of_ble_eq_true rfl⟩ hl.1 rfl (Nat.le_of_ble_eq_true rfl) dX11_beginOne_31 (Nat.zero_le _) (Nat.zero_le _) (fun H locs hR hS hE92 => ?_)
      have ok_this := hE92 _ _ ok_this
      have hE := hE.tr hE92
      refine lv_if_ne (tgt := 39) hx hb dX11_beginOne_34 (by decide) (fun hc => ?_) (fun hc => ?_)
      · replace hf := if_f hf hc
        exact hj39_8 S90 _ _ _ hf hR hS hE ok_this (lv_sub hl [1, 2, 0] rfl)
      · replace hf := if_t hf hc
        refine lv_iconst (v := 5) hx hb dX11_beginOne_37 (by decide) ?_
        exact r_iret hC hR hS hE hf dX11_beginOne_38
  refine lv_icmp_ne (tgt := 20) hx hb dX11_beginOne_5 (by decide) (fun hc => ?_) (fun hc => ?_)
  · replace hf := if_f hf hc
    exact hj20_1 S _ _ _ hf hR hS hE ok_this (lv_sub hl [0, 1] rfl)
  · replace hf := if_t hf hc
    refine lv_aload_n hx hb dX11_beginOne_8 rfl (lv_at hl 0 rfl) ?_
    refine gf_RX11_117 hC hR ok_this dX11_beginOne_9 ?_
    refine lv_sipush (v := 9999) hx hb dX11_beginOne_12 (by decide) ?_
    refine lv_icmp_le (tgt := 20) hx hb dX11_beginOne_15 (by decide) (fun hc => ?_) (fun hc => ?_)
    · replace hf := if_t hf hc
      exact hj20_1 S _ _ _ hf hR hS hE ok_this (lv_sub hl [0, 1] rfl)
    · replace hf := if_f hf hc
      refine lv_iconst (v := 2) hx hb dX11_beginOne_18 (by decide) ?_
      exact r_iret hC hR hS hE hf dX11_beginOne_19
abbrev rX11_compareOf : Room := { frames := 0, cells := 0, slots := 0, locals := 0 }
def f_X11_compareOf (_n : Nat) (this : Nat) (S : MS) : Option (Int32 × MS) :=
  (if (mI S this 12) = (60 : Int32) then some ((10 : Int32), S) else (if (mI S this 12) = (4 : Int32) then some ((11 : Int32), S) else (if (mI S this 12) = (62 : Int32) then some ((12 : Int32), S) else (if (mI S this 12) = (5 : Int32) then some ((13 : Int32), S) else (if (mI S this 12) = (61 : Int32) then some ((14 : Int32), S) else (if (mI S this 12) = (35 : Int32) then some ((15 : Int32), S) else some ((-1 : Int32), S)))))))
set_option maxRecDepth 100000 in
set_option maxHeartbeats 4000000 in
theorem c_X11_compareOf (l : Launch) (G : Gx) (n : Nat) (this : Nat) (S : MS) (ro : Int32) (So : MS) (hf : f_X11_compareOf n this S = some (ro, So)) (ok_this : Ok S this 11) : Cn G l yX11_compareOf cX11_compareOf 1 (some .int) rX11_compareOf [.ref this] S (some (.int ro)) So := by
  refine Cn.of (by decide) (Nat.le_of_ble_eq_true rfl) ?_
  intro p e s m args below meth c hC hname hR ls hl
  have hC : Cx G RX11 cX11_compareOf 1 (some .int) p s m args meth c := hC
  have hl : lv_has ls 1 [(0, .ref this)] := hl
  have hx := hC.x
  have hb := hC.b
  have hS : va_S (gA G) s.heap s.heap [] := va_S.rf
  have hE : Ex S S := Ex.rf S
  unfold f_X11_compareOf at hf
  refine lv_aload_n hx hb dX11_compareOf_0 rfl (lv_at hl 0 rfl) ?_
  refine gf_RX11_111 hC hR ok_this dX11_compareOf_1 ?_
  refine lv_bipush (v := 60) hx hb dX11_compareOf_4 (by decide) ?_
  refine lv_icmp_ne (tgt := 14) hx hb dX11_compareOf_6 (by decide) (fun hc => ?_) (fun hc => ?_)
  · replace hf := if_f hf hc
    refine lv_aload_n hx hb dX11_compareOf_14 rfl (lv_at hl 0 rfl) ?_
    refine gf_RX11_111 hC hR ok_this dX11_compareOf_15 ?_
    refine lv_iconst (v := 4) hx hb dX11_compareOf_18 (by decide) ?_
    refine lv_icmp_ne (tgt := 27) hx hb dX11_compareOf_19 (by decide) (fun hc => ?_) (fun hc => ?_)
    · replace hf := if_f hf hc
      refine lv_aload_n hx hb dX11_compareOf_27 rfl (lv_at hl 0 rfl) ?_
      refine gf_RX11_111 hC hR ok_this dX11_compareOf_28 ?_
      refine lv_bipush (v := 62) hx hb dX11_compareOf_31 (by decide) ?_
      refine lv_icmp_ne (tgt := 41) hx hb dX11_compareOf_33 (by decide) (fun hc => ?_) (fun hc => ?_)
      · replace hf := if_f hf hc
        refine lv_aload_n hx hb dX11_compareOf_41 rfl (lv_at hl 0 rfl) ?_
        refine gf_RX11_111 hC hR ok_this dX11_compareOf_42 ?_
        refine lv_iconst (v := 5) hx hb dX11_compareOf_45 (by decide) ?_
        refine lv_icmp_ne (tgt := 54) hx hb dX11_compareOf_46 (by decide) (fun hc => ?_) (fun hc => ?_)
        · replace hf := if_f hf hc
          refine lv_aload_n hx hb dX11_compareOf_54 rfl (lv_at hl 0 rfl) ?_
          refine gf_RX11_111 hC hR ok_this dX11_compareOf_55 ?_
          refine lv_bipush (v := 61) hx hb dX11_compareOf_58 (by decide) ?_
          refine lv_icmp_ne (tgt := 68) hx hb dX11_compareOf_60 (by decide) (fun hc => ?_) (fun hc => ?_)
          · replace hf := if_f hf hc
            refine lv_aload_n hx hb dX11_compareOf_68 rfl (lv_at hl 0 rfl) ?_
            refine gf_RX11_111 hC hR ok_this dX11_compareOf_69 ?_
            refine lv_bipush (v := 35) hx hb dX11_compareOf_72 (by decide) ?_
            refine lv_icmp_ne (tgt := 82) hx hb dX11_compareOf_74 (by decide) (fun hc => ?_) (fun hc => ?_)
            · replace hf := if_f hf hc
              refine lv_iconst (v := -1) hx hb dX11_compareOf_82 (by decide) ?_
              exact r_iret hC hR hS hE hf dX11_compareOf_83
            · replace hf := if_t hf hc
              refine lv_bipush (v := 15) hx hb dX11_compareOf_77 (by decide) ?_
              refine lv_goto (tgt := 83) hx hb dX11_compareOf_79 (by decide) ?_
              exact r_iret hC hR hS hE hf dX11_compareOf_83
          · replace hf := if_t hf hc
            refine lv_bipush (v := 14) hx hb dX11_compareOf_63 (by decide) ?_
            refine lv_goto (tgt := 83) hx hb dX11_compareOf_65 (by decide) ?_
            exact r_iret hC hR hS hE hf dX11_compareOf_83
        · replace hf := if_t hf hc
          refine lv_bipush (v := 13) hx hb dX11_compareOf_49 (by decide) ?_
          refine lv_goto (tgt := 83) hx hb dX11_compareOf_51 (by decide) ?_
          exact r_iret hC hR hS hE hf dX11_compareOf_83
      · replace hf := if_t hf hc
        refine lv_bipush (v := 12) hx hb dX11_compareOf_36 (by decide) ?_
        refine lv_goto (tgt := 83) hx hb dX11_compareOf_38 (by decide) ?_
        exact r_iret hC hR hS hE hf dX11_compareOf_83
    · replace hf := if_t hf hc
      refine lv_bipush (v := 11) hx hb dX11_compareOf_22 (by decide) ?_
      refine lv_goto (tgt := 83) hx hb dX11_compareOf_24 (by decide) ?_
      exact r_iret hC hR hS hE hf dX11_compareOf_83
  · replace hf := if_t hf hc
    refine lv_bipush (v := 10) hx hb dX11_compareOf_9 (by decide) ?_
    refine lv_goto (tgt := 83) hx hb dX11_compareOf_11 (by decide) ?_
    exact r_iret hC hR hS hE hf dX11_compareOf_83
abbrev rX11_betweenOf : Room := { frames := 2, cells := 0, slots := 0, locals := 41 }
def f_X11_betweenOf (n : Nat) (this : Nat) (a1 : Int32) (S : MS) : Option (Int32 × MS) :=
  (if (mI S this 12) = (43 : Int32) then some ((3 : Int32), S) else (if (mI S this 12) = (45 : Int32) then some ((4 : Int32), S) else (if (mI S this 12) = (42 : Int32) then some ((5 : Int32), S) else (if (mI S this 12) = (47 : Int32) then some ((6 : Int32), S) else (if a1 = 0 then some ((-1 : Int32), S) else cl (f_X11_marker n this S) fun x4 S1 => (if x4 < 0 then cl (f_X11_isCompared n this S1) fun x8 S5 => (if x8 = 0 then cl (f_X11_compareOf n this S5) fun x20 S17 => some (x20, S17) else cl (f_X11_w3 n (97 : Int32) (110 : Int32) (100 : Int32) S5) fun x12 S9 => cl (f_X11_isWord n this x12 S9) fun x16 S13 => (if x16 = 0 then (if (mI S13 this 12) = (2 : Int32) then (if (lg_cmp (mJ S13 this 14) (28530 : Int64)) = 0 then some ((22 : Int32), S13) else some ((-1 : Int32), S13)) else some ((-1 : Int32), S13)) else some ((21 : Int32), S13))) else some ((-1 : Int32), S1)))))))
set_option maxRecDepth 100000 in
set_option maxHeartbeats 4000000 in
theorem c_X11_betweenOf (l : Launch) (G : Gx) (n : Nat) (this : Nat) (a1 : Int32) (S : MS) (ro : Int32) (So : MS) (hf : f_X11_betweenOf n this a1 S = some (ro, So)) (ok_this : Ok S this 11) : Cn G l yX11_betweenOf cX11_betweenOf 2 (some .int) rX11_betweenOf [.ref this, .int a1] S (some (.int ro)) So := by
  refine Cn.of (by decide) (Nat.le_of_ble_eq_true rfl) ?_
  intro p e s m args below meth c hC hname hR ls hl
  have hC : Cx G RX11 cX11_betweenOf 2 (some .int) p s m args meth c := hC
  have hl : lv_has ls 2 [(0, .ref this), (1, .int a1)] := hl
  have hx := hC.x
  have hb := hC.b
  have hS : va_S (gA G) s.heap s.heap [] := va_S.rf
  have hE : Ex S S := Ex.rf S
  unfold f_X11_betweenOf at hf
  refine lv_aload_n hx hb dX11_betweenOf_0 rfl (lv_at hl 0 rfl) ?_
  refine gf_RX11_111 hC hR ok_this dX11_betweenOf_1 ?_
  refine lv_bipush (v := 43) hx hb dX11_betweenOf_4 (by decide) ?_
  refine lv_icmp_ne (tgt := 11) hx hb dX11_betweenOf_6 (by decide) (fun hc => ?_) (fun hc => ?_)
  · replace hf := if_f hf hc
    refine lv_aload_n hx hb dX11_betweenOf_11 rfl (lv_at hl 0 rfl) ?_
    refine gf_RX11_111 hC hR ok_this dX11_betweenOf_12 ?_
    refine lv_bipush (v := 45) hx hb dX11_betweenOf_15 (by decide) ?_
    refine lv_icmp_ne (tgt := 22) hx hb dX11_betweenOf_17 (by decide) (fun hc => ?_) (fun hc => ?_)
    · replace hf := if_f hf hc
      refine lv_aload_n hx hb dX11_betweenOf_22 rfl (lv_at hl 0 rfl) ?_
      refine gf_RX11_111 hC hR ok_this dX11_betweenOf_23 ?_
      refine lv_bipush (v := 42) hx hb dX11_betweenOf_26 (by decide) ?_
      refine lv_icmp_ne (tgt := 33) hx hb dX11_betweenOf_28 (by decide) (fun hc => ?_) (fun hc => ?_)
      · replace hf := if_f hf hc
        refine lv_aload_n hx hb dX11_betweenOf_33 rfl (lv_at hl 0 rfl) ?_
        refine gf_RX11_111 hC hR ok_this dX11_betweenOf_34 ?_
        refine lv_bipush (v := 47) hx hb dX11_betweenOf_37 (by decide) ?_
        refine lv_icmp_ne (tgt := 45) hx hb dX11_betweenOf_39 (by decide) (fun hc => ?_) (fun hc => ?_)
        · replace hf := if_f hf hc
          refine lv_iload_n hx hb dX11_betweenOf_45 rfl (lv_at hl 1 rfl) ?_
          refine lv_if_eq (tgt := 56) hx hb dX11_betweenOf_46 (by decide) (fun hc => ?_) (fun hc => ?_)
          · replace hf := if_t hf hc
            refine lv_iconst (v := -1) hx hb dX11_betweenOf_56 (by decide) ?_
            exact r_iret hC hR hS hE hf dX11_betweenOf_57
          · replace hf := if_f hf hc
            refine lv_aload_n hx hb dX11_betweenOf_49 rfl (lv_at hl 0 rfl) ?_
            obtain ⟨x4, S1, hc2, hf⟩ := cl_of hf
            refine cl_RX11_161 (As := []) (rest := []) hC hR hS (c_X11_marker l G n this S x4 S1 hc2 ok_this) ok_this rfl ⟨Nat.le_of_ble_eq_true rfl, Nat.le_of_ble_eq_true rfl⟩ hl.1 rfl (Nat.le_of_ble_eq_true rfl) dX11_betweenOf_50 (Nat.zero_le _) (Nat.zero_le _) (fun H locs hR hS hE3 => ?_)
            have ok_this := hE3 _ _ ok_this
            have hE := hE.tr hE3
            refine lv_if_lt (tgt := 58) hx hb dX11_betweenOf_53 (by decide) (fun hc => ?_) (fun hc => ?_)
            · replace hf := if_t hf hc
              refine lv_aload_n hx hb dX11_betweenOf_58 rfl (lv_at hl 0 rfl) ?_
              obtain ⟨x8, S5, hc6, hf⟩ := cl_of hf
              refine cl_RX11_191 (As := []) (rest := []) hC hR hS (c_X11_isCompared l G n this S1 x8 S5 hc6 ok_this) ok_this rfl ⟨Nat.le_of_ble_eq_true rfl, Nat.le_of_ble_eq_true rfl⟩ hl.1 rfl (Nat.le_of_ble_eq_true rfl) dX11_betweenOf_59 (Nat.zero_le _) (Nat.zero_le _) (fun H locs hR hS hE7 => ?_)
              have ok_this := hE7 _ _ ok_this
              have hE := hE.tr hE7
              refine lv_if_ne (tgt := 70) hx hb dX11_betweenOf_62 (by decide) (fun hc => ?_) (fun hc => ?_)
              · replace hf := if_f hf hc
                refine lv_aload_n hx hb dX11_betweenOf_70 rfl (lv_at hl 0 rfl) ?_
                refine lv_bipush (v := 97) hx hb dX11_betweenOf_71 (by decide) ?_
                refine lv_bipush (v := 110) hx hb dX11_betweenOf_73 (by decide) ?_
                refine lv_bipush (v := 100) hx hb dX11_betweenOf_75 (by decide) ?_
                obtain ⟨x12, S9, hc10, hf⟩ := cl_of hf
                refine cl_RX11_128 (As := [.int (97 : Int32), .int (110 : Int32), .int (100 : Int32)]) (rest := [.ref this]) hC hR hS (c_X11_w3 l G n (97 : Int32) (110 : Int32) (100 : Int32) S5 x12 S9 hc10 ) rfl ⟨Nat.le_of_ble_eq_true rfl, Nat.le_of_ble_eq_true rfl⟩ hl.1 rfl (Nat.le_of_ble_eq_true rfl) dX11_betweenOf_77 (Nat.zero_le _) (Nat.zero_le _) (fun H locs hR hS hE11 => ?_)
                have ok_this := hE11 _ _ ok_this
                have hE := hE.tr hE11
                obtain ⟨x16, S13, hc14, hf⟩ := cl_of hf
                refine cl_RX11_183 (As := [.long x12]) (rest := []) hC hR hS (c_X11_isWord l G n this x12 S9 x16 S13 hc14 ok_this) ok_this rfl ⟨Nat.le_of_ble_eq_true rfl, Nat.le_of_ble_eq_true rfl⟩ hl.1 rfl (Nat.le_of_ble_eq_true rfl) dX11_betweenOf_80 (Nat.zero_le _) (Nat.zero_le _) (fun H locs hR hS hE15 => ?_)
                have ok_this := hE15 _ _ ok_this
                have hE := hE.tr hE15
                refine lv_if_eq (tgt := 91) hx hb dX11_betweenOf_83 (by decide) (fun hc => ?_) (fun hc => ?_)
                · replace hf := if_t hf hc
                  refine lv_aload_n hx hb dX11_betweenOf_91 rfl (lv_at hl 0 rfl) ?_
                  refine gf_RX11_111 hC hR ok_this dX11_betweenOf_92 ?_
                  refine lv_iconst (v := 2) hx hb dX11_betweenOf_95 (by decide) ?_
                  refine lv_icmp_ne (tgt := 115) hx hb dX11_betweenOf_96 (by decide) (fun hc => ?_) (fun hc => ?_)
                  · replace hf := if_f hf hc
                    refine lv_iconst (v := -1) hx hb dX11_betweenOf_115 (by decide) ?_
                    exact r_iret hC hR hS hE hf dX11_betweenOf_116
                  · replace hf := if_t hf hc
                    refine lv_aload_n hx hb dX11_betweenOf_99 rfl (lv_at hl 0 rfl) ?_
                    refine gf_RX11_124 hC hR ok_this dX11_betweenOf_100 ?_
                    refine lv_ldc2 (v := 28530) hx hb hC.ow (hC.ts _ (bg24 _ (List.mem_of_getElem? (i := 21) rfl))) dX11_betweenOf_103 ?_
                    refine W.lcmp hx hb dX11_betweenOf_106 ?_
                    refine lv_if_ne (tgt := 115) hx hb dX11_betweenOf_107 (by decide) (fun hc => ?_) (fun hc => ?_)
                    · replace hf := if_f hf hc
                      refine lv_iconst (v := -1) hx hb dX11_betweenOf_115 (by decide) ?_
                      exact r_iret hC hR hS hE hf dX11_betweenOf_116
                    · replace hf := if_t hf hc
                      refine lv_bipush (v := 22) hx hb dX11_betweenOf_110 (by decide) ?_
                      refine lv_goto (tgt := 116) hx hb dX11_betweenOf_112 (by decide) ?_
                      exact r_iret hC hR hS hE hf dX11_betweenOf_116
                · replace hf := if_f hf hc
                  refine lv_bipush (v := 21) hx hb dX11_betweenOf_86 (by decide) ?_
                  refine lv_goto (tgt := 116) hx hb dX11_betweenOf_88 (by decide) ?_
                  exact r_iret hC hR hS hE hf dX11_betweenOf_116
              · replace hf := if_t hf hc
                refine lv_aload_n hx hb dX11_betweenOf_65 rfl (lv_at hl 0 rfl) ?_
                obtain ⟨x20, S17, hc18, hf⟩ := cl_of hf
                refine cl_RX11_195 (As := []) (rest := []) hC hR hS (c_X11_compareOf l G n this S5 x20 S17 hc18 ok_this) ok_this rfl ⟨Nat.le_of_ble_eq_true rfl, Nat.le_of_ble_eq_true rfl⟩ hl.1 rfl (Nat.le_of_ble_eq_true rfl) dX11_betweenOf_66 (Nat.zero_le _) (Nat.zero_le _) (fun H locs hR hS hE19 => ?_)
                have ok_this := hE19 _ _ ok_this
                have hE := hE.tr hE19
                exact r_iret hC hR hS hE hf dX11_betweenOf_69
            · replace hf := if_f hf hc
              refine lv_iconst (v := -1) hx hb dX11_betweenOf_56 (by decide) ?_
              exact r_iret hC hR hS hE hf dX11_betweenOf_57
        · replace hf := if_t hf hc
          refine lv_bipush (v := 6) hx hb dX11_betweenOf_42 (by decide) ?_
          exact r_iret hC hR hS hE hf dX11_betweenOf_44
      · replace hf := if_t hf hc
        refine lv_iconst (v := 5) hx hb dX11_betweenOf_31 (by decide) ?_
        exact r_iret hC hR hS hE hf dX11_betweenOf_32
    · replace hf := if_t hf hc
      refine lv_iconst (v := 4) hx hb dX11_betweenOf_20 (by decide) ?_
      exact r_iret hC hR hS hE hf dX11_betweenOf_21
  · replace hf := if_t hf hc
    refine lv_iconst (v := 3) hx hb dX11_betweenOf_9 (by decide) ?_
    exact r_iret hC hR hS hE hf dX11_betweenOf_10
abbrev rX11_behindOne : Room := { frames := 3, cells := 0, slots := 0, locals := 64 }
def f_X11_behindOne (n : Nat) (this : Nat) (a1 : Int32) (S : MS) : Option (Int32 × MS) :=
  cl (f_X11_betweenOf n this a1 S) fun x4 S1 => cl (f_X11_marker n this S1) fun x8 S5 => jn (fun (x11 : Int32) (S12 : MS) => (if x4 < 0 then jn (fun (S15 : MS) => (if (mI S15 this 12) = (44 : Int32) then jn (fun (S18 : MS) => cv (f_X11_settle n this (1 : Int32) S18) fun S19 => gR S19 (mR S19 this 19) 12 fun q22 => ck (inb x8 (mN S19 q22)) (bd (sI S19 q22 x8.toNatClampNeg (x11 + (2 : Int32))) fun S25 => zb (0 : Int32) (bd (sI S25 this 22 (0 : Int32)) fun S27 => cv (f_X11_nextToken n this S27) fun S30 => zb (1 : Int32) (some ((1 : Int32), S30))))) fun j156_17 => (if x11 = (41 : Int32) then j156_17 S15 else (if x11 = (42 : Int32) then j156_17 S15 else zb (0 : Int32) (some ((0 : Int32), S15)))) else zb (0 : Int32) (some ((0 : Int32), S15)))) fun j133_14 => (if (mI S12 this 12) = (41 : Int32) then jn (fun (S36 : MS) => cv (f_X11_settle n this (1 : Int32) S36) fun S37 => bd (sI S37 this 20 ((mI S37 this 20) - (1 : Int32))) fun S40 => bd (sI S40 this 21 ((mI S40 this 21) - (1 : Int32))) fun S42 => (if x11 < (43 : Int32) then cv (f_X11_whole n this S42) fun S44 => cv (f_X11_nextToken n this S44) fun S47 => zb (1 : Int32) (some ((1 : Int32), S47)) else jn (fun (q52 : Nat) (x53 : Int32) (S54 : MS) => cv (f_X11_emit n q52 x53 (0 : Int32) S54) fun S55 => cv (f_X11_whole n this S55) fun S58 => cv (f_X11_nextToken n this S58) fun S61 => zb (1 : Int32) (some ((1 : Int32), S61))) fun j122_51 => (if x11 = (43 : Int32) then j122_51 this (7 : Int32) S42 else j122_51 this (8 : Int32) S42))) fun j75_35 => (if x11 = (40 : Int32) then j75_35 S12 else (if x11 < (43 : Int32) then j133_14 S12 else j75_35 S12)) else j133_14 S12) else cl (f_X11_rank n x4 S12) fun x72 S69 => cv (f_X11_settle n this x72 S69) fun S73 => cv (f_X11_push n this x4 S73) fun S76 => zb (0 : Int32) (bd (sI S76 this 22 (0 : Int32)) fun S79 => cv (f_X11_nextToken n this S79) fun S82 => zb (1 : Int32) (some ((1 : Int32), S82))))) fun j25_10 => (if 0 ≤ x8 then gR S5 (mR S5 this 19) 12 fun q85 => ck (inb x8 (mN S5 q85)) (j25_10 (mI S5 q85 x8.toNatClampNeg) S5) else j25_10 (-1 : Int32) S5)
set_option maxRecDepth 100000 in
set_option maxHeartbeats 4000000 in
theorem c_X11_behindOne (l : Launch) (G : Gx) (n : Nat) (this : Nat) (a1 : Int32) (S : MS) (ro : Int32) (So : MS) (hf : f_X11_behindOne n this a1 S = some (ro, So)) (ok_this : Ok S this 11) : Cn G l yX11_behindOne cX11_behindOne 5 (some .boolean) rX11_behindOne [.ref this, .int a1] S (some (.int ro)) So := by
  refine Cn.of (by decide) (Nat.le_of_ble_eq_true rfl) ?_
  intro p e s m args below meth c hC hname hR ls hl
  have hC : Cx G RX11 cX11_behindOne 5 (some .boolean) p s m args meth c := hC
  have hl : lv_has ls 5 [(0, .ref this), (1, .int a1)] := hl
  have hx := hC.x
  have hb := hC.b
  have hS : va_S (gA G) s.heap s.heap [] := va_S.rf
  have hE : Ex S S := Ex.rf S
  unfold f_X11_behindOne at hf
  refine lv_aload_n hx hb dX11_behindOne_0 rfl (lv_at hl 0 rfl) ?_
  refine lv_iload_n hx hb dX11_behindOne_1 rfl (lv_at hl 1 rfl) ?_
  obtain ⟨x4, S1, hc2, hf⟩ := cl_of hf
  refine cl_RX11_200 (As := [.int a1]) (rest := []) hC hR hS (c_X11_betweenOf l G n this a1 S x4 S1 hc2 ok_this) ok_this rfl ⟨Nat.le_of_ble_eq_true rfl, Nat.le_of_ble_eq_true rfl⟩ hl.1 rfl (Nat.le_of_ble_eq_true rfl) dX11_behindOne_2 (Nat.zero_le _) (Nat.zero_le _) (fun H locs hR hS hE3 => ?_)
  have ok_this := hE3 _ _ ok_this
  have hE := hE.tr hE3
  refine lv_istore_n (lv' := [(2, .int x4), (0, .ref this), (1, .int a1)]) hx hb dX11_behindOne_5 rfl hl (by decide) rfl (fun ls hl => ?_)
  refine lv_aload_n hx hb dX11_behindOne_6 rfl (lv_at hl 1 rfl) ?_
  obtain ⟨x8, S5, hc6, hf⟩ := cl_of hf
  refine cl_RX11_161 (As := []) (rest := []) hC hR hS (c_X11_marker l G n this S1 x8 S5 hc6 ok_this) ok_this rfl ⟨Nat.le_of_ble_eq_true rfl, Nat.le_of_ble_eq_true rfl⟩ hl.1 rfl (Nat.le_of_ble_eq_true rfl) dX11_behindOne_7 (Nat.zero_le _) (Nat.zero_le _) (fun H locs hR hS hE7 => ?_)
  have ok_this := hE7 _ _ ok_this
  have hE := hE.tr hE7
  refine lv_istore_n (lv' := [(3, .int x8), (2, .int x4), (0, .ref this), (1, .int a1)]) hx hb dX11_behindOne_10 rfl hl (by decide) rfl (fun ls hl => ?_)
  refine lv_iload_n hx hb dX11_behindOne_11 rfl (lv_at hl 0 rfl) ?_
  obtain ⟨j25_10, ej25_10, hf⟩ := jn_of2 hf
  have hj25_9 : ∀ (x11 : Int32) (S12 : MS) (H : Heap) (locs : List Loc) (ls : Array Slot), j25_10 x11 S12 = some (ro, So) → Rp G S12 H → va_S (gA G) s.heap H locs → Ex S S12 → Ok S12 this 11 → lv_has ls 5 [(0, .ref this), (2, .int x4), (3, .int x8)] → W p l e rX11_behindOne s m args below meth c H locs 0 0 (MQ below (Qn G S (some (.int ro)) So) args s 0 0 (gA G)) (F0 m 25 ls [.int x11]) := by
    intro x11 S12 H locs ls hf hR hS hE ok_this hl
    rw [ej25_10] at hf
    refine lv_istore (lv' := [(4, .int x11), (0, .ref this), (2, .int x4), (3, .int x8)]) hx hb dX11_behindOne_25 hl (by decide) rfl (fun ls hl => ?_)
    refine lv_iload_n hx hb dX11_behindOne_27 rfl (lv_at hl 2 rfl) ?_
    refine lv_if_lt (tgt := 52) hx hb dX11_behindOne_28 (by decide) (fun hc => ?_) (fun hc => ?_)
    · replace hf := if_t hf hc
      refine lv_aload_n hx hb dX11_behindOne_52 rfl (lv_at hl 1 rfl) ?_
      refine gf_RX11_111 hC hR ok_this dX11_behindOne_53 ?_
      refine lv_bipush (v := 41) hx hb dX11_behindOne_56 (by decide) ?_
      obtain ⟨j133_14, ej133_14, hf⟩ := jn_of1 hf
      have hj133_13 : ∀ (S15 : MS) (H : Heap) (locs : List Loc) (ls : Array Slot), j133_14 S15 = some (ro, So) → Rp G S15 H → va_S (gA G) s.heap H locs → Ex S S15 → Ok S15 this 11 → lv_has ls 5 [(0, .ref this), (3, .int x8), (4, .int x11)] → W p l e rX11_behindOne s m args below meth c H locs 0 0 (MQ below (Qn G S (some (.int ro)) So) args s 0 0 (gA G)) (F0 m 133 ls []) := by
        intro S15 H locs ls hf hR hS hE ok_this hl
        rw [ej133_14] at hf
        refine lv_aload_n hx hb dX11_behindOne_133 rfl (lv_at hl 0 rfl) ?_
        refine gf_RX11_111 hC hR ok_this dX11_behindOne_134 ?_
        refine lv_bipush (v := 44) hx hb dX11_behindOne_137 (by decide) ?_
        refine lv_icmp_ne (tgt := 179) hx hb dX11_behindOne_139 (by decide) (fun hc => ?_) (fun hc => ?_)
        · replace hf := if_f hf hc
          refine lv_iconst (v := 0) hx hb dX11_behindOne_179 (by decide) ?_
          exact r_zret hC hR hS hE hf dX11_behindOne_180
        · replace hf := if_t hf hc
          refine lv_iload hx hb dX11_behindOne_142 (lv_at hl 2 rfl) ?_
          refine lv_bipush (v := 41) hx hb dX11_behindOne_144 (by decide) ?_
          obtain ⟨j156_17, ej156_17, hf⟩ := jn_of1 hf
          have hj156_16 : ∀ (S18 : MS) (H : Heap) (locs : List Loc) (ls : Array Slot), j156_17 S18 = some (ro, So) → Rp G S18 H → va_S (gA G) s.heap H locs → Ex S S18 → Ok S18 this 11 → lv_has ls 5 [(0, .ref this), (3, .int x8), (4, .int x11)] → W p l e rX11_behindOne s m args below meth c H locs 0 0 (MQ below (Qn G S (some (.int ro)) So) args s 0 0 (gA G)) (F0 m 156 ls []) := by
            intro S18 H locs ls hf hR hS hE ok_this hl
            rw [ej156_17] at hf
            refine lv_aload_n hx hb dX11_behindOne_156 rfl (lv_at hl 0 rfl) ?_
            refine lv_iconst (v := 1) hx hb dX11_behindOne_157 (by decide) ?_
            obtain ⟨S19, hc20, hf⟩ := cv_of hf
            refine cl_RX11_158 (As := [.int (1 : Int32)]) (rest := []) hC hR hS (c_X11_settle l G n this (1 : Int32) S18 S19 hc20 ok_this) ok_this rfl ⟨Nat.le_of_ble_eq_true rfl, Nat.le_of_ble_eq_true rfl⟩ hl.1 rfl (Nat.le_of_ble_eq_true rfl) dX11_behindOne_158 (Nat.zero_le _) (Nat.zero_le _) (fun H locs hR hS hE21 => ?_)
            have ok_this := hE21 _ _ ok_this
            have hE := hE.tr hE21
            refine lv_aload_n hx hb dX11_behindOne_161 rfl (lv_at hl 0 rfl) ?_
            obtain ⟨q22, hq23, ok_q22, hf⟩ := gR_of hf
            refine gf_RX11_26 hC hR ok_this hq23 dX11_behindOne_162 ?_
            refine lv_iload_n hx hb dX11_behindOne_165 rfl (lv_at hl 1 rfl) ?_
            refine lv_iload hx hb dX11_behindOne_166 (lv_at hl 2 rfl) ?_
            refine lv_iconst (v := 2) hx hb dX11_behindOne_168 (by decide) ?_
            refine lv_iadd hx hb dX11_behindOne_169 ?_
            obtain ⟨hi24, hf⟩ := ck_of hf
            refine rB_iast hC hR hS ok_q22 hi24 dX11_behindOne_170 hf (fun S25 H locs hf hR hS hE26 => ?_)
            have ok_this := hE26 _ _ ok_this
            have ok_q22 := hE26 _ _ ok_q22
            have hE := hE.tr hE26
            refine lv_aload_n hx hb dX11_behindOne_171 rfl (lv_at hl 0 rfl) ?_
            refine lv_iconst (v := 0) hx hb dX11_behindOne_172 (by decide) ?_
            obtain ⟨hz28, hf⟩ := zb_of hf
            refine pf_RX11_154 hC hR hS ok_this hz28 dX11_behindOne_173 hf (fun S27 H locs hf hR hS hE29 => ?_)
            have ok_this := hE29 _ _ ok_this
            have ok_q22 := hE29 _ _ ok_q22
            have hE := hE.tr hE29
            refine lv_goto (tgt := 181) hx hb dX11_behindOne_176 (by decide) ?_
            refine lv_aload_n hx hb dX11_behindOne_181 rfl (lv_at hl 0 rfl) ?_
            obtain ⟨S30, hc31, hf⟩ := cv_of hf
            refine cl_RX11_165 (As := []) (rest := []) hC hR hS (c_X11_nextToken l G n this S27 S30 hc31 ok_this) ok_this rfl ⟨Nat.le_of_ble_eq_true rfl, Nat.le_of_ble_eq_true rfl⟩ hl.1 rfl (Nat.le_of_ble_eq_true rfl) dX11_behindOne_182 (Nat.zero_le _) (Nat.zero_le _) (fun H locs hR hS hE32 => ?_)
            have ok_this := hE32 _ _ ok_this
            have ok_q22 := hE32 _ _ ok_q22
            have hE := hE.tr hE32
            refine lv_iconst (v := 1) hx hb dX11_behindOne_185 (by decide) ?_
            exact r_zret hC hR hS hE hf dX11_behindOne_186
          refine lv_icmp_eq (tgt := 156) hx hb dX11_behindOne_146 (by decide) (fun hc => ?_) (fun hc => ?_)
          · replace hf := if_t hf hc
            exact hj156_16 S15 _ _ _ hf hR hS hE ok_this (lv_sub hl [0, 1, 2] rfl)
          · replace hf := if_f hf hc
            refine lv_iload hx hb dX11_behindOne_149 (lv_at hl 2 rfl) ?_
            refine lv_bipush (v := 42) hx hb dX11_behindOne_151 (by decide) ?_
            refine lv_icmp_ne (tgt := 179) hx hb dX11_behindOne_153 (by decide) (fun hc => ?_) (fun hc => ?_)
            · replace hf := if_f hf hc
              refine lv_iconst (v := 0) hx hb dX11_behindOne_179 (by decide) ?_
              exact r_zret hC hR hS hE hf dX11_behindOne_180
            · replace hf := if_t hf hc
              exact hj156_16 S15 _ _ _ hf hR hS hE ok_this (lv_sub hl [0, 1, 2] rfl)
      refine lv_icmp_ne (tgt := 133) hx hb dX11_behindOne_58 (by decide) (fun hc => ?_) (fun hc => ?_)
      · replace hf := if_f hf hc
        exact hj133_13 S12 _ _ _ hf hR hS hE ok_this (lv_sub hl [1, 3, 0] rfl)
      · replace hf := if_t hf hc
        refine lv_iload hx hb dX11_behindOne_61 (lv_at hl 0 rfl) ?_
        refine lv_bipush (v := 40) hx hb dX11_behindOne_63 (by decide) ?_
        obtain ⟨j75_35, ej75_35, hf⟩ := jn_of1 hf
        have hj75_34 : ∀ (S36 : MS) (H : Heap) (locs : List Loc) (ls : Array Slot), j75_35 S36 = some (ro, So) → Rp G S36 H → va_S (gA G) s.heap H locs → Ex S S36 → Ok S36 this 11 → lv_has ls 5 [(0, .ref this), (4, .int x11)] → W p l e rX11_behindOne s m args below meth c H locs 0 0 (MQ below (Qn G S (some (.int ro)) So) args s 0 0 (gA G)) (F0 m 75 ls []) := by
          intro S36 H locs ls hf hR hS hE ok_this hl
          rw [ej75_35] at hf
          refine lv_aload_n hx hb dX11_behindOne_75 rfl (lv_at hl 0 rfl) ?_
          refine lv_iconst (v := 1) hx hb dX11_behindOne_76 (by decide) ?_
          obtain ⟨S37, hc38, hf⟩ := cv_of hf
          refine cl_RX11_158 (As := [.int (1 : Int32)]) (rest := []) hC hR hS (c_X11_settle l G n this (1 : Int32) S36 S37 hc38 ok_this) ok_this rfl ⟨Nat.le_of_ble_eq_true rfl, Nat.le_of_ble_eq_true rfl⟩ hl.1 rfl (Nat.le_of_ble_eq_true rfl) dX11_behindOne_77 (Nat.zero_le _) (Nat.zero_le _) (fun H locs hR hS hE39 => ?_)
          have ok_this := hE39 _ _ ok_this
          have hE := hE.tr hE39
          refine lv_aload_n hx hb dX11_behindOne_80 rfl (lv_at hl 0 rfl) ?_
          refine lv_dup hx hb dX11_behindOne_81 rfl ?_
          refine gf_RX11_142 hC hR ok_this dX11_behindOne_82 ?_
          refine lv_iconst (v := 1) hx hb dX11_behindOne_85 (by decide) ?_
          refine lv_isub hx hb dX11_behindOne_86 ?_
          refine pf_RX11_142 hC hR hS ok_this dX11_behindOne_87 hf (fun S40 H locs hf hR hS hE41 => ?_)
          have ok_this := hE41 _ _ ok_this
          have hE := hE.tr hE41
          refine lv_aload_n hx hb dX11_behindOne_90 rfl (lv_at hl 0 rfl) ?_
          refine lv_dup hx hb dX11_behindOne_91 rfl ?_
          refine gf_RX11_151 hC hR ok_this dX11_behindOne_92 ?_
          refine lv_iconst (v := 1) hx hb dX11_behindOne_95 (by decide) ?_
          refine lv_isub hx hb dX11_behindOne_96 ?_
          refine pf_RX11_151 hC hR hS ok_this dX11_behindOne_97 hf (fun S42 H locs hf hR hS hE43 => ?_)
          have ok_this := hE43 _ _ ok_this
          have hE := hE.tr hE43
          refine lv_iload hx hb dX11_behindOne_100 (lv_at hl 1 rfl) ?_
          refine lv_bipush (v := 43) hx hb dX11_behindOne_102 (by decide) ?_
          refine lv_icmp_lt (tgt := 126) hx hb dX11_behindOne_104 (by decide) (fun hc => ?_) (fun hc => ?_)
          · replace hf := if_t hf hc
            refine lv_aload_n hx hb dX11_behindOne_126 rfl (lv_at hl 0 rfl) ?_
            obtain ⟨S44, hc45, hf⟩ := cv_of hf
            refine cl_RX11_177 (As := []) (rest := []) hC hR hS (c_X11_whole l G n this S42 S44 hc45 ok_this) ok_this rfl ⟨Nat.le_of_ble_eq_true rfl, Nat.le_of_ble_eq_true rfl⟩ hl.1 rfl (Nat.le_of_ble_eq_true rfl) dX11_behindOne_127 (Nat.zero_le _) (Nat.zero_le _) (fun H locs hR hS hE46 => ?_)
            have ok_this := hE46 _ _ ok_this
            have hE := hE.tr hE46
            refine lv_goto (tgt := 181) hx hb dX11_behindOne_130 (by decide) ?_
            refine lv_aload_n hx hb dX11_behindOne_181 rfl (lv_at hl 0 rfl) ?_
            obtain ⟨S47, hc48, hf⟩ := cv_of hf
            refine cl_RX11_165 (As := []) (rest := []) hC hR hS (c_X11_nextToken l G n this S44 S47 hc48 ok_this) ok_this rfl ⟨Nat.le_of_ble_eq_true rfl, Nat.le_of_ble_eq_true rfl⟩ hl.1 rfl (Nat.le_of_ble_eq_true rfl) dX11_behindOne_182 (Nat.zero_le _) (Nat.zero_le _) (fun H locs hR hS hE49 => ?_)
            have ok_this := hE49 _ _ ok_this
            have hE := hE.tr hE49
            refine lv_iconst (v := 1) hx hb dX11_behindOne_185 (by decide) ?_
            exact r_zret hC hR hS hE hf dX11_behindOne_186
          · replace hf := if_f hf hc
            refine lv_aload_n hx hb dX11_behindOne_107 rfl (lv_at hl 0 rfl) ?_
            refine lv_iload hx hb dX11_behindOne_108 (lv_at hl 1 rfl) ?_
            refine lv_bipush (v := 43) hx hb dX11_behindOne_110 (by decide) ?_
            obtain ⟨j122_51, ej122_51, hf⟩ := jn_of3 hf
            have hj122_50 : ∀ (q52 : Nat) (x53 : Int32) (S54 : MS) (H : Heap) (locs : List Loc) (ls : Array Slot), j122_51 q52 x53 S54 = some (ro, So) → Rp G S54 H → va_S (gA G) s.heap H locs → Ex S S54 → Ok S54 this 11 → Ok S54 q52 11 → lv_has ls 5 [(0, .ref this)] → W p l e rX11_behindOne s m args below meth c H locs 0 0 (MQ below (Qn G S (some (.int ro)) So) args s 0 0 (gA G)) (F0 m 122 ls [.int x53, .ref q52]) := by
              intro q52 x53 S54 H locs ls hf hR hS hE ok_this ok_q52 hl
              rw [ej122_51] at hf
              refine lv_iconst (v := 0) hx hb dX11_behindOne_122 (by decide) ?_
              obtain ⟨S55, hc56, hf⟩ := cv_of hf
              refine cl_RX11_148 (As := [.int x53, .int (0 : Int32)]) (rest := []) hC hR hS (c_X11_emit l G n q52 x53 (0 : Int32) S54 S55 hc56 ok_q52) ok_q52 rfl ⟨Nat.le_of_ble_eq_true rfl, Nat.le_of_ble_eq_true rfl⟩ hl.1 rfl (Nat.le_of_ble_eq_true rfl) dX11_behindOne_123 (Nat.zero_le _) (Nat.zero_le _) (fun H locs hR hS hE57 => ?_)
              have ok_this := hE57 _ _ ok_this
              have ok_q52 := hE57 _ _ ok_q52
              have hE := hE.tr hE57
              refine lv_aload_n hx hb dX11_behindOne_126 rfl (lv_at hl 0 rfl) ?_
              obtain ⟨S58, hc59, hf⟩ := cv_of hf
              refine cl_RX11_177 (As := []) (rest := []) hC hR hS (c_X11_whole l G n this S55 S58 hc59 ok_this) ok_this rfl ⟨Nat.le_of_ble_eq_true rfl, Nat.le_of_ble_eq_true rfl⟩ hl.1 rfl (Nat.le_of_ble_eq_true rfl) dX11_behindOne_127 (Nat.zero_le _) (Nat.zero_le _) (fun H locs hR hS hE60 => ?_)
              have ok_this := hE60 _ _ ok_this
              have ok_q52 := hE60 _ _ ok_q52
              have hE := hE.tr hE60
              refine lv_goto (tgt := 181) hx hb dX11_behindOne_130 (by decide) ?_
              refine lv_aload_n hx hb dX11_behindOne_181 rfl (lv_at hl 0 rfl) ?_
              obtain ⟨S61, hc62, hf⟩ := cv_of hf
              refine cl_RX11_165 (As := []) (rest := []) hC hR hS (c_X11_nextToken l G n this S58 S61 hc62 ok_this) ok_this rfl ⟨Nat.le_of_ble_eq_true rfl, Nat.le_of_ble_eq_true rfl⟩ hl.1 rfl (Nat.le_of_ble_eq_true rfl) dX11_behindOne_182 (Nat.zero_le _) (Nat.zero_le _) (fun H locs hR hS hE63 => ?_)
              have ok_this := hE63 _ _ ok_this
              have ok_q52 := hE63 _ _ ok_q52
              have hE := hE.tr hE63
              refine lv_iconst (v := 1) hx hb dX11_behindOne_185 (by decide) ?_
              exact r_zret hC hR hS hE hf dX11_behindOne_186
            refine lv_icmp_ne (tgt := 120) hx hb dX11_behindOne_112 (by decide) (fun hc => ?_) (fun hc => ?_)
            · replace hf := if_f hf hc
              refine lv_bipush (v := 8) hx hb dX11_behindOne_120 (by decide) ?_
              exact hj122_50 this (8 : Int32) S42 _ _ _ hf hR hS hE ok_this ok_this (lv_sub hl [0] rfl)
            · replace hf := if_t hf hc
              refine lv_bipush (v := 7) hx hb dX11_behindOne_115 (by decide) ?_
              refine lv_goto (tgt := 122) hx hb dX11_behindOne_117 (by decide) ?_
              exact hj122_50 this (7 : Int32) S42 _ _ _ hf hR hS hE ok_this ok_this (lv_sub hl [0] rfl)
        refine lv_icmp_eq (tgt := 75) hx hb dX11_behindOne_65 (by decide) (fun hc => ?_) (fun hc => ?_)
        · replace hf := if_t hf hc
          exact hj75_34 S12 _ _ _ hf hR hS hE ok_this (lv_sub hl [1, 0] rfl)
        · replace hf := if_f hf hc
          refine lv_iload hx hb dX11_behindOne_68 (lv_at hl 0 rfl) ?_
          refine lv_bipush (v := 43) hx hb dX11_behindOne_70 (by decide) ?_
          refine lv_icmp_lt (tgt := 133) hx hb dX11_behindOne_72 (by decide) (fun hc => ?_) (fun hc => ?_)
          · replace hf := if_t hf hc
            exact hj133_13 S12 _ _ _ hf hR hS hE ok_this (lv_sub hl [1, 3, 0] rfl)
          · replace hf := if_f hf hc
            exact hj75_34 S12 _ _ _ hf hR hS hE ok_this (lv_sub hl [1, 0] rfl)
    · replace hf := if_f hf hc
      refine lv_aload_n hx hb dX11_behindOne_31 rfl (lv_at hl 1 rfl) ?_
      refine lv_iload_n hx hb dX11_behindOne_32 rfl (lv_at hl 2 rfl) ?_
      obtain ⟨x72, S69, hc70, hf⟩ := cl_of hf
      refine cl_RX11_145 (As := [.int x4]) (rest := [.ref this]) hC hR hS (c_X11_rank l G n x4 S12 x72 S69 hc70 ) rfl ⟨Nat.le_of_ble_eq_true rfl, Nat.le_of_ble_eq_true rfl⟩ hl.1 rfl (Nat.le_of_ble_eq_true rfl) dX11_behindOne_33 (Nat.zero_le _) (Nat.zero_le _) (fun H locs hR hS hE71 => ?_)
      have ok_this := hE71 _ _ ok_this
      have hE := hE.tr hE71
      obtain ⟨S73, hc74, hf⟩ := cv_of hf
      refine cl_RX11_158 (As := [.int x72]) (rest := []) hC hR hS (c_X11_settle l G n this x72 S69 S73 hc74 ok_this) ok_this rfl ⟨Nat.le_of_ble_eq_true rfl, Nat.le_of_ble_eq_true rfl⟩ hl.1 rfl (Nat.le_of_ble_eq_true rfl) dX11_behindOne_36 (Nat.zero_le _) (Nat.zero_le _) (fun H locs hR hS hE75 => ?_)
      have ok_this := hE75 _ _ ok_this
      have hE := hE.tr hE75
      refine lv_aload_n hx hb dX11_behindOne_39 rfl (lv_at hl 1 rfl) ?_
      refine lv_iload_n hx hb dX11_behindOne_40 rfl (lv_at hl 2 rfl) ?_
      obtain ⟨S76, hc77, hf⟩ := cv_of hf
      refine cl_RX11_168 (As := [.int x4]) (rest := []) hC hR hS (c_X11_push l G n this x4 S73 S76 hc77 ok_this) ok_this rfl ⟨Nat.le_of_ble_eq_true rfl, Nat.le_of_ble_eq_true rfl⟩ hl.1 rfl (Nat.le_of_ble_eq_true rfl) dX11_behindOne_41 (Nat.zero_le _) (Nat.zero_le _) (fun H locs hR hS hE78 => ?_)
      have ok_this := hE78 _ _ ok_this
      have hE := hE.tr hE78
      refine lv_aload_n hx hb dX11_behindOne_44 rfl (lv_at hl 1 rfl) ?_
      refine lv_iconst (v := 0) hx hb dX11_behindOne_45 (by decide) ?_
      obtain ⟨hz80, hf⟩ := zb_of hf
      refine pf_RX11_154 hC hR hS ok_this hz80 dX11_behindOne_46 hf (fun S79 H locs hf hR hS hE81 => ?_)
      have ok_this := hE81 _ _ ok_this
      have hE := hE.tr hE81
      refine lv_goto (tgt := 181) hx hb dX11_behindOne_49 (by decide) ?_
      refine lv_aload_n hx hb dX11_behindOne_181 rfl (lv_at hl 1 rfl) ?_
      obtain ⟨S82, hc83, hf⟩ := cv_of hf
      refine cl_RX11_165 (As := []) (rest := []) hC hR hS (c_X11_nextToken l G n this S79 S82 hc83 ok_this) ok_this rfl ⟨Nat.le_of_ble_eq_true rfl, Nat.le_of_ble_eq_true rfl⟩ hl.1 rfl (Nat.le_of_ble_eq_true rfl) dX11_behindOne_182 (Nat.zero_le _) (Nat.zero_le _) (fun H locs hR hS hE84 => ?_)
      have ok_this := hE84 _ _ ok_this
      have hE := hE.tr hE84
      refine lv_iconst (v := 1) hx hb dX11_behindOne_185 (by decide) ?_
      exact r_zret hC hR hS hE hf dX11_behindOne_186
  refine lv_if_ge (tgt := 19) hx hb dX11_behindOne_12 (by decide) (fun hc => ?_) (fun hc => ?_)
  · replace hf := if_t hf hc
    refine lv_aload_n hx hb dX11_behindOne_19 rfl (lv_at hl 2 rfl) ?_
    obtain ⟨q85, hq86, ok_q85, hf⟩ := gR_of hf
    refine gf_RX11_26 hC hR ok_this hq86 dX11_behindOne_20 ?_
    refine lv_iload_n hx hb dX11_behindOne_23 rfl (lv_at hl 0 rfl) ?_
    obtain ⟨hi87, hf⟩ := ck_of hf
    refine r_iald hC hR ok_q85 hi87 dX11_behindOne_24 ?_
    exact hj25_9 (mI S5 q85 x8.toNatClampNeg) S5 _ _ _ hf hR hS hE ok_this (lv_sub hl [2, 1, 0] rfl)
  · replace hf := if_f hf hc
    refine lv_iconst (v := -1) hx hb dX11_behindOne_15 (by decide) ?_
    refine lv_goto (tgt := 25) hx hb dX11_behindOne_16 (by decide) ?_
    exact hj25_9 (-1 : Int32) S5 _ _ _ hf hR hS hE ok_this (lv_sub hl [2, 1, 0] rfl)
abbrev rX11_parsed : Room := { frames := 5, cells := 0, slots := 0, locals := 113 }
def f_X11_parsed_L12 (n : Nat) (this : Nat) (a1 : Int32) (j47_7 : MS → Option (Int32 × MS)) : Nat → Int32 → MS → Option (Int32 × MS)
  | 0, _, _ => none
  | k + 1, x25, S26 => jn (f_X11_parsed_L12 n this a1 j47_7 k) fun rec12_24 => (if x25 = 0 then j47_7 S26 else (if (mI S26 this 22) = 0 then cl (f_X11_beginOne n this a1 S26) fun x30 S27 => (if x30 = 0 then rec12_24 x25 S27 else some (x30, S27)) else cl (f_X11_behindOne n this a1 S26) fun x34 S31 => rec12_24 x34 S31))
def f_X11_parsed (n : Nat) (this : Nat) (a1 : Int32) (S : MS) : Option (Int32 × MS) :=
  bd (sI S this 20 (0 : Int32)) fun S1 => zb (0 : Int32) (bd (sI S1 this 22 (0 : Int32)) fun S3 => jn (fun (S8 : MS) => cl (f_X11_marker n this S8) fun x12 S9 => (if 0 ≤ x12 then some ((1 : Int32), S9) else (if a1 = 0 then cv (f_X11_settle n this (1 : Int32) S9) fun S13 => some ((0 : Int32), S13) else cl (f_X11_isCompared n this S9) fun x19 S16 => (if x19 = 0 then some ((1 : Int32), S16) else cv (f_X11_settle n this (1 : Int32) S16) fun S20 => some ((0 : Int32), S20))))) fun j47_7 => f_X11_parsed_L12 n this a1 j47_7 n (1 : Int32) S3)
set_option maxRecDepth 100000 in
set_option maxHeartbeats 4000000 in
theorem c_X11_parsed (l : Launch) (G : Gx) (n : Nat) (this : Nat) (a1 : Int32) (S : MS) (ro : Int32) (So : MS) (hf : f_X11_parsed n this a1 S = some (ro, So)) (ok_this : Ok S this 11) : Cn G l yX11_parsed cX11_parsed 4 (some .int) rX11_parsed [.ref this, .int a1] S (some (.int ro)) So := by
  refine Cn.of (by decide) (Nat.le_of_ble_eq_true rfl) ?_
  intro p e s m args below meth c hC hname hR ls hl
  have hC : Cx G RX11 cX11_parsed 4 (some .int) p s m args meth c := hC
  have hl : lv_has ls 4 [(0, .ref this), (1, .int a1)] := hl
  have hx := hC.x
  have hb := hC.b
  have hS : va_S (gA G) s.heap s.heap [] := va_S.rf
  have hE : Ex S S := Ex.rf S
  unfold f_X11_parsed at hf
  refine lv_aload_n hx hb dX11_parsed_0 rfl (lv_at hl 0 rfl) ?_
  refine lv_iconst (v := 0) hx hb dX11_parsed_1 (by decide) ?_
  refine pf_RX11_142 hC hR hS ok_this dX11_parsed_2 hf (fun S1 H locs hf hR hS hE2 => ?_)
  have ok_this := hE2 _ _ ok_this
  have hE := hE.tr hE2
  refine lv_aload_n hx hb dX11_parsed_5 rfl (lv_at hl 0 rfl) ?_
  refine lv_iconst (v := 0) hx hb dX11_parsed_6 (by decide) ?_
  obtain ⟨hz4, hf⟩ := zb_of hf
  refine pf_RX11_154 hC hR hS ok_this hz4 dX11_parsed_7 hf (fun S3 H locs hf hR hS hE5 => ?_)
  have ok_this := hE5 _ _ ok_this
  have hE := hE.tr hE5
  refine lv_iconst (v := 1) hx hb dX11_parsed_10 (by decide) ?_
  refine lv_istore_n (lv' := [(2, .int (1 : Int32)), (0, .ref this), (1, .int a1)]) hx hb dX11_parsed_11 rfl hl (by decide) rfl (fun ls hl => ?_)
  obtain ⟨j47_7, ej47_7, hf⟩ := jn_of1 hf
  have hj47_6 : ∀ (S8 : MS) (H : Heap) (locs : List Loc) (ls : Array Slot), j47_7 S8 = some (ro, So) → Rp G S8 H → va_S (gA G) s.heap H locs → Ex S S8 → Ok S8 this 11 → lv_has ls 4 [(0, .ref this), (1, .int a1)] → W p l e rX11_parsed s m args below meth c H locs 0 0 (MQ below (Qn G S (some (.int ro)) So) args s 0 0 (gA G)) (F0 m 47 ls []) := by
    intro S8 H locs ls hf hR hS hE ok_this hl
    rw [ej47_7] at hf
    refine lv_aload_n hx hb dX11_parsed_47 rfl (lv_at hl 0 rfl) ?_
    obtain ⟨x12, S9, hc10, hf⟩ := cl_of hf
    refine cl_RX11_161 (As := []) (rest := []) hC hR hS (c_X11_marker l G n this S8 x12 S9 hc10 ok_this) ok_this rfl ⟨Nat.le_of_ble_eq_true rfl, Nat.le_of_ble_eq_true rfl⟩ hl.1 rfl (Nat.le_of_ble_eq_true rfl) dX11_parsed_48 (Nat.zero_le _) (Nat.zero_le _) (fun H locs hR hS hE11 => ?_)
    have ok_this := hE11 _ _ ok_this
    have hE := hE.tr hE11
    refine lv_if_ge (tgt := 65) hx hb dX11_parsed_51 (by decide) (fun hc => ?_) (fun hc => ?_)
    · replace hf := if_t hf hc
      refine lv_iconst (v := 1) hx hb dX11_parsed_65 (by decide) ?_
      exact r_iret hC hR hS hE hf dX11_parsed_66
    · replace hf := if_f hf hc
      refine lv_iload_n hx hb dX11_parsed_54 rfl (lv_at hl 1 rfl) ?_
      refine lv_if_eq (tgt := 67) hx hb dX11_parsed_55 (by decide) (fun hc => ?_) (fun hc => ?_)
      · replace hf := if_t hf hc
        refine lv_aload_n hx hb dX11_parsed_67 rfl (lv_at hl 0 rfl) ?_
        refine lv_iconst (v := 1) hx hb dX11_parsed_68 (by decide) ?_
        obtain ⟨S13, hc14, hf⟩ := cv_of hf
        refine cl_RX11_158 (As := [.int (1 : Int32)]) (rest := []) hC hR hS (c_X11_settle l G n this (1 : Int32) S9 S13 hc14 ok_this) ok_this rfl ⟨Nat.le_of_ble_eq_true rfl, Nat.le_of_ble_eq_true rfl⟩ hl.1 rfl (Nat.le_of_ble_eq_true rfl) dX11_parsed_69 (Nat.zero_le _) (Nat.zero_le _) (fun H locs hR hS hE15 => ?_)
        have ok_this := hE15 _ _ ok_this
        have hE := hE.tr hE15
        refine lv_iconst (v := 0) hx hb dX11_parsed_72 (by decide) ?_
        exact r_iret hC hR hS hE hf dX11_parsed_73
      · replace hf := if_f hf hc
        refine lv_aload_n hx hb dX11_parsed_58 rfl (lv_at hl 0 rfl) ?_
        obtain ⟨x19, S16, hc17, hf⟩ := cl_of hf
        refine cl_RX11_191 (As := []) (rest := []) hC hR hS (c_X11_isCompared l G n this S9 x19 S16 hc17 ok_this) ok_this rfl ⟨Nat.le_of_ble_eq_true rfl, Nat.le_of_ble_eq_true rfl⟩ hl.1 rfl (Nat.le_of_ble_eq_true rfl) dX11_parsed_59 (Nat.zero_le _) (Nat.zero_le _) (fun H locs hR hS hE18 => ?_)
        have ok_this := hE18 _ _ ok_this
        have hE := hE.tr hE18
        refine lv_if_ne (tgt := 67) hx hb dX11_parsed_62 (by decide) (fun hc => ?_) (fun hc => ?_)
        · replace hf := if_f hf hc
          refine lv_aload_n hx hb dX11_parsed_67 rfl (lv_at hl 0 rfl) ?_
          refine lv_iconst (v := 1) hx hb dX11_parsed_68 (by decide) ?_
          obtain ⟨S20, hc21, hf⟩ := cv_of hf
          refine cl_RX11_158 (As := [.int (1 : Int32)]) (rest := []) hC hR hS (c_X11_settle l G n this (1 : Int32) S16 S20 hc21 ok_this) ok_this rfl ⟨Nat.le_of_ble_eq_true rfl, Nat.le_of_ble_eq_true rfl⟩ hl.1 rfl (Nat.le_of_ble_eq_true rfl) dX11_parsed_69 (Nat.zero_le _) (Nat.zero_le _) (fun H locs hR hS hE22 => ?_)
          have ok_this := hE22 _ _ ok_this
          have hE := hE.tr hE22
          refine lv_iconst (v := 0) hx hb dX11_parsed_72 (by decide) ?_
          exact r_iret hC hR hS hE hf dX11_parsed_73
        · replace hf := if_t hf hc
          refine lv_iconst (v := 1) hx hb dX11_parsed_65 (by decide) ?_
          exact r_iret hC hR hS hE hf dX11_parsed_66
  have hh35 : ∀ k : Nat, ∀ (x25 : Int32) (S26 : MS) (H : Heap) (locs : List Loc) (ls : Array Slot), f_X11_parsed_L12 n this a1 j47_7 k x25 S26 = some (ro, So) → Rp G S26 H → va_S (gA G) s.heap H locs → Ex S S26 → Ok S26 this 11 → lv_has ls 4 [(0, .ref this), (1, .int a1), (2, .int x25)] → W p l e rX11_parsed s m args below meth c H locs 0 0 (MQ below (Qn G S (some (.int ro)) So) args s 0 0 (gA G)) (F0 m 12 ls []) := by
    intro k
    induction k with
    | zero =>
      intro x25 S26 H locs ls hf hR hS hE ok_this hl
      exact absurd hf (by rw [f_X11_parsed_L12]; exact fun h => by cases h)
    | succ k ih =>
      intro x25 S26 H locs ls hf hR hS hE ok_this hl
      rw [f_X11_parsed_L12] at hf
      obtain ⟨rec12_24, erec12_24, hf⟩ := jn_of2 hf
      have hL12_23 : ∀ (x25 : Int32) (S26 : MS) (H : Heap) (locs : List Loc) (ls : Array Slot), rec12_24 x25 S26 = some (ro, So) → Rp G S26 H → va_S (gA G) s.heap H locs → Ex S S26 → Ok S26 this 11 → lv_has ls 4 [(0, .ref this), (1, .int a1), (2, .int x25)] → W p l e rX11_parsed s m args below meth c H locs 0 0 (MQ below (Qn G S (some (.int ro)) So) args s 0 0 (gA G)) (F0 m 12 ls []) := by
        intro x25 S26 H locs ls hf hR hS hE ok_this hl
        rw [erec12_24] at hf
        exact ih x25 S26 _ _ _ hf hR hS hE ok_this hl
      refine lv_iload_n hx hb dX11_parsed_12 rfl (lv_at hl 2 rfl) ?_
      refine lv_if_eq (tgt := 47) hx hb dX11_parsed_13 (by decide) (fun hc => ?_) (fun hc => ?_)
      · replace hf := if_t hf hc
        exact hj47_6 S26 _ _ _ hf hR hS hE ok_this (lv_sub hl [0, 1] rfl)
      · replace hf := if_f hf hc
        refine lv_aload_n hx hb dX11_parsed_16 rfl (lv_at hl 0 rfl) ?_
        refine gf_RX11_154 hC hR ok_this dX11_parsed_17 ?_
        refine lv_if_eq (tgt := 32) hx hb dX11_parsed_20 (by decide) (fun hc => ?_) (fun hc => ?_)
        · replace hf := if_t hf hc
          refine lv_aload_n hx hb dX11_parsed_32 rfl (lv_at hl 0 rfl) ?_
          refine lv_iload_n hx hb dX11_parsed_33 rfl (lv_at hl 1 rfl) ?_
          obtain ⟨x30, S27, hc28, hf⟩ := cl_of hf
          refine cl_RX11_207 (As := [.int a1]) (rest := []) hC hR hS (c_X11_beginOne l G n this a1 S26 x30 S27 hc28 ok_this) ok_this rfl ⟨Nat.le_of_ble_eq_true rfl, Nat.le_of_ble_eq_true rfl⟩ hl.1 rfl (Nat.le_of_ble_eq_true rfl) dX11_parsed_34 (Nat.zero_le _) (Nat.zero_le _) (fun H locs hR hS hE29 => ?_)
          have ok_this := hE29 _ _ ok_this
          have hE := hE.tr hE29
          refine lv_istore_n (lv' := [(3, .int x30), (0, .ref this), (1, .int a1), (2, .int x25)]) hx hb dX11_parsed_37 rfl hl (by decide) rfl (fun ls hl => ?_)
          refine lv_iload_n hx hb dX11_parsed_38 rfl (lv_at hl 0 rfl) ?_
          refine lv_if_eq (tgt := 44) hx hb dX11_parsed_39 (by decide) (fun hc => ?_) (fun hc => ?_)
          · replace hf := if_t hf hc
            refine lv_goto (tgt := 12) hx hb dX11_parsed_44 (by decide) ?_
            exact hL12_23 x25 S27 _ _ _ hf hR hS hE ok_this (lv_sub hl [1, 2, 3] rfl)
          · replace hf := if_f hf hc
            refine lv_iload_n hx hb dX11_parsed_42 rfl (lv_at hl 0 rfl) ?_
            exact r_iret hC hR hS hE hf dX11_parsed_43
        · replace hf := if_f hf hc
          refine lv_aload_n hx hb dX11_parsed_23 rfl (lv_at hl 0 rfl) ?_
          refine lv_iload_n hx hb dX11_parsed_24 rfl (lv_at hl 1 rfl) ?_
          obtain ⟨x34, S31, hc32, hf⟩ := cl_of hf
          refine cl_RX11_204 (As := [.int a1]) (rest := []) hC hR hS (c_X11_behindOne l G n this a1 S26 x34 S31 hc32 ok_this) ok_this rfl ⟨Nat.le_of_ble_eq_true rfl, Nat.le_of_ble_eq_true rfl⟩ hl.1 rfl (Nat.le_of_ble_eq_true rfl) dX11_parsed_25 (Nat.zero_le _) (Nat.zero_le _) (fun H locs hR hS hE33 => ?_)
          have ok_this := hE33 _ _ ok_this
          have hE := hE.tr hE33
          refine lv_istore_n (lv' := [(2, .int x34), (0, .ref this), (1, .int a1)]) hx hb dX11_parsed_28 rfl hl (by decide) rfl (fun ls hl => ?_)
          refine lv_goto (tgt := 12) hx hb dX11_parsed_29 (by decide) ?_
          exact hL12_23 x34 S31 _ _ _ hf hR hS hE ok_this (lv_sub hl [1, 2, 0] rfl)
  exact hh35 n (1 : Int32) S3 _ _ _ hf hR hS hE ok_this (lv_sub hl [1, 2, 0] rfl)
abbrev rX11_sortOf : Room := { frames := 2, cells := 0, slots := 0, locals := 46 }
def f_X11_sortOf (n : Nat) (this : Nat) (S : MS) : Option (Int32 × MS) :=
  cl (f_X11_w4 n (104 : Int32) (111 : Int32) (108 : Int32) (100 : Int32) S) fun x4 S1 => cl (f_X11_isWord n this x4 S1) fun x8 S5 => (if x8 = 0 then cl (f_X11_w3 n (102 : Int32) (97 : Int32) (114 : Int32) S5) fun x12 S9 => cl (f_X11_isWord n this x12 S9) fun x16 S13 => (if x16 = 0 then cl (f_X11_w4 n (99 : Int32) (114 : Int32) (111 : Int32) (112 : Int32) S13) fun x20 S17 => cl (f_X11_isWord n this x20 S17) fun x24 S21 => (if x24 = 0 then cl (f_X11_w5 n (102 : Int32) (111 : Int32) (117 : Int32) (110 : Int32) (100 : Int32) S21) fun x28 S25 => cl (f_X11_isWord n this x28 S25) fun x32 S29 => (if x32 = 0 then cl (f_X11_w4 n (98 : Int32) (111 : Int32) (110 : Int32) (101 : Int32) S29) fun x36 S33 => cl (f_X11_isWord n this x36 S33) fun x40 S37 => (if x40 = 0 then cl (f_X11_w5 n (115 : Int32) (116 : Int32) (97 : Int32) (107 : Int32) (101 : Int32) S37) fun x44 S41 => cl (f_X11_isWord n this x44 S41) fun x48 S45 => (if x48 = 0 then some ((-1 : Int32), S45) else some ((5 : Int32), S45)) else some ((4 : Int32), S37)) else some ((3 : Int32), S29)) else some ((2 : Int32), S21)) else some ((1 : Int32), S13)) else some ((0 : Int32), S5))
set_option maxRecDepth 100000 in
set_option maxHeartbeats 4000000 in
theorem c_X11_sortOf (l : Launch) (G : Gx) (n : Nat) (this : Nat) (S : MS) (ro : Int32) (So : MS) (hf : f_X11_sortOf n this S = some (ro, So)) (ok_this : Ok S this 11) : Cn G l yX11_sortOf cX11_sortOf 1 (some .int) rX11_sortOf [.ref this] S (some (.int ro)) So := by
  refine Cn.of (by decide) (Nat.le_of_ble_eq_true rfl) ?_
  intro p e s m args below meth c hC hname hR ls hl
  have hC : Cx G RX11 cX11_sortOf 1 (some .int) p s m args meth c := hC
  have hl : lv_has ls 1 [(0, .ref this)] := hl
  have hx := hC.x
  have hb := hC.b
  have hS : va_S (gA G) s.heap s.heap [] := va_S.rf
  have hE : Ex S S := Ex.rf S
  unfold f_X11_sortOf at hf
  refine lv_aload_n hx hb dX11_sortOf_0 rfl (lv_at hl 0 rfl) ?_
  refine lv_bipush (v := 104) hx hb dX11_sortOf_1 (by decide) ?_
  refine lv_bipush (v := 111) hx hb dX11_sortOf_3 (by decide) ?_
  refine lv_bipush (v := 108) hx hb dX11_sortOf_5 (by decide) ?_
  refine lv_bipush (v := 100) hx hb dX11_sortOf_7 (by decide) ?_
  obtain ⟨x4, S1, hc2, hf⟩ := cl_of hf
  refine cl_RX11_214 (As := [.int (104 : Int32), .int (111 : Int32), .int (108 : Int32), .int (100 : Int32)]) (rest := [.ref this]) hC hR hS (c_X11_w4 l G n (104 : Int32) (111 : Int32) (108 : Int32) (100 : Int32) S x4 S1 hc2 ) rfl ⟨Nat.le_of_ble_eq_true rfl, Nat.le_of_ble_eq_true rfl⟩ hl.1 rfl (Nat.le_of_ble_eq_true rfl) dX11_sortOf_9 (Nat.zero_le _) (Nat.zero_le _) (fun H locs hR hS hE3 => ?_)
  have ok_this := hE3 _ _ ok_this
  have hE := hE.tr hE3
  obtain ⟨x8, S5, hc6, hf⟩ := cl_of hf
  refine cl_RX11_183 (As := [.long x4]) (rest := []) hC hR hS (c_X11_isWord l G n this x4 S1 x8 S5 hc6 ok_this) ok_this rfl ⟨Nat.le_of_ble_eq_true rfl, Nat.le_of_ble_eq_true rfl⟩ hl.1 rfl (Nat.le_of_ble_eq_true rfl) dX11_sortOf_12 (Nat.zero_le _) (Nat.zero_le _) (fun H locs hR hS hE7 => ?_)
  have ok_this := hE7 _ _ ok_this
  have hE := hE.tr hE7
  refine lv_if_eq (tgt := 20) hx hb dX11_sortOf_15 (by decide) (fun hc => ?_) (fun hc => ?_)
  · replace hf := if_t hf hc
    refine lv_aload_n hx hb dX11_sortOf_20 rfl (lv_at hl 0 rfl) ?_
    refine lv_bipush (v := 102) hx hb dX11_sortOf_21 (by decide) ?_
    refine lv_bipush (v := 97) hx hb dX11_sortOf_23 (by decide) ?_
    refine lv_bipush (v := 114) hx hb dX11_sortOf_25 (by decide) ?_
    obtain ⟨x12, S9, hc10, hf⟩ := cl_of hf
    refine cl_RX11_128 (As := [.int (102 : Int32), .int (97 : Int32), .int (114 : Int32)]) (rest := [.ref this]) hC hR hS (c_X11_w3 l G n (102 : Int32) (97 : Int32) (114 : Int32) S5 x12 S9 hc10 ) rfl ⟨Nat.le_of_ble_eq_true rfl, Nat.le_of_ble_eq_true rfl⟩ hl.1 rfl (Nat.le_of_ble_eq_true rfl) dX11_sortOf_27 (Nat.zero_le _) (Nat.zero_le _) (fun H locs hR hS hE11 => ?_)
    have ok_this := hE11 _ _ ok_this
    have hE := hE.tr hE11
    obtain ⟨x16, S13, hc14, hf⟩ := cl_of hf
    refine cl_RX11_183 (As := [.long x12]) (rest := []) hC hR hS (c_X11_isWord l G n this x12 S9 x16 S13 hc14 ok_this) ok_this rfl ⟨Nat.le_of_ble_eq_true rfl, Nat.le_of_ble_eq_true rfl⟩ hl.1 rfl (Nat.le_of_ble_eq_true rfl) dX11_sortOf_30 (Nat.zero_le _) (Nat.zero_le _) (fun H locs hR hS hE15 => ?_)
    have ok_this := hE15 _ _ ok_this
    have hE := hE.tr hE15
    refine lv_if_eq (tgt := 38) hx hb dX11_sortOf_33 (by decide) (fun hc => ?_) (fun hc => ?_)
    · replace hf := if_t hf hc
      refine lv_aload_n hx hb dX11_sortOf_38 rfl (lv_at hl 0 rfl) ?_
      refine lv_bipush (v := 99) hx hb dX11_sortOf_39 (by decide) ?_
      refine lv_bipush (v := 114) hx hb dX11_sortOf_41 (by decide) ?_
      refine lv_bipush (v := 111) hx hb dX11_sortOf_43 (by decide) ?_
      refine lv_bipush (v := 112) hx hb dX11_sortOf_45 (by decide) ?_
      obtain ⟨x20, S17, hc18, hf⟩ := cl_of hf
      refine cl_RX11_214 (As := [.int (99 : Int32), .int (114 : Int32), .int (111 : Int32), .int (112 : Int32)]) (rest := [.ref this]) hC hR hS (c_X11_w4 l G n (99 : Int32) (114 : Int32) (111 : Int32) (112 : Int32) S13 x20 S17 hc18 ) rfl ⟨Nat.le_of_ble_eq_true rfl, Nat.le_of_ble_eq_true rfl⟩ hl.1 rfl (Nat.le_of_ble_eq_true rfl) dX11_sortOf_47 (Nat.zero_le _) (Nat.zero_le _) (fun H locs hR hS hE19 => ?_)
      have ok_this := hE19 _ _ ok_this
      have hE := hE.tr hE19
      obtain ⟨x24, S21, hc22, hf⟩ := cl_of hf
      refine cl_RX11_183 (As := [.long x20]) (rest := []) hC hR hS (c_X11_isWord l G n this x20 S17 x24 S21 hc22 ok_this) ok_this rfl ⟨Nat.le_of_ble_eq_true rfl, Nat.le_of_ble_eq_true rfl⟩ hl.1 rfl (Nat.le_of_ble_eq_true rfl) dX11_sortOf_50 (Nat.zero_le _) (Nat.zero_le _) (fun H locs hR hS hE23 => ?_)
      have ok_this := hE23 _ _ ok_this
      have hE := hE.tr hE23
      refine lv_if_eq (tgt := 58) hx hb dX11_sortOf_53 (by decide) (fun hc => ?_) (fun hc => ?_)
      · replace hf := if_t hf hc
        refine lv_aload_n hx hb dX11_sortOf_58 rfl (lv_at hl 0 rfl) ?_
        refine lv_bipush (v := 102) hx hb dX11_sortOf_59 (by decide) ?_
        refine lv_bipush (v := 111) hx hb dX11_sortOf_61 (by decide) ?_
        refine lv_bipush (v := 117) hx hb dX11_sortOf_63 (by decide) ?_
        refine lv_bipush (v := 110) hx hb dX11_sortOf_65 (by decide) ?_
        refine lv_bipush (v := 100) hx hb dX11_sortOf_67 (by decide) ?_
        obtain ⟨x28, S25, hc26, hf⟩ := cl_of hf
        refine cl_RX11_132 (As := [.int (102 : Int32), .int (111 : Int32), .int (117 : Int32), .int (110 : Int32), .int (100 : Int32)]) (rest := [.ref this]) hC hR hS (c_X11_w5 l G n (102 : Int32) (111 : Int32) (117 : Int32) (110 : Int32) (100 : Int32) S21 x28 S25 hc26 ) rfl ⟨Nat.le_of_ble_eq_true rfl, Nat.le_of_ble_eq_true rfl⟩ hl.1 rfl (Nat.le_of_ble_eq_true rfl) dX11_sortOf_69 (Nat.zero_le _) (Nat.zero_le _) (fun H locs hR hS hE27 => ?_)
        have ok_this := hE27 _ _ ok_this
        have hE := hE.tr hE27
        obtain ⟨x32, S29, hc30, hf⟩ := cl_of hf
        refine cl_RX11_183 (As := [.long x28]) (rest := []) hC hR hS (c_X11_isWord l G n this x28 S25 x32 S29 hc30 ok_this) ok_this rfl ⟨Nat.le_of_ble_eq_true rfl, Nat.le_of_ble_eq_true rfl⟩ hl.1 rfl (Nat.le_of_ble_eq_true rfl) dX11_sortOf_72 (Nat.zero_le _) (Nat.zero_le _) (fun H locs hR hS hE31 => ?_)
        have ok_this := hE31 _ _ ok_this
        have hE := hE.tr hE31
        refine lv_if_eq (tgt := 80) hx hb dX11_sortOf_75 (by decide) (fun hc => ?_) (fun hc => ?_)
        · replace hf := if_t hf hc
          refine lv_aload_n hx hb dX11_sortOf_80 rfl (lv_at hl 0 rfl) ?_
          refine lv_bipush (v := 98) hx hb dX11_sortOf_81 (by decide) ?_
          refine lv_bipush (v := 111) hx hb dX11_sortOf_83 (by decide) ?_
          refine lv_bipush (v := 110) hx hb dX11_sortOf_85 (by decide) ?_
          refine lv_bipush (v := 101) hx hb dX11_sortOf_87 (by decide) ?_
          obtain ⟨x36, S33, hc34, hf⟩ := cl_of hf
          refine cl_RX11_214 (As := [.int (98 : Int32), .int (111 : Int32), .int (110 : Int32), .int (101 : Int32)]) (rest := [.ref this]) hC hR hS (c_X11_w4 l G n (98 : Int32) (111 : Int32) (110 : Int32) (101 : Int32) S29 x36 S33 hc34 ) rfl ⟨Nat.le_of_ble_eq_true rfl, Nat.le_of_ble_eq_true rfl⟩ hl.1 rfl (Nat.le_of_ble_eq_true rfl) dX11_sortOf_89 (Nat.zero_le _) (Nat.zero_le _) (fun H locs hR hS hE35 => ?_)
          have ok_this := hE35 _ _ ok_this
          have hE := hE.tr hE35
          obtain ⟨x40, S37, hc38, hf⟩ := cl_of hf
          refine cl_RX11_183 (As := [.long x36]) (rest := []) hC hR hS (c_X11_isWord l G n this x36 S33 x40 S37 hc38 ok_this) ok_this rfl ⟨Nat.le_of_ble_eq_true rfl, Nat.le_of_ble_eq_true rfl⟩ hl.1 rfl (Nat.le_of_ble_eq_true rfl) dX11_sortOf_92 (Nat.zero_le _) (Nat.zero_le _) (fun H locs hR hS hE39 => ?_)
          have ok_this := hE39 _ _ ok_this
          have hE := hE.tr hE39
          refine lv_if_eq (tgt := 102) hx hb dX11_sortOf_95 (by decide) (fun hc => ?_) (fun hc => ?_)
          · replace hf := if_t hf hc
            refine lv_aload_n hx hb dX11_sortOf_102 rfl (lv_at hl 0 rfl) ?_
            refine lv_bipush (v := 115) hx hb dX11_sortOf_103 (by decide) ?_
            refine lv_bipush (v := 116) hx hb dX11_sortOf_105 (by decide) ?_
            refine lv_bipush (v := 97) hx hb dX11_sortOf_107 (by decide) ?_
            refine lv_bipush (v := 107) hx hb dX11_sortOf_109 (by decide) ?_
            refine lv_bipush (v := 101) hx hb dX11_sortOf_111 (by decide) ?_
            obtain ⟨x44, S41, hc42, hf⟩ := cl_of hf
            refine cl_RX11_132 (As := [.int (115 : Int32), .int (116 : Int32), .int (97 : Int32), .int (107 : Int32), .int (101 : Int32)]) (rest := [.ref this]) hC hR hS (c_X11_w5 l G n (115 : Int32) (116 : Int32) (97 : Int32) (107 : Int32) (101 : Int32) S37 x44 S41 hc42 ) rfl ⟨Nat.le_of_ble_eq_true rfl, Nat.le_of_ble_eq_true rfl⟩ hl.1 rfl (Nat.le_of_ble_eq_true rfl) dX11_sortOf_113 (Nat.zero_le _) (Nat.zero_le _) (fun H locs hR hS hE43 => ?_)
            have ok_this := hE43 _ _ ok_this
            have hE := hE.tr hE43
            obtain ⟨x48, S45, hc46, hf⟩ := cl_of hf
            refine cl_RX11_183 (As := [.long x44]) (rest := []) hC hR hS (c_X11_isWord l G n this x44 S41 x48 S45 hc46 ok_this) ok_this rfl ⟨Nat.le_of_ble_eq_true rfl, Nat.le_of_ble_eq_true rfl⟩ hl.1 rfl (Nat.le_of_ble_eq_true rfl) dX11_sortOf_116 (Nat.zero_le _) (Nat.zero_le _) (fun H locs hR hS hE47 => ?_)
            have ok_this := hE47 _ _ ok_this
            have hE := hE.tr hE47
            refine lv_if_eq (tgt := 126) hx hb dX11_sortOf_119 (by decide) (fun hc => ?_) (fun hc => ?_)
            · replace hf := if_t hf hc
              refine lv_iconst (v := -1) hx hb dX11_sortOf_126 (by decide) ?_
              exact r_iret hC hR hS hE hf dX11_sortOf_127
            · replace hf := if_f hf hc
              refine lv_iconst (v := 5) hx hb dX11_sortOf_122 (by decide) ?_
              refine lv_goto (tgt := 127) hx hb dX11_sortOf_123 (by decide) ?_
              exact r_iret hC hR hS hE hf dX11_sortOf_127
          · replace hf := if_f hf hc
            refine lv_iconst (v := 4) hx hb dX11_sortOf_98 (by decide) ?_
            refine lv_goto (tgt := 127) hx hb dX11_sortOf_99 (by decide) ?_
            exact r_iret hC hR hS hE hf dX11_sortOf_127
        · replace hf := if_f hf hc
          refine lv_iconst (v := 3) hx hb dX11_sortOf_78 (by decide) ?_
          exact r_iret hC hR hS hE hf dX11_sortOf_79
      · replace hf := if_f hf hc
        refine lv_iconst (v := 2) hx hb dX11_sortOf_56 (by decide) ?_
        exact r_iret hC hR hS hE hf dX11_sortOf_57
    · replace hf := if_f hf hc
      refine lv_iconst (v := 1) hx hb dX11_sortOf_36 (by decide) ?_
      exact r_iret hC hR hS hE hf dX11_sortOf_37
  · replace hf := if_f hf hc
    refine lv_iconst (v := 0) hx hb dX11_sortOf_18 (by decide) ?_
    exact r_iret hC hR hS hE hf dX11_sortOf_19
abbrev rX11_figure : Room := { frames := 3, cells := 0, slots := 0, locals := 64 }
def f_X11_figure (n : Nat) (this : Nat) (a1 : Int32) (a2 : Int32) (a3 : Int32) (S : MS) : Option (Int32 × MS) :=
  (if (mI S this 12) = (1 : Int32) then cl (f_X11_isIn n (mI S this 13) a2 a3 S) fun x4 S1 => (if x4 = 0 then some ((2 : Int32), S1) else gR S1 (mR S1 this 5) 12 fun q5 => ck (inb a1 (mN S1 q5)) (bd (sI S1 q5 a1.toNatClampNeg (mI S1 this 13)) fun S8 => cv (f_X11_nextToken n this S8) fun S10 => some ((0 : Int32), S10))) else some ((1 : Int32), S))
set_option maxRecDepth 100000 in
set_option maxHeartbeats 4000000 in
theorem c_X11_figure (l : Launch) (G : Gx) (n : Nat) (this : Nat) (a1 : Int32) (a2 : Int32) (a3 : Int32) (S : MS) (ro : Int32) (So : MS) (hf : f_X11_figure n this a1 a2 a3 S = some (ro, So)) (ok_this : Ok S this 11) : Cn G l yX11_figure cX11_figure 4 (some .int) rX11_figure [.ref this, .int a1, .int a2, .int a3] S (some (.int ro)) So := by
  refine Cn.of (by decide) (Nat.le_of_ble_eq_true rfl) ?_
  intro p e s m args below meth c hC hname hR ls hl
  have hC : Cx G RX11 cX11_figure 4 (some .int) p s m args meth c := hC
  have hl : lv_has ls 4 [(0, .ref this), (1, .int a1), (2, .int a2), (3, .int a3)] := hl
  have hx := hC.x
  have hb := hC.b
  have hS : va_S (gA G) s.heap s.heap [] := va_S.rf
  have hE : Ex S S := Ex.rf S
  unfold f_X11_figure at hf
  refine lv_aload_n hx hb dX11_figure_0 rfl (lv_at hl 0 rfl) ?_
  refine gf_RX11_111 hC hR ok_this dX11_figure_1 ?_
  refine lv_iconst (v := 1) hx hb dX11_figure_4 (by decide) ?_
  refine lv_icmp_eq (tgt := 10) hx hb dX11_figure_5 (by decide) (fun hc => ?_) (fun hc => ?_)
  · replace hf := if_t hf hc
    refine lv_aload_n hx hb dX11_figure_10 rfl (lv_at hl 0 rfl) ?_
    refine gf_RX11_117 hC hR ok_this dX11_figure_11 ?_
    refine lv_iload_n hx hb dX11_figure_14 rfl (lv_at hl 2 rfl) ?_
    refine lv_iload_n hx hb dX11_figure_15 rfl (lv_at hl 3 rfl) ?_
    obtain ⟨x4, S1, hc2, hf⟩ := cl_of hf
    refine cl_RX11_71 (As := [.int (mI S this 13), .int a2, .int a3]) (rest := []) hC hR hS (c_X11_isIn l G n (mI S this 13) a2 a3 S x4 S1 hc2 ) rfl ⟨Nat.le_of_ble_eq_true rfl, Nat.le_of_ble_eq_true rfl⟩ hl.1 rfl (Nat.le_of_ble_eq_true rfl) dX11_figure_16 (Nat.zero_le _) (Nat.zero_le _) (fun H locs hR hS hE3 => ?_)
    have ok_this := hE3 _ _ ok_this
    have hE := hE.tr hE3
    refine lv_if_ne (tgt := 24) hx hb dX11_figure_19 (by decide) (fun hc => ?_) (fun hc => ?_)
    · replace hf := if_f hf hc
      refine lv_aload_n hx hb dX11_figure_24 rfl (lv_at hl 0 rfl) ?_
      obtain ⟨q5, hq6, ok_q5, hf⟩ := gR_of hf
      refine gf_RX11_13 hC hR ok_this hq6 dX11_figure_25 ?_
      refine lv_iload_n hx hb dX11_figure_28 rfl (lv_at hl 1 rfl) ?_
      refine lv_aload_n hx hb dX11_figure_29 rfl (lv_at hl 0 rfl) ?_
      refine gf_RX11_117 hC hR ok_this dX11_figure_30 ?_
      obtain ⟨hi7, hf⟩ := ck_of hf
      refine rB_iast hC hR hS ok_q5 hi7 dX11_figure_33 hf (fun S8 H locs hf hR hS hE9 => ?_)
      have ok_this := hE9 _ _ ok_this
      have ok_q5 := hE9 _ _ ok_q5
      have hE := hE.tr hE9
      refine lv_aload_n hx hb dX11_figure_34 rfl (lv_at hl 0 rfl) ?_
      obtain ⟨S10, hc11, hf⟩ := cv_of hf
      refine cl_RX11_165 (As := []) (rest := []) hC hR hS (c_X11_nextToken l G n this S8 S10 hc11 ok_this) ok_this rfl ⟨Nat.le_of_ble_eq_true rfl, Nat.le_of_ble_eq_true rfl⟩ hl.1 rfl (Nat.le_of_ble_eq_true rfl) dX11_figure_35 (Nat.zero_le _) (Nat.zero_le _) (fun H locs hR hS hE12 => ?_)
      have ok_this := hE12 _ _ ok_this
      have ok_q5 := hE12 _ _ ok_q5
      have hE := hE.tr hE12
      refine lv_iconst (v := 0) hx hb dX11_figure_38 (by decide) ?_
      exact r_iret hC hR hS hE hf dX11_figure_39
    · replace hf := if_t hf hc
      refine lv_iconst (v := 2) hx hb dX11_figure_22 (by decide) ?_
      exact r_iret hC hR hS hE hf dX11_figure_23
  · replace hf := if_f hf hc
    refine lv_iconst (v := 1) hx hb dX11_figure_8 (by decide) ?_
    exact r_iret hC hR hS hE hf dX11_figure_9
abbrev rX11_expects : Room := { frames := 3, cells := 0, slots := 0, locals := 64 }
def f_X11_expects (n : Nat) (this : Nat) (a1 : Int32) (S : MS) : Option (Int32 × MS) :=
  (if a1 = 0 then some ((1 : Int32), S) else cv (f_X11_nextToken n this S) fun S1 => some ((0 : Int32), S1))
set_option maxRecDepth 100000 in
set_option maxHeartbeats 4000000 in
theorem c_X11_expects (l : Launch) (G : Gx) (n : Nat) (this : Nat) (a1 : Int32) (S : MS) (ro : Int32) (So : MS) (hf : f_X11_expects n this a1 S = some (ro, So)) (ok_this : Ok S this 11) : Cn G l yX11_expects cX11_expects 2 (some .int) rX11_expects [.ref this, .int a1] S (some (.int ro)) So := by
  refine Cn.of (by decide) (Nat.le_of_ble_eq_true rfl) ?_
  intro p e s m args below meth c hC hname hR ls hl
  have hC : Cx G RX11 cX11_expects 2 (some .int) p s m args meth c := hC
  have hl : lv_has ls 2 [(0, .ref this), (1, .int a1)] := hl
  have hx := hC.x
  have hb := hC.b
  have hS : va_S (gA G) s.heap s.heap [] := va_S.rf
  have hE : Ex S S := Ex.rf S
  unfold f_X11_expects at hf
  refine lv_iload_n hx hb dX11_expects_0 rfl (lv_at hl 1 rfl) ?_
  refine lv_if_ne (tgt := 6) hx hb dX11_expects_1 (by decide) (fun hc => ?_) (fun hc => ?_)
  · replace hf := if_f hf hc
    refine lv_aload_n hx hb dX11_expects_6 rfl (lv_at hl 0 rfl) ?_
    obtain ⟨S1, hc2, hf⟩ := cv_of hf
    refine cl_RX11_165 (As := []) (rest := []) hC hR hS (c_X11_nextToken l G n this S S1 hc2 ok_this) ok_this rfl ⟨Nat.le_of_ble_eq_true rfl, Nat.le_of_ble_eq_true rfl⟩ hl.1 rfl (Nat.le_of_ble_eq_true rfl) dX11_expects_7 (Nat.zero_le _) (Nat.zero_le _) (fun H locs hR hS hE3 => ?_)
    have ok_this := hE3 _ _ ok_this
    have hE := hE.tr hE3
    refine lv_iconst (v := 0) hx hb dX11_expects_10 (by decide) ?_
    exact r_iret hC hR hS hE hf dX11_expects_11
  · replace hf := if_t hf hc
    refine lv_iconst (v := 1) hx hb dX11_expects_4 (by decide) ?_
    exact r_iret hC hR hS hE hf dX11_expects_5
abbrev rX11_drawnBy : Room := { frames := 4, cells := 0, slots := 0, locals := 87 }
def f_X11_drawnBy (n : Nat) (this : Nat) (a1 : Int32) (a2 : Int32) (S : MS) : Option (Int32 × MS) :=
  jn (fun (q3 : Nat) (x4 : Int32) (x5 : Int32) (S6 : MS) => jn (fun (q9 : Nat) (x10 : Int32) (x11 : Int32) (x12 : Int32) (S13 : MS) => cl (f_X11_figure n q9 x10 x11 x12 S13) fun x17 S14 => jn (fun (x20 : Int32) (S21 : MS) => jn (fun (x24 : Int32) (S25 : MS) => jn (fun (x28 : Int32) (S29 : MS) => (if x28 = 0 then cl (f_X11_figure n this (a1 + (3 : Int32)) (0 : Int32) (5 : Int32) S29) fun x33 S30 => some (x33, S30) else some (x28, S29))) fun j100_27 => (if x24 = 0 then jn (fun (q36 : Nat) (x37 : Int32) (S38 : MS) => cl (f_X11_expects n q36 x37 S38) fun x42 S39 => j100_27 x42 S39) fun j96_35 => (if (mI S25 this 12) = (44 : Int32) then j96_35 this (1 : Int32) S25 else j96_35 this (0 : Int32) S25) else j100_27 x24 S25)) fun j77_23 => (if x20 = 0 then cl (f_X11_figure n this (a1 + (2 : Int32)) (0 : Int32) (7 : Int32) S21) fun x51 S48 => j77_23 x51 S48 else j77_23 x20 S21)) fun j62_19 => (if x17 = 0 then jn (fun (q56 : Nat) (x57 : Int32) (S58 : MS) => cl (f_X11_expects n q56 x57 S58) fun x62 S59 => j62_19 x62 S59) fun j58_55 => jn (fun (q65 : Nat) (S66 : MS) => j58_55 q65 (0 : Int32) S66) fun j57_64 => (if (mI S14 this 12) = (2 : Int32) then (if (lg_cmp (mJ S14 this 14) (24948 : Int64)) = 0 then j58_55 this (1 : Int32) S14 else j57_64 this S14) else j57_64 this S14) else j62_19 x17 S14)) fun j25_8 => (if a2 = (4 : Int32) then j25_8 q3 x4 x5 (99 : Int32) S6 else j25_8 q3 x4 x5 (5 : Int32) S6)) fun j14_2 => (if a2 = (4 : Int32) then j14_2 this (a1 + (1 : Int32)) (1 : Int32) S else j14_2 this (a1 + (1 : Int32)) (0 : Int32) S)
set_option maxRecDepth 100000 in
set_option maxHeartbeats 4000000 in
theorem c_X11_drawnBy (l : Launch) (G : Gx) (n : Nat) (this : Nat) (a1 : Int32) (a2 : Int32) (S : MS) (ro : Int32) (So : MS) (hf : f_X11_drawnBy n this a1 a2 S = some (ro, So)) (ok_this : Ok S this 11) : Cn G l yX11_drawnBy cX11_drawnBy 4 (some .int) rX11_drawnBy [.ref this, .int a1, .int a2] S (some (.int ro)) So := by
  refine Cn.of (by decide) (Nat.le_of_ble_eq_true rfl) ?_
  intro p e s m args below meth c hC hname hR ls hl
  have hC : Cx G RX11 cX11_drawnBy 4 (some .int) p s m args meth c := hC
  have hl : lv_has ls 4 [(0, .ref this), (1, .int a1), (2, .int a2)] := hl
  have hx := hC.x
  have hb := hC.b
  have hS : va_S (gA G) s.heap s.heap [] := va_S.rf
  have hE : Ex S S := Ex.rf S
  unfold f_X11_drawnBy at hf
  refine lv_aload_n hx hb dX11_drawnBy_0 rfl (lv_at hl 0 rfl) ?_
  refine lv_iload_n hx hb dX11_drawnBy_1 rfl (lv_at hl 1 rfl) ?_
  refine lv_iconst (v := 1) hx hb dX11_drawnBy_2 (by decide) ?_
  refine lv_iadd hx hb dX11_drawnBy_3 ?_
  refine lv_iload_n hx hb dX11_drawnBy_4 rfl (lv_at hl 2 rfl) ?_
  refine lv_iconst (v := 4) hx hb dX11_drawnBy_5 (by decide) ?_
  obtain ⟨j14_2, ej14_2, hf⟩ := jn_of4 hf
  have hj14_1 : ∀ (q3 : Nat) (x4 : Int32) (x5 : Int32) (S6 : MS) (H : Heap) (locs : List Loc) (ls : Array Slot), j14_2 q3 x4 x5 S6 = some (ro, So) → Rp G S6 H → va_S (gA G) s.heap H locs → Ex S S6 → Ok S6 this 11 → Ok S6 q3 11 → lv_has ls 4 [(0, .ref this), (1, .int a1), (2, .int a2)] → W p l e rX11_drawnBy s m args below meth c H locs 0 0 (MQ below (Qn G S (some (.int ro)) So) args s 0 0 (gA G)) (F0 m 14 ls [.int x5, .int x4, .ref q3]) := by
    intro q3 x4 x5 S6 H locs ls hf hR hS hE ok_this ok_q3 hl
    rw [ej14_2] at hf
    refine lv_iload_n hx hb dX11_drawnBy_14 rfl (lv_at hl 2 rfl) ?_
    refine lv_iconst (v := 4) hx hb dX11_drawnBy_15 (by decide) ?_
    obtain ⟨j25_8, ej25_8, hf⟩ := jn_of5 hf
    have hj25_7 : ∀ (q9 : Nat) (x10 : Int32) (x11 : Int32) (x12 : Int32) (S13 : MS) (H : Heap) (locs : List Loc) (ls : Array Slot), j25_8 q9 x10 x11 x12 S13 = some (ro, So) → Rp G S13 H → va_S (gA G) s.heap H locs → Ex S S13 → Ok S13 this 11 → Ok S13 q9 11 → lv_has ls 4 [(0, .ref this), (1, .int a1)] → W p l e rX11_drawnBy s m args below meth c H locs 0 0 (MQ below (Qn G S (some (.int ro)) So) args s 0 0 (gA G)) (F0 m 25 ls [.int x12, .int x11, .int x10, .ref q9]) := by
      intro q9 x10 x11 x12 S13 H locs ls hf hR hS hE ok_this ok_q9 hl
      rw [ej25_8] at hf
      obtain ⟨x17, S14, hc15, hf⟩ := cl_of hf
      refine cl_RX11_228 (As := [.int x10, .int x11, .int x12]) (rest := []) hC hR hS (c_X11_figure l G n q9 x10 x11 x12 S13 x17 S14 hc15 ok_q9) ok_q9 rfl ⟨Nat.le_of_ble_eq_true rfl, Nat.le_of_ble_eq_true rfl⟩ hl.1 rfl (Nat.le_of_ble_eq_true rfl) dX11_drawnBy_25 (Nat.zero_le _) (Nat.zero_le _) (fun H locs hR hS hE16 => ?_)
      have ok_this := hE16 _ _ ok_this
      have ok_q9 := hE16 _ _ ok_q9
      have hE := hE.tr hE16
      refine lv_istore_n (lv' := [(3, .int x17), (0, .ref this), (1, .int a1)]) hx hb dX11_drawnBy_28 rfl hl (by decide) rfl (fun ls hl => ?_)
      refine lv_iload_n hx hb dX11_drawnBy_29 rfl (lv_at hl 0 rfl) ?_
      obtain ⟨j62_19, ej62_19, hf⟩ := jn_of2 hf
      have hj62_18 : ∀ (x20 : Int32) (S21 : MS) (H : Heap) (locs : List Loc) (ls : Array Slot), j62_19 x20 S21 = some (ro, So) → Rp G S21 H → va_S (gA G) s.heap H locs → Ex S S21 → Ok S21 this 11 → lv_has ls 4 [(0, .ref this), (1, .int a1), (3, .int x20)] → W p l e rX11_drawnBy s m args below meth c H locs 0 0 (MQ below (Qn G S (some (.int ro)) So) args s 0 0 (gA G)) (F0 m 62 ls []) := by
        intro x20 S21 H locs ls hf hR hS hE ok_this hl
        rw [ej62_19] at hf
        refine lv_iload_n hx hb dX11_drawnBy_62 rfl (lv_at hl 2 rfl) ?_
        obtain ⟨j77_23, ej77_23, hf⟩ := jn_of2 hf
        have hj77_22 : ∀ (x24 : Int32) (S25 : MS) (H : Heap) (locs : List Loc) (ls : Array Slot), j77_23 x24 S25 = some (ro, So) → Rp G S25 H → va_S (gA G) s.heap H locs → Ex S S25 → Ok S25 this 11 → lv_has ls 4 [(0, .ref this), (1, .int a1), (3, .int x24)] → W p l e rX11_drawnBy s m args below meth c H locs 0 0 (MQ below (Qn G S (some (.int ro)) So) args s 0 0 (gA G)) (F0 m 77 ls []) := by
          intro x24 S25 H locs ls hf hR hS hE ok_this hl
          rw [ej77_23] at hf
          refine lv_iload_n hx hb dX11_drawnBy_77 rfl (lv_at hl 2 rfl) ?_
          obtain ⟨j100_27, ej100_27, hf⟩ := jn_of2 hf
          have hj100_26 : ∀ (x28 : Int32) (S29 : MS) (H : Heap) (locs : List Loc) (ls : Array Slot), j100_27 x28 S29 = some (ro, So) → Rp G S29 H → va_S (gA G) s.heap H locs → Ex S S29 → Ok S29 this 11 → lv_has ls 4 [(0, .ref this), (1, .int a1), (3, .int x28)] → W p l e rX11_drawnBy s m args below meth c H locs 0 0 (MQ below (Qn G S (some (.int ro)) So) args s 0 0 (gA G)) (F0 m 100 ls []) := by
            intro x28 S29 H locs ls hf hR hS hE ok_this hl
            rw [ej100_27] at hf
            refine lv_iload_n hx hb dX11_drawnBy_100 rfl (lv_at hl 2 rfl) ?_
            refine lv_if_ne (tgt := 116) hx hb dX11_drawnBy_101 (by decide) (fun hc => ?_) (fun hc => ?_)
            · replace hf := if_f hf hc
              refine lv_iload_n hx hb dX11_drawnBy_116 rfl (lv_at hl 2 rfl) ?_
              exact r_iret hC hR hS hE hf dX11_drawnBy_117
            · replace hf := if_t hf hc
              refine lv_aload_n hx hb dX11_drawnBy_104 rfl (lv_at hl 0 rfl) ?_
              refine lv_iload_n hx hb dX11_drawnBy_105 rfl (lv_at hl 1 rfl) ?_
              refine lv_iconst (v := 3) hx hb dX11_drawnBy_106 (by decide) ?_
              refine lv_iadd hx hb dX11_drawnBy_107 ?_
              refine lv_iconst (v := 0) hx hb dX11_drawnBy_108 (by decide) ?_
              refine lv_iconst (v := 5) hx hb dX11_drawnBy_109 (by decide) ?_
              obtain ⟨x33, S30, hc31, hf⟩ := cl_of hf
              refine cl_RX11_228 (As := [.int (a1 + (3 : Int32)), .int (0 : Int32), .int (5 : Int32)]) (rest := []) hC hR hS (c_X11_figure l G n this (a1 + (3 : Int32)) (0 : Int32) (5 : Int32) S29 x33 S30 hc31 ok_this) ok_this rfl ⟨Nat.le_of_ble_eq_true rfl, Nat.le_of_ble_eq_true rfl⟩ hl.1 rfl (Nat.le_of_ble_eq_true rfl) dX11_drawnBy_110 (Nat.zero_le _) (Nat.zero_le _) (fun H locs hR hS hE32 => ?_)
              have ok_this := hE32 _ _ ok_this
              have hE := hE.tr hE32
              refine lv_goto (tgt := 117) hx hb dX11_drawnBy_113 (by decide) ?_
              exact r_iret hC hR hS hE hf dX11_drawnBy_117
          refine lv_if_ne (tgt := 100) hx hb dX11_drawnBy_78 (by decide) (fun hc => ?_) (fun hc => ?_)
          · replace hf := if_f hf hc
            exact hj100_26 x24 S25 _ _ _ hf hR hS hE ok_this (lv_sub hl [0, 1, 2] rfl)
          · replace hf := if_t hf hc
            refine lv_aload_n hx hb dX11_drawnBy_81 rfl (lv_at hl 0 rfl) ?_
            refine lv_aload_n hx hb dX11_drawnBy_82 rfl (lv_at hl 0 rfl) ?_
            refine gf_RX11_111 hC hR ok_this dX11_drawnBy_83 ?_
            refine lv_bipush (v := 44) hx hb dX11_drawnBy_86 (by decide) ?_
            obtain ⟨j96_35, ej96_35, hf⟩ := jn_of3 hf
            have hj96_34 : ∀ (q36 : Nat) (x37 : Int32) (S38 : MS) (H : Heap) (locs : List Loc) (ls : Array Slot), j96_35 q36 x37 S38 = some (ro, So) → Rp G S38 H → va_S (gA G) s.heap H locs → Ex S S38 → Ok S38 this 11 → Ok S38 q36 11 → lv_has ls 4 [(0, .ref this), (1, .int a1)] → W p l e rX11_drawnBy s m args below meth c H locs 0 0 (MQ below (Qn G S (some (.int ro)) So) args s 0 0 (gA G)) (F0 m 96 ls [.int x37, .ref q36]) := by
              intro q36 x37 S38 H locs ls hf hR hS hE ok_this ok_q36 hl
              rw [ej96_35] at hf
              obtain ⟨x42, S39, hc40, hf⟩ := cl_of hf
              refine cl_RX11_234 (As := [.int x37]) (rest := []) hC hR hS (c_X11_expects l G n q36 x37 S38 x42 S39 hc40 ok_q36) ok_q36 rfl ⟨Nat.le_of_ble_eq_true rfl, Nat.le_of_ble_eq_true rfl⟩ hl.1 rfl (Nat.le_of_ble_eq_true rfl) dX11_drawnBy_96 (Nat.zero_le _) (Nat.zero_le _) (fun H locs hR hS hE41 => ?_)
              have ok_this := hE41 _ _ ok_this
              have ok_q36 := hE41 _ _ ok_q36
              have hE := hE.tr hE41
              refine lv_istore_n (lv' := [(3, .int x42), (0, .ref this), (1, .int a1)]) hx hb dX11_drawnBy_99 rfl hl (by decide) rfl (fun ls hl => ?_)
              exact hj100_26 x42 S39 _ _ _ hf hR hS hE ok_this (lv_sub hl [1, 2, 0] rfl)
            refine lv_icmp_ne (tgt := 95) hx hb dX11_drawnBy_88 (by decide) (fun hc => ?_) (fun hc => ?_)
            · replace hf := if_f hf hc
              refine lv_iconst (v := 0) hx hb dX11_drawnBy_95 (by decide) ?_
              exact hj96_34 this (0 : Int32) S25 _ _ _ hf hR hS hE ok_this ok_this (lv_sub hl [0, 1] rfl)
            · replace hf := if_t hf hc
              refine lv_iconst (v := 1) hx hb dX11_drawnBy_91 (by decide) ?_
              refine lv_goto (tgt := 96) hx hb dX11_drawnBy_92 (by decide) ?_
              exact hj96_34 this (1 : Int32) S25 _ _ _ hf hR hS hE ok_this ok_this (lv_sub hl [0, 1] rfl)
        refine lv_if_ne (tgt := 77) hx hb dX11_drawnBy_63 (by decide) (fun hc => ?_) (fun hc => ?_)
        · replace hf := if_f hf hc
          exact hj77_22 x20 S21 _ _ _ hf hR hS hE ok_this (lv_sub hl [0, 1, 2] rfl)
        · replace hf := if_t hf hc
          refine lv_aload_n hx hb dX11_drawnBy_66 rfl (lv_at hl 0 rfl) ?_
          refine lv_iload_n hx hb dX11_drawnBy_67 rfl (lv_at hl 1 rfl) ?_
          refine lv_iconst (v := 2) hx hb dX11_drawnBy_68 (by decide) ?_
          refine lv_iadd hx hb dX11_drawnBy_69 ?_
          refine lv_iconst (v := 0) hx hb dX11_drawnBy_70 (by decide) ?_
          refine lv_bipush (v := 7) hx hb dX11_drawnBy_71 (by decide) ?_
          obtain ⟨x51, S48, hc49, hf⟩ := cl_of hf
          refine cl_RX11_228 (As := [.int (a1 + (2 : Int32)), .int (0 : Int32), .int (7 : Int32)]) (rest := []) hC hR hS (c_X11_figure l G n this (a1 + (2 : Int32)) (0 : Int32) (7 : Int32) S21 x51 S48 hc49 ok_this) ok_this rfl ⟨Nat.le_of_ble_eq_true rfl, Nat.le_of_ble_eq_true rfl⟩ hl.1 rfl (Nat.le_of_ble_eq_true rfl) dX11_drawnBy_73 (Nat.zero_le _) (Nat.zero_le _) (fun H locs hR hS hE50 => ?_)
          have ok_this := hE50 _ _ ok_this
          have hE := hE.tr hE50
          refine lv_istore_n (lv' := [(3, .int x51), (0, .ref this), (1, .int a1)]) hx hb dX11_drawnBy_76 rfl hl (by decide) rfl (fun ls hl => ?_)
          exact hj77_22 x51 S48 _ _ _ hf hR hS hE ok_this (lv_sub hl [1, 2, 0] rfl)
      refine lv_if_ne (tgt := 62) hx hb dX11_drawnBy_30 (by decide) (fun hc => ?_) (fun hc => ?_)
      · replace hf := if_f hf hc
        exact hj62_18 x17 S14 _ _ _ hf hR hS hE ok_this (lv_sub hl [1, 2, 0] rfl)
      · replace hf := if_t hf hc
        refine lv_aload_n hx hb dX11_drawnBy_33 rfl (lv_at hl 1 rfl) ?_
        refine lv_aload_n hx hb dX11_drawnBy_34 rfl (lv_at hl 1 rfl) ?_
        refine gf_RX11_111 hC hR ok_this dX11_drawnBy_35 ?_
        refine lv_iconst (v := 2) hx hb dX11_drawnBy_38 (by decide) ?_
        obtain ⟨j58_55, ej58_55, hf⟩ := jn_of3 hf
        have hj58_54 : ∀ (q56 : Nat) (x57 : Int32) (S58 : MS) (H : Heap) (locs : List Loc) (ls : Array Slot), j58_55 q56 x57 S58 = some (ro, So) → Rp G S58 H → va_S (gA G) s.heap H locs → Ex S S58 → Ok S58 this 11 → Ok S58 q56 11 → lv_has ls 4 [(0, .ref this), (1, .int a1)] → W p l e rX11_drawnBy s m args below meth c H locs 0 0 (MQ below (Qn G S (some (.int ro)) So) args s 0 0 (gA G)) (F0 m 58 ls [.int x57, .ref q56]) := by
          intro q56 x57 S58 H locs ls hf hR hS hE ok_this ok_q56 hl
          rw [ej58_55] at hf
          obtain ⟨x62, S59, hc60, hf⟩ := cl_of hf
          refine cl_RX11_234 (As := [.int x57]) (rest := []) hC hR hS (c_X11_expects l G n q56 x57 S58 x62 S59 hc60 ok_q56) ok_q56 rfl ⟨Nat.le_of_ble_eq_true rfl, Nat.le_of_ble_eq_true rfl⟩ hl.1 rfl (Nat.le_of_ble_eq_true rfl) dX11_drawnBy_58 (Nat.zero_le _) (Nat.zero_le _) (fun H locs hR hS hE61 => ?_)
          have ok_this := hE61 _ _ ok_this
          have ok_q56 := hE61 _ _ ok_q56
          have hE := hE.tr hE61
          refine lv_istore_n (lv' := [(3, .int x62), (0, .ref this), (1, .int a1)]) hx hb dX11_drawnBy_61 rfl hl (by decide) rfl (fun ls hl => ?_)
          exact hj62_18 x62 S59 _ _ _ hf hR hS hE ok_this (lv_sub hl [1, 2, 0] rfl)
        obtain ⟨j57_64, ej57_64, hf⟩ := jn_of2 hf
        have hj57_63 : ∀ (q65 : Nat) (S66 : MS) (H : Heap) (locs : List Loc) (ls : Array Slot), j57_64 q65 S66 = some (ro, So) → Rp G S66 H → va_S (gA G) s.heap H locs → Ex S S66 → Ok S66 this 11 → Ok S66 q65 11 → lv_has ls 4 [(0, .ref this), (1, .int a1)] → W p l e rX11_drawnBy s m args below meth c H locs 0 0 (MQ below (Qn G S (some (.int ro)) So) args s 0 0 (gA G)) (F0 m 57 ls [.ref q65]) := by
          intro q65 S66 H locs ls hf hR hS hE ok_this ok_q65 hl
          rw [ej57_64] at hf
          refine lv_iconst (v := 0) hx hb dX11_drawnBy_57 (by decide) ?_
          exact hj58_54 q65 (0 : Int32) S66 _ _ _ hf hR hS hE ok_this ok_q65 (lv_sub hl [0, 1] rfl)
        refine lv_icmp_ne (tgt := 57) hx hb dX11_drawnBy_39 (by decide) (fun hc => ?_) (fun hc => ?_)
        · replace hf := if_f hf hc
          exact hj57_63 this S14 _ _ _ hf hR hS hE ok_this ok_this (lv_sub hl [1, 2] rfl)
        · replace hf := if_t hf hc
          refine lv_aload_n hx hb dX11_drawnBy_42 rfl (lv_at hl 1 rfl) ?_
          refine gf_RX11_124 hC hR ok_this dX11_drawnBy_43 ?_
          refine lv_ldc2 (v := 24948) hx hb hC.ow (hC.ts _ (bg23 _ (List.mem_of_getElem? (i := 22) rfl))) dX11_drawnBy_46 ?_
          refine W.lcmp hx hb dX11_drawnBy_49 ?_
          refine lv_if_ne (tgt := 57) hx hb dX11_drawnBy_50 (by decide) (fun hc => ?_) (fun hc => ?_)
          · replace hf := if_f hf hc
            exact hj57_63 this S14 _ _ _ hf hR hS hE ok_this ok_this (lv_sub hl [1, 2] rfl)
          · replace hf := if_t hf hc
            refine lv_iconst (v := 1) hx hb dX11_drawnBy_53 (by decide) ?_
            refine lv_goto (tgt := 58) hx hb dX11_drawnBy_54 (by decide) ?_
            exact hj58_54 this (1 : Int32) S14 _ _ _ hf hR hS hE ok_this ok_this (lv_sub hl [1, 2] rfl)
    refine lv_icmp_ne (tgt := 24) hx hb dX11_drawnBy_16 (by decide) (fun hc => ?_) (fun hc => ?_)
    · replace hf := if_f hf hc
      refine lv_iconst (v := 5) hx hb dX11_drawnBy_24 (by decide) ?_
      exact hj25_7 q3 x4 x5 (5 : Int32) S6 _ _ _ hf hR hS hE ok_this ok_q3 (lv_sub hl [0, 1] rfl)
    · replace hf := if_t hf hc
      refine lv_bipush (v := 99) hx hb dX11_drawnBy_19 (by decide) ?_
      refine lv_goto (tgt := 25) hx hb dX11_drawnBy_21 (by decide) ?_
      exact hj25_7 q3 x4 x5 (99 : Int32) S6 _ _ _ hf hR hS hE ok_this ok_q3 (lv_sub hl [0, 1] rfl)
  refine lv_icmp_ne (tgt := 13) hx hb dX11_drawnBy_6 (by decide) (fun hc => ?_) (fun hc => ?_)
  · replace hf := if_f hf hc
    refine lv_iconst (v := 0) hx hb dX11_drawnBy_13 (by decide) ?_
    exact hj14_1 this (a1 + (1 : Int32)) (0 : Int32) S _ _ _ hf hR hS hE ok_this ok_this (lv_sub hl [0, 1, 2] rfl)
  · replace hf := if_t hf hc
    refine lv_iconst (v := 1) hx hb dX11_drawnBy_9 (by decide) ?_
    refine lv_goto (tgt := 14) hx hb dX11_drawnBy_10 (by decide) ?_
    exact hj14_1 this (a1 + (1 : Int32)) (1 : Int32) S _ _ _ hf hR hS hE ok_this ok_this (lv_sub hl [0, 1, 2] rfl)
abbrev rX11_clause : Room := { frames := 6, cells := 0, slots := 0, locals := 136 }
def f_X11_clause (n : Nat) (this : Nat) (S : MS) : Option (Int32 × MS) :=
  cl (f_X11_sortOf n this S) fun x4 S1 => (if 0 ≤ x4 then jn (fun (S7 : MS) => gR S7 (mR S7 this 5) 12 fun q8 => ck (inb (mI S7 this 15) (mN S7 q8)) (bd (mI S7 q8 (mI S7 this 15).toNatClampNeg) fun x11 => (if x11 = (20 : Int32) then some ((6 : Int32), S7) else jn (fun (S14 : MS) => bd (sI S14 this 23 x4) fun S15 => cv (f_X11_nextToken n this S15) fun S17 => bd (((mI S17 this 15) + (1 : Int32)) + ((4 : Int32) * x11)) fun x20 => gR S17 (mR S17 this 5) 12 fun q21 => ck (inb x20 (mN S17 q21)) (bd (sI S17 q21 x20.toNatClampNeg x4) fun S24 => bd (mI S24 this 17) fun x26 => jn (fun (x29 : Int32) (S30 : MS) => (if x29 = 0 then jn (fun (S33 : MS) => gR S33 (mR S33 this 5) 12 fun q34 => ck (inb (mI S33 this 15) (mN S33 q34)) (ck (inb (mI S33 this 15) (mN S33 q34)) (bd (sI S33 q34 (mI S33 this 15).toNatClampNeg ((mI S33 q34 (mI S33 this 15).toNatClampNeg) + (1 : Int32))) fun S38 => (if (mI S38 this 12) = (59 : Int32) then cv (f_X11_nextToken n this S38) fun S40 => some ((0 : Int32), S40) else some ((1 : Int32), S38))))) fun j164_32 => (if (4 : Int32) ≤ x4 then j164_32 S30 else gR S30 (mR S30 this 5) 12 fun q43 => ck (inb (x20 + (1 : Int32)) (mN S30 q43)) (bd (sI S30 q43 (x20 + (1 : Int32)).toNatClampNeg x26) fun S46 => gR S46 (mR S46 this 5) 12 fun q48 => ck (inb (x20 + (2 : Int32)) (mN S46 q48)) (bd (sI S46 q48 (x20 + (2 : Int32)).toNatClampNeg (mI S46 this 17)) fun S51 => j164_32 S51))) else some (x29, S30))) fun j127_28 => (if x4 < (4 : Int32) then jn (fun (q56 : Nat) (x57 : Int32) (S58 : MS) => cl (f_X11_parsed n q56 x57 S58) fun x62 S59 => j127_28 x62 S59) fun j124_55 => (if x4 = (3 : Int32) then j124_55 this (1 : Int32) S24 else j124_55 this (0 : Int32) S24) else cl (f_X11_drawnBy n this x20 x4 S24) fun x69 S66 => j127_28 x69 S66))) fun j66_13 => (if (3 : Int32) ≤ x4 then j66_13 S7 else bd (sI S7 this 24 ((mI S7 this 24) ||| ((1 : Int32) <<< (x4 &&& 31)))) fun S72 => j66_13 S72)))) fun j30_6 => (if (3 : Int32) ≤ x4 then j30_6 S1 else (if (((mI S1 this 24) >>> (x4 &&& 31)) &&& (1 : Int32)) = (1 : Int32) then some ((4 : Int32), S1) else j30_6 S1)) else some ((1 : Int32), S1))
set_option maxRecDepth 100000 in
set_option maxHeartbeats 4000000 in
theorem c_X11_clause (l : Launch) (G : Gx) (n : Nat) (this : Nat) (S : MS) (ro : Int32) (So : MS) (hf : f_X11_clause n this S = some (ro, So)) (ok_this : Ok S this 11) : Cn G l yX11_clause cX11_clause 6 (some .int) rX11_clause [.ref this] S (some (.int ro)) So := by
  refine Cn.of (by decide) (Nat.le_of_ble_eq_true rfl) ?_
  intro p e s m args below meth c hC hname hR ls hl
  have hC : Cx G RX11 cX11_clause 6 (some .int) p s m args meth c := hC
  have hl : lv_has ls 6 [(0, .ref this)] := hl
  have hx := hC.x
  have hb := hC.b
  have hS : va_S (gA G) s.heap s.heap [] := va_S.rf
  have hE : Ex S S := Ex.rf S
  unfold f_X11_clause at hf
  refine lv_aload_n hx hb dX11_clause_0 rfl (lv_at hl 0 rfl) ?_
  obtain ⟨x4, S1, hc2, hf⟩ := cl_of hf
  refine cl_RX11_237 (As := []) (rest := []) hC hR hS (c_X11_sortOf l G n this S x4 S1 hc2 ok_this) ok_this rfl ⟨Nat.le_of_ble_eq_true rfl, Nat.le_of_ble_eq_true rfl⟩ hl.1 rfl (Nat.le_of_ble_eq_true rfl) dX11_clause_1 (Nat.zero_le _) (Nat.zero_le _) (fun H locs hR hS hE3 => ?_)
  have ok_this := hE3 _ _ ok_this
  have hE := hE.tr hE3
  refine lv_istore_n (lv' := [(1, .int x4), (0, .ref this)]) hx hb dX11_clause_4 rfl hl (by decide) rfl (fun ls hl => ?_)
  refine lv_iload_n hx hb dX11_clause_5 rfl (lv_at hl 0 rfl) ?_
  refine lv_if_ge (tgt := 11) hx hb dX11_clause_6 (by decide) (fun hc => ?_) (fun hc => ?_)
  · replace hf := if_t hf hc
    refine lv_iload_n hx hb dX11_clause_11 rfl (lv_at hl 0 rfl) ?_
    refine lv_iconst (v := 3) hx hb dX11_clause_12 (by decide) ?_
    obtain ⟨j30_6, ej30_6, hf⟩ := jn_of1 hf
    have hj30_5 : ∀ (S7 : MS) (H : Heap) (locs : List Loc) (ls : Array Slot), j30_6 S7 = some (ro, So) → Rp G S7 H → va_S (gA G) s.heap H locs → Ex S S7 → Ok S7 this 11 → lv_has ls 6 [(0, .ref this), (1, .int x4)] → W p l e rX11_clause s m args below meth c H locs 0 0 (MQ below (Qn G S (some (.int ro)) So) args s 0 0 (gA G)) (F0 m 30 ls []) := by
      intro S7 H locs ls hf hR hS hE ok_this hl
      rw [ej30_6] at hf
      refine lv_aload_n hx hb dX11_clause_30 rfl (lv_at hl 0 rfl) ?_
      obtain ⟨q8, hq9, ok_q8, hf⟩ := gR_of hf
      refine gf_RX11_13 hC hR ok_this hq9 dX11_clause_31 ?_
      refine lv_aload_n hx hb dX11_clause_34 rfl (lv_at hl 0 rfl) ?_
      refine gf_RX11_136 hC hR ok_this dX11_clause_35 ?_
      obtain ⟨hi10, hf⟩ := ck_of hf
      refine r_iald hC hR ok_q8 hi10 dX11_clause_38 ?_
      refine bdi hf (fun x11 hf => ?_)
      refine lv_istore_n (lv' := [(2, .int x11), (0, .ref this), (1, .int x4)]) hx hb dX11_clause_39 rfl hl (by decide) rfl (fun ls hl => ?_)
      refine lv_iload_n hx hb dX11_clause_40 rfl (lv_at hl 0 rfl) ?_
      refine lv_bipush (v := 20) hx hb dX11_clause_41 (by decide) ?_
      refine lv_icmp_ne (tgt := 49) hx hb dX11_clause_43 (by decide) (fun hc => ?_) (fun hc => ?_)
      · replace hf := if_f hf hc
        refine lv_iload_n hx hb dX11_clause_49 rfl (lv_at hl 2 rfl) ?_
        refine lv_iconst (v := 3) hx hb dX11_clause_50 (by decide) ?_
        obtain ⟨j66_13, ej66_13, hf⟩ := jn_of1 hf
        have hj66_12 : ∀ (S14 : MS) (H : Heap) (locs : List Loc) (ls : Array Slot), j66_13 S14 = some (ro, So) → Rp G S14 H → va_S (gA G) s.heap H locs → Ex S S14 → Ok S14 this 11 → lv_has ls 6 [(0, .ref this), (1, .int x4), (2, .int x11)] → W p l e rX11_clause s m args below meth c H locs 0 0 (MQ below (Qn G S (some (.int ro)) So) args s 0 0 (gA G)) (F0 m 66 ls []) := by
          intro S14 H locs ls hf hR hS hE ok_this hl
          rw [ej66_13] at hf
          refine lv_aload_n hx hb dX11_clause_66 rfl (lv_at hl 0 rfl) ?_
          refine lv_iload_n hx hb dX11_clause_67 rfl (lv_at hl 1 rfl) ?_
          refine pf_RX11_225 hC hR hS ok_this dX11_clause_68 hf (fun S15 H locs hf hR hS hE16 => ?_)
          have ok_this := hE16 _ _ ok_this
          have hE := hE.tr hE16
          refine lv_aload_n hx hb dX11_clause_71 rfl (lv_at hl 0 rfl) ?_
          obtain ⟨S17, hc18, hf⟩ := cv_of hf
          refine cl_RX11_165 (As := []) (rest := []) hC hR hS (c_X11_nextToken l G n this S15 S17 hc18 ok_this) ok_this rfl ⟨Nat.le_of_ble_eq_true rfl, Nat.le_of_ble_eq_true rfl⟩ hl.1 rfl (Nat.le_of_ble_eq_true rfl) dX11_clause_72 (Nat.zero_le _) (Nat.zero_le _) (fun H locs hR hS hE19 => ?_)
          have ok_this := hE19 _ _ ok_this
          have hE := hE.tr hE19
          refine lv_aload_n hx hb dX11_clause_75 rfl (lv_at hl 0 rfl) ?_
          refine gf_RX11_136 hC hR ok_this dX11_clause_76 ?_
          refine lv_iconst (v := 1) hx hb dX11_clause_79 (by decide) ?_
          refine lv_iadd hx hb dX11_clause_80 ?_
          refine lv_iconst (v := 4) hx hb dX11_clause_81 (by decide) ?_
          refine lv_iload_n hx hb dX11_clause_82 rfl (lv_at hl 2 rfl) ?_
          refine lv_imul hx hb dX11_clause_83 ?_
          refine lv_iadd hx hb dX11_clause_84 ?_
          refine bdi hf (fun x20 hf => ?_)
          refine lv_istore_n (lv' := [(3, .int x20), (0, .ref this), (1, .int x4), (2, .int x11)]) hx hb dX11_clause_85 rfl hl (by decide) rfl (fun ls hl => ?_)
          refine lv_aload_n hx hb dX11_clause_86 rfl (lv_at hl 1 rfl) ?_
          obtain ⟨q21, hq22, ok_q21, hf⟩ := gR_of hf
          refine gf_RX11_13 hC hR ok_this hq22 dX11_clause_87 ?_
          refine lv_iload_n hx hb dX11_clause_90 rfl (lv_at hl 0 rfl) ?_
          refine lv_iload_n hx hb dX11_clause_91 rfl (lv_at hl 2 rfl) ?_
          obtain ⟨hi23, hf⟩ := ck_of hf
          refine rB_iast hC hR hS ok_q21 hi23 dX11_clause_92 hf (fun S24 H locs hf hR hS hE25 => ?_)
          have ok_this := hE25 _ _ ok_this
          have ok_q21 := hE25 _ _ ok_q21
          have hE := hE.tr hE25
          refine lv_aload_n hx hb dX11_clause_93 rfl (lv_at hl 1 rfl) ?_
          refine gf_RX11_139 hC hR ok_this dX11_clause_94 ?_
          refine bdi hf (fun x26 hf => ?_)
          refine lv_istore (lv' := [(4, .int x26), (3, .int x20), (0, .ref this), (1, .int x4), (2, .int x11)]) hx hb dX11_clause_97 hl (by decide) rfl (fun ls hl => ?_)
          refine lv_iload_n hx hb dX11_clause_99 rfl (lv_at hl 3 rfl) ?_
          refine lv_iconst (v := 4) hx hb dX11_clause_100 (by decide) ?_
          obtain ⟨j127_28, ej127_28, hf⟩ := jn_of2 hf
          have hj127_27 : ∀ (x29 : Int32) (S30 : MS) (H : Heap) (locs : List Loc) (ls : Array Slot), j127_28 x29 S30 = some (ro, So) → Rp G S30 H → va_S (gA G) s.heap H locs → Ex S S30 → Ok S30 this 11 → lv_has ls 6 [(0, .ref this), (1, .int x4), (3, .int x20), (4, .int x26)] → W p l e rX11_clause s m args below meth c H locs 0 0 (MQ below (Qn G S (some (.int ro)) So) args s 0 0 (gA G)) (F0 m 127 ls [.int x29]) := by
            intro x29 S30 H locs ls hf hR hS hE ok_this hl
            rw [ej127_28] at hf
            refine lv_istore (lv' := [(5, .int x29), (0, .ref this), (1, .int x4), (3, .int x20), (4, .int x26)]) hx hb dX11_clause_127 hl (by decide) rfl (fun ls hl => ?_)
            refine lv_iload hx hb dX11_clause_129 (lv_at hl 0 rfl) ?_
            refine lv_if_eq (tgt := 137) hx hb dX11_clause_131 (by decide) (fun hc => ?_) (fun hc => ?_)
            · replace hf := if_t hf hc
              refine lv_iload_n hx hb dX11_clause_137 rfl (lv_at hl 2 rfl) ?_
              refine lv_iconst (v := 4) hx hb dX11_clause_138 (by decide) ?_
              obtain ⟨j164_32, ej164_32, hf⟩ := jn_of1 hf
              have hj164_31 : ∀ (S33 : MS) (H : Heap) (locs : List Loc) (ls : Array Slot), j164_32 S33 = some (ro, So) → Rp G S33 H → va_S (gA G) s.heap H locs → Ex S S33 → Ok S33 this 11 → lv_has ls 6 [(0, .ref this)] → W p l e rX11_clause s m args below meth c H locs 0 0 (MQ below (Qn G S (some (.int ro)) So) args s 0 0 (gA G)) (F0 m 164 ls []) := by
                intro S33 H locs ls hf hR hS hE ok_this hl
                rw [ej164_32] at hf
                refine lv_aload_n hx hb dX11_clause_164 rfl (lv_at hl 0 rfl) ?_
                obtain ⟨q34, hq35, ok_q34, hf⟩ := gR_of hf
                refine gf_RX11_13 hC hR ok_this hq35 dX11_clause_165 ?_
                refine lv_aload_n hx hb dX11_clause_168 rfl (lv_at hl 0 rfl) ?_
                refine gf_RX11_136 hC hR ok_this dX11_clause_169 ?_
                refine lv_dup2_11 hx hb dX11_clause_172 rfl rfl ?_
                obtain ⟨hi36, hf⟩ := ck_of hf
                refine r_iald hC hR ok_q34 hi36 dX11_clause_173 ?_
                refine lv_iconst (v := 1) hx hb dX11_clause_174 (by decide) ?_
                refine lv_iadd hx hb dX11_clause_175 ?_
                obtain ⟨hi37, hf⟩ := ck_of hf
                refine rB_iast hC hR hS ok_q34 hi37 dX11_clause_176 hf (fun S38 H locs hf hR hS hE39 => ?_)
                have ok_this := hE39 _ _ ok_this
                have ok_q34 := hE39 _ _ ok_q34
                have hE := hE.tr hE39
                refine lv_aload_n hx hb dX11_clause_177 rfl (lv_at hl 0 rfl) ?_
                refine gf_RX11_111 hC hR ok_this dX11_clause_178 ?_
                refine lv_bipush (v := 59) hx hb dX11_clause_181 (by decide) ?_
                refine lv_icmp_eq (tgt := 188) hx hb dX11_clause_183 (by decide) (fun hc => ?_) (fun hc => ?_)
                · replace hf := if_t hf hc
                  refine lv_aload_n hx hb dX11_clause_188 rfl (lv_at hl 0 rfl) ?_
                  obtain ⟨S40, hc41, hf⟩ := cv_of hf
                  refine cl_RX11_165 (As := []) (rest := []) hC hR hS (c_X11_nextToken l G n this S38 S40 hc41 ok_this) ok_this rfl ⟨Nat.le_of_ble_eq_true rfl, Nat.le_of_ble_eq_true rfl⟩ hl.1 rfl (Nat.le_of_ble_eq_true rfl) dX11_clause_189 (Nat.zero_le _) (Nat.zero_le _) (fun H locs hR hS hE42 => ?_)
                  have ok_this := hE42 _ _ ok_this
                  have ok_q34 := hE42 _ _ ok_q34
                  have hE := hE.tr hE42
                  refine lv_iconst (v := 0) hx hb dX11_clause_192 (by decide) ?_
                  exact r_iret hC hR hS hE hf dX11_clause_193
                · replace hf := if_f hf hc
                  refine lv_iconst (v := 1) hx hb dX11_clause_186 (by decide) ?_
                  exact r_iret hC hR hS hE hf dX11_clause_187
              refine lv_icmp_ge (tgt := 164) hx hb dX11_clause_139 (by decide) (fun hc => ?_) (fun hc => ?_)
              · replace hf := if_t hf hc
                exact hj164_31 S30 _ _ _ hf hR hS hE ok_this (lv_sub hl [1] rfl)
              · replace hf := if_f hf hc
                refine lv_aload_n hx hb dX11_clause_142 rfl (lv_at hl 1 rfl) ?_
                obtain ⟨q43, hq44, ok_q43, hf⟩ := gR_of hf
                refine gf_RX11_13 hC hR ok_this hq44 dX11_clause_143 ?_
                refine lv_iload_n hx hb dX11_clause_146 rfl (lv_at hl 3 rfl) ?_
                refine lv_iconst (v := 1) hx hb dX11_clause_147 (by decide) ?_
                refine lv_iadd hx hb dX11_clause_148 ?_
                refine lv_iload hx hb dX11_clause_149 (lv_at hl 4 rfl) ?_
                obtain ⟨hi45, hf⟩ := ck_of hf
                refine rB_iast hC hR hS ok_q43 hi45 dX11_clause_151 hf (fun S46 H locs hf hR hS hE47 => ?_)
                have ok_this := hE47 _ _ ok_this
                have ok_q43 := hE47 _ _ ok_q43
                have hE := hE.tr hE47
                refine lv_aload_n hx hb dX11_clause_152 rfl (lv_at hl 1 rfl) ?_
                obtain ⟨q48, hq49, ok_q48, hf⟩ := gR_of hf
                refine gf_RX11_13 hC hR ok_this hq49 dX11_clause_153 ?_
                refine lv_iload_n hx hb dX11_clause_156 rfl (lv_at hl 3 rfl) ?_
                refine lv_iconst (v := 2) hx hb dX11_clause_157 (by decide) ?_
                refine lv_iadd hx hb dX11_clause_158 ?_
                refine lv_aload_n hx hb dX11_clause_159 rfl (lv_at hl 1 rfl) ?_
                refine gf_RX11_139 hC hR ok_this dX11_clause_160 ?_
                obtain ⟨hi50, hf⟩ := ck_of hf
                refine rB_iast hC hR hS ok_q48 hi50 dX11_clause_163 hf (fun S51 H locs hf hR hS hE52 => ?_)
                have ok_this := hE52 _ _ ok_this
                have ok_q43 := hE52 _ _ ok_q43
                have ok_q48 := hE52 _ _ ok_q48
                have hE := hE.tr hE52
                exact hj164_31 S51 _ _ _ hf hR hS hE ok_this (lv_sub hl [1] rfl)
            · replace hf := if_f hf hc
              refine lv_iload hx hb dX11_clause_134 (lv_at hl 0 rfl) ?_
              exact r_iret hC hR hS hE hf dX11_clause_136
          refine lv_icmp_lt (tgt := 113) hx hb dX11_clause_101 (by decide) (fun hc => ?_) (fun hc => ?_)
          · replace hf := if_t hf hc
            refine lv_aload_n hx hb dX11_clause_113 rfl (lv_at hl 2 rfl) ?_
            refine lv_iload_n hx hb dX11_clause_114 rfl (lv_at hl 3 rfl) ?_
            refine lv_iconst (v := 3) hx hb dX11_clause_115 (by decide) ?_
            obtain ⟨j124_55, ej124_55, hf⟩ := jn_of3 hf
            have hj124_54 : ∀ (q56 : Nat) (x57 : Int32) (S58 : MS) (H : Heap) (locs : List Loc) (ls : Array Slot), j124_55 q56 x57 S58 = some (ro, So) → Rp G S58 H → va_S (gA G) s.heap H locs → Ex S S58 → Ok S58 this 11 → Ok S58 q56 11 → lv_has ls 6 [(0, .ref this), (1, .int x4), (3, .int x20), (4, .int x26)] → W p l e rX11_clause s m args below meth c H locs 0 0 (MQ below (Qn G S (some (.int ro)) So) args s 0 0 (gA G)) (F0 m 124 ls [.int x57, .ref q56]) := by
              intro q56 x57 S58 H locs ls hf hR hS hE ok_this ok_q56 hl
              rw [ej124_55] at hf
              obtain ⟨x62, S59, hc60, hf⟩ := cl_of hf
              refine cl_RX11_247 (As := [.int x57]) (rest := []) hC hR hS (c_X11_parsed l G n q56 x57 S58 x62 S59 hc60 ok_q56) ok_q56 rfl ⟨Nat.le_of_ble_eq_true rfl, Nat.le_of_ble_eq_true rfl⟩ hl.1 rfl (Nat.le_of_ble_eq_true rfl) dX11_clause_124 (Nat.zero_le _) (Nat.zero_le _) (fun H locs hR hS hE61 => ?_)
              have ok_this := hE61 _ _ ok_this
              have ok_q56 := hE61 _ _ ok_q56
              have hE := hE.tr hE61
              exact hj127_27 x62 S59 _ _ _ hf hR hS hE ok_this (lv_sub hl [0, 1, 2, 3] rfl)
            refine lv_icmp_ne (tgt := 123) hx hb dX11_clause_116 (by decide) (fun hc => ?_) (fun hc => ?_)
            · replace hf := if_f hf hc
              refine lv_iconst (v := 0) hx hb dX11_clause_123 (by decide) ?_
              exact hj124_54 this (0 : Int32) S24 _ _ _ hf hR hS hE ok_this ok_this (lv_sub hl [2, 3, 1, 0] rfl)
            · replace hf := if_t hf hc
              refine lv_iconst (v := 1) hx hb dX11_clause_119 (by decide) ?_
              refine lv_goto (tgt := 124) hx hb dX11_clause_120 (by decide) ?_
              exact hj124_54 this (1 : Int32) S24 _ _ _ hf hR hS hE ok_this ok_this (lv_sub hl [2, 3, 1, 0] rfl)
          · replace hf := if_f hf hc
            refine lv_aload_n hx hb dX11_clause_104 rfl (lv_at hl 2 rfl) ?_
            refine lv_iload_n hx hb dX11_clause_105 rfl (lv_at hl 1 rfl) ?_
            refine lv_iload_n hx hb dX11_clause_106 rfl (lv_at hl 3 rfl) ?_
            obtain ⟨x69, S66, hc67, hf⟩ := cl_of hf
            refine cl_RX11_243 (As := [.int x20, .int x4]) (rest := []) hC hR hS (c_X11_drawnBy l G n this x20 x4 S24 x69 S66 hc67 ok_this) ok_this rfl ⟨Nat.le_of_ble_eq_true rfl, Nat.le_of_ble_eq_true rfl⟩ hl.1 rfl (Nat.le_of_ble_eq_true rfl) dX11_clause_107 (Nat.zero_le _) (Nat.zero_le _) (fun H locs hR hS hE68 => ?_)
            have ok_this := hE68 _ _ ok_this
            have ok_q21 := hE68 _ _ ok_q21
            have hE := hE.tr hE68
            refine lv_goto (tgt := 127) hx hb dX11_clause_110 (by decide) ?_
            exact hj127_27 x69 S66 _ _ _ hf hR hS hE ok_this (lv_sub hl [2, 3, 1, 0] rfl)
        refine lv_icmp_ge (tgt := 66) hx hb dX11_clause_51 (by decide) (fun hc => ?_) (fun hc => ?_)
        · replace hf := if_t hf hc
          exact hj66_12 S7 _ _ _ hf hR hS hE ok_this (lv_sub hl [1, 2, 0] rfl)
        · replace hf := if_f hf hc
          refine lv_aload_n hx hb dX11_clause_54 rfl (lv_at hl 1 rfl) ?_
          refine lv_dup hx hb dX11_clause_55 rfl ?_
          refine gf_RX11_240 hC hR ok_this dX11_clause_56 ?_
          refine lv_iconst (v := 1) hx hb dX11_clause_59 (by decide) ?_
          refine lv_iload_n hx hb dX11_clause_60 rfl (lv_at hl 2 rfl) ?_
          refine lv_ishl hx hb dX11_clause_61 ?_
          refine lv_ior hx hb dX11_clause_62 ?_
          refine pf_RX11_240 hC hR hS ok_this dX11_clause_63 hf (fun S72 H locs hf hR hS hE73 => ?_)
          have ok_this := hE73 _ _ ok_this
          have ok_q8 := hE73 _ _ ok_q8
          have hE := hE.tr hE73
          exact hj66_12 S72 _ _ _ hf hR hS hE ok_this (lv_sub hl [1, 2, 0] rfl)
      · replace hf := if_t hf hc
        refine lv_bipush (v := 6) hx hb dX11_clause_46 (by decide) ?_
        exact r_iret hC hR hS hE hf dX11_clause_48
    refine lv_icmp_ge (tgt := 30) hx hb dX11_clause_13 (by decide) (fun hc => ?_) (fun hc => ?_)
    · replace hf := if_t hf hc
      exact hj30_5 S1 _ _ _ hf hR hS hE ok_this (lv_sub hl [1, 0] rfl)
    · replace hf := if_f hf hc
      refine lv_aload_n hx hb dX11_clause_16 rfl (lv_at hl 1 rfl) ?_
      refine gf_RX11_240 hC hR ok_this dX11_clause_17 ?_
      refine lv_iload_n hx hb dX11_clause_20 rfl (lv_at hl 0 rfl) ?_
      refine lv_ishr hx hb dX11_clause_21 ?_
      refine lv_iconst (v := 1) hx hb dX11_clause_22 (by decide) ?_
      refine lv_iand hx hb dX11_clause_23 ?_
      refine lv_iconst (v := 1) hx hb dX11_clause_24 (by decide) ?_
      refine lv_icmp_ne (tgt := 30) hx hb dX11_clause_25 (by decide) (fun hc => ?_) (fun hc => ?_)
      · replace hf := if_f hf hc
        exact hj30_5 S1 _ _ _ hf hR hS hE ok_this (lv_sub hl [1, 0] rfl)
      · replace hf := if_t hf hc
        refine lv_iconst (v := 4) hx hb dX11_clause_28 (by decide) ?_
        exact r_iret hC hR hS hE hf dX11_clause_29
  · replace hf := if_f hf hc
    refine lv_iconst (v := 1) hx hb dX11_clause_9 (by decide) ?_
    exact r_iret hC hR hS hE hf dX11_clause_10
abbrev rX11_readText : Room := { frames := 7, cells := 0, slots := 0, locals := 161 }
def f_X11_readText_L48 (n : Nat) (this : Nat) : Nat → MS → Option (Int32 × MS)
  | 0, _ => none
  | k + 1, S24 => jn (f_X11_readText_L48 n this k) fun rec48_23 => (if (mI S24 this 12) = 0 then some ((0 : Int32), S24) else cl (f_X11_clause n this S24) fun x28 S25 => (if x28 = 0 then rec48_23 S25 else some (x28, S25)))
def f_X11_readText (n : Nat) (this : Nat) (S : MS) : Option (Int32 × MS) :=
  gR S (mR S this 0) 12 fun q1 => ck (inb (3 : Int32) (mN S q1)) (bd (sI S this 15 ((700 : Int32) * (mI S q1 (3 : Int32).toNatClampNeg))) fun S4 => gR S4 (mR S4 this 5) 12 fun q6 => ck (inb (mI S4 this 15) (mN S4 q6)) (bd (sI S4 q6 (mI S4 this 15).toNatClampNeg (0 : Int32)) fun S9 => bd (sI S9 this 17 (0 : Int32)) fun S11 => bd (sI S11 this 21 (0 : Int32)) fun S13 => bd (sI S13 this 24 (0 : Int32)) fun S15 => bd (sI S15 this 10 (0 : Int32)) fun S17 => cv (f_X11_nextToken n this S17) fun S19 => f_X11_readText_L48 n this n S19))
set_option maxRecDepth 100000 in
set_option maxHeartbeats 4000000 in
theorem c_X11_readText (l : Launch) (G : Gx) (n : Nat) (this : Nat) (S : MS) (ro : Int32) (So : MS) (hf : f_X11_readText n this S = some (ro, So)) (ok_this : Ok S this 11) : Cn G l yX11_readText cX11_readText 2 (some .int) rX11_readText [.ref this] S (some (.int ro)) So := by
  refine Cn.of (by decide) (Nat.le_of_ble_eq_true rfl) ?_
  intro p e s m args below meth c hC hname hR ls hl
  have hC : Cx G RX11 cX11_readText 2 (some .int) p s m args meth c := hC
  have hl : lv_has ls 2 [(0, .ref this)] := hl
  have hx := hC.x
  have hb := hC.b
  have hS : va_S (gA G) s.heap s.heap [] := va_S.rf
  have hE : Ex S S := Ex.rf S
  unfold f_X11_readText at hf
  refine lv_aload_n hx hb dX11_readText_0 rfl (lv_at hl 0 rfl) ?_
  refine lv_sipush (v := 700) hx hb dX11_readText_1 (by decide) ?_
  refine lv_aload_n hx hb dX11_readText_4 rfl (lv_at hl 0 rfl) ?_
  obtain ⟨q1, hq2, ok_q1, hf⟩ := gR_of hf
  refine gf_RX11_7 hC hR ok_this hq2 dX11_readText_5 ?_
  refine lv_iconst (v := 3) hx hb dX11_readText_8 (by decide) ?_
  obtain ⟨hi3, hf⟩ := ck_of hf
  refine r_iald hC hR ok_q1 hi3 dX11_readText_9 ?_
  refine lv_imul hx hb dX11_readText_10 ?_
  refine pf_RX11_136 hC hR hS ok_this dX11_readText_11 hf (fun S4 H locs hf hR hS hE5 => ?_)
  have ok_this := hE5 _ _ ok_this
  have ok_q1 := hE5 _ _ ok_q1
  have hE := hE.tr hE5
  refine lv_aload_n hx hb dX11_readText_14 rfl (lv_at hl 0 rfl) ?_
  obtain ⟨q6, hq7, ok_q6, hf⟩ := gR_of hf
  refine gf_RX11_13 hC hR ok_this hq7 dX11_readText_15 ?_
  refine lv_aload_n hx hb dX11_readText_18 rfl (lv_at hl 0 rfl) ?_
  refine gf_RX11_136 hC hR ok_this dX11_readText_19 ?_
  refine lv_iconst (v := 0) hx hb dX11_readText_22 (by decide) ?_
  obtain ⟨hi8, hf⟩ := ck_of hf
  refine rB_iast hC hR hS ok_q6 hi8 dX11_readText_23 hf (fun S9 H locs hf hR hS hE10 => ?_)
  have ok_this := hE10 _ _ ok_this
  have ok_q1 := hE10 _ _ ok_q1
  have ok_q6 := hE10 _ _ ok_q6
  have hE := hE.tr hE10
  refine lv_aload_n hx hb dX11_readText_24 rfl (lv_at hl 0 rfl) ?_
  refine lv_iconst (v := 0) hx hb dX11_readText_25 (by decide) ?_
  refine pf_RX11_139 hC hR hS ok_this dX11_readText_26 hf (fun S11 H locs hf hR hS hE12 => ?_)
  have ok_this := hE12 _ _ ok_this
  have ok_q1 := hE12 _ _ ok_q1
  have ok_q6 := hE12 _ _ ok_q6
  have hE := hE.tr hE12
  refine lv_aload_n hx hb dX11_readText_29 rfl (lv_at hl 0 rfl) ?_
  refine lv_iconst (v := 0) hx hb dX11_readText_30 (by decide) ?_
  refine pf_RX11_151 hC hR hS ok_this dX11_readText_31 hf (fun S13 H locs hf hR hS hE14 => ?_)
  have ok_this := hE14 _ _ ok_this
  have ok_q1 := hE14 _ _ ok_q1
  have ok_q6 := hE14 _ _ ok_q6
  have hE := hE.tr hE14
  refine lv_aload_n hx hb dX11_readText_34 rfl (lv_at hl 0 rfl) ?_
  refine lv_iconst (v := 0) hx hb dX11_readText_35 (by decide) ?_
  refine pf_RX11_240 hC hR hS ok_this dX11_readText_36 hf (fun S15 H locs hf hR hS hE16 => ?_)
  have ok_this := hE16 _ _ ok_this
  have ok_q1 := hE16 _ _ ok_q1
  have ok_q6 := hE16 _ _ ok_q6
  have hE := hE.tr hE16
  refine lv_aload_n hx hb dX11_readText_39 rfl (lv_at hl 0 rfl) ?_
  refine lv_iconst (v := 0) hx hb dX11_readText_40 (by decide) ?_
  refine pf_RX11_101 hC hR hS ok_this dX11_readText_41 hf (fun S17 H locs hf hR hS hE18 => ?_)
  have ok_this := hE18 _ _ ok_this
  have ok_q1 := hE18 _ _ ok_q1
  have ok_q6 := hE18 _ _ ok_q6
  have hE := hE.tr hE18
  refine lv_aload_n hx hb dX11_readText_44 rfl (lv_at hl 0 rfl) ?_
  obtain ⟨S19, hc20, hf⟩ := cv_of hf
  refine cl_RX11_165 (As := []) (rest := []) hC hR hS (c_X11_nextToken l G n this S17 S19 hc20 ok_this) ok_this rfl ⟨Nat.le_of_ble_eq_true rfl, Nat.le_of_ble_eq_true rfl⟩ hl.1 rfl (Nat.le_of_ble_eq_true rfl) dX11_readText_45 (Nat.zero_le _) (Nat.zero_le _) (fun H locs hR hS hE21 => ?_)
  have ok_this := hE21 _ _ ok_this
  have ok_q1 := hE21 _ _ ok_q1
  have ok_q6 := hE21 _ _ ok_q6
  have hE := hE.tr hE21
  have hh29 : ∀ k : Nat, ∀ (S24 : MS) (H : Heap) (locs : List Loc) (ls : Array Slot), f_X11_readText_L48 n this k S24 = some (ro, So) → Rp G S24 H → va_S (gA G) s.heap H locs → Ex S S24 → Ok S24 this 11 → lv_has ls 2 [(0, .ref this)] → W p l e rX11_readText s m args below meth c H locs 0 0 (MQ below (Qn G S (some (.int ro)) So) args s 0 0 (gA G)) (F0 m 48 ls []) := by
    intro k
    induction k with
    | zero =>
      intro S24 H locs ls hf hR hS hE ok_this hl
      exact absurd hf (by rw [f_X11_readText_L48]; exact fun h => by cases h)
    | succ k ih =>
      intro S24 H locs ls hf hR hS hE ok_this hl
      rw [f_X11_readText_L48] at hf
      obtain ⟨rec48_23, erec48_23, hf⟩ := jn_of1 hf
      have hL48_22 : ∀ (S24 : MS) (H : Heap) (locs : List Loc) (ls : Array Slot), rec48_23 S24 = some (ro, So) → Rp G S24 H → va_S (gA G) s.heap H locs → Ex S S24 → Ok S24 this 11 → lv_has ls 2 [(0, .ref this)] → W p l e rX11_readText s m args below meth c H locs 0 0 (MQ below (Qn G S (some (.int ro)) So) args s 0 0 (gA G)) (F0 m 48 ls []) := by
        intro S24 H locs ls hf hR hS hE ok_this hl
        rw [erec48_23] at hf
        exact ih S24 _ _ _ hf hR hS hE ok_this hl
      refine lv_aload_n hx hb dX11_readText_48 rfl (lv_at hl 0 rfl) ?_
      refine gf_RX11_111 hC hR ok_this dX11_readText_49 ?_
      refine lv_if_eq (tgt := 69) hx hb dX11_readText_52 (by decide) (fun hc => ?_) (fun hc => ?_)
      · replace hf := if_t hf hc
        refine lv_iconst (v := 0) hx hb dX11_readText_69 (by decide) ?_
        exact r_iret hC hR hS hE hf dX11_readText_70
      · replace hf := if_f hf hc
        refine lv_aload_n hx hb dX11_readText_55 rfl (lv_at hl 0 rfl) ?_
        obtain ⟨x28, S25, hc26, hf⟩ := cl_of hf
        refine cl_RX11_250 (As := []) (rest := []) hC hR hS (c_X11_clause l G n this S24 x28 S25 hc26 ok_this) ok_this rfl ⟨Nat.le_of_ble_eq_true rfl, Nat.le_of_ble_eq_true rfl⟩ hl.1 rfl (Nat.le_of_ble_eq_true rfl) dX11_readText_56 (Nat.zero_le _) (Nat.zero_le _) (fun H locs hR hS hE27 => ?_)
        have ok_this := hE27 _ _ ok_this
        have hE := hE.tr hE27
        refine lv_istore_n (lv' := [(1, .int x28), (0, .ref this)]) hx hb dX11_readText_59 rfl hl (by decide) rfl (fun ls hl => ?_)
        refine lv_iload_n hx hb dX11_readText_60 rfl (lv_at hl 0 rfl) ?_
        refine lv_if_eq (tgt := 66) hx hb dX11_readText_61 (by decide) (fun hc => ?_) (fun hc => ?_)
        · replace hf := if_t hf hc
          refine lv_goto (tgt := 48) hx hb dX11_readText_66 (by decide) ?_
          exact hL48_22 S25 _ _ _ hf hR hS hE ok_this (lv_sub hl [1] rfl)
        · replace hf := if_f hf hc
          refine lv_iload_n hx hb dX11_readText_64 rfl (lv_at hl 0 rfl) ?_
          exact r_iret hC hR hS hE hf dX11_readText_65
  exact hh29 n S19 _ _ _ hf hR hS hE ok_this (lv_sub hl [0] rfl)
abbrev rX11_text : Room := { frames := 8, cells := 0, slots := 0, locals := 182 }
def f_X11_text (n : Nat) (this : Nat) (S : MS) : Option (Int32 × MS) :=
  gR S (mR S this 0) 12 fun q1 => ck (inb (3 : Int32) (mN S q1)) ((if (mI S q1 (3 : Int32).toNatClampNeg) = (4 : Int32) then some ((-1 : Int32), S) else cl (f_X11_readText n this S) fun x7 S4 => bd (sI S4 this 8 x7) fun S8 => jn (fun (q12 : Nat) (x13 : Int32) (S14 : MS) => bd (sI S14 q12 9 x13) fun S15 => bd (sI S15 this 7 (0 : Int32)) fun S17 => (if (mI S17 this 8) = 0 then gR S17 (mR S17 this 0) 12 fun q19 => ck (inb (3 : Int32) (mN S17 q19)) (ck (inb (3 : Int32) (mN S17 q19)) (bd (sI S17 q19 (3 : Int32).toNatClampNeg ((mI S17 q19 (3 : Int32).toNatClampNeg) + (1 : Int32))) fun S23 => gR S23 (mR S23 this 0) 12 fun q25 => ck (inb (3 : Int32) (mN S23 q25)) (some (((mI S23 q25 (3 : Int32).toNatClampNeg) - (1 : Int32)), S23)))) else some ((-1 : Int32), S17))) fun j36_11 => (if (mI S8 this 8) = 0 then j36_11 this (-1 : Int32) S8 else j36_11 this (mI S8 this 11) S8)))
set_option maxRecDepth 100000 in
set_option maxHeartbeats 4000000 in
theorem c_X11_text (l : Launch) (G : Gx) (n : Nat) (this : Nat) (S : MS) (ro : Int32) (So : MS) (hf : f_X11_text n this S = some (ro, So)) (ok_this : Ok S this 11) : Cn G l yX11_text cX11_text 1 (some .int) rX11_text [.ref this] S (some (.int ro)) So := by
  refine Cn.of (by decide) (Nat.le_of_ble_eq_true rfl) ?_
  intro p e s m args below meth c hC hname hR ls hl
  have hC : Cx G RX11 cX11_text 1 (some .int) p s m args meth c := hC
  have hl : lv_has ls 1 [(0, .ref this)] := hl
  have hx := hC.x
  have hb := hC.b
  have hS : va_S (gA G) s.heap s.heap [] := va_S.rf
  have hE : Ex S S := Ex.rf S
  unfold f_X11_text at hf
  refine lv_aload_n hx hb dX11_text_0 rfl (lv_at hl 0 rfl) ?_
  obtain ⟨q1, hq2, ok_q1, hf⟩ := gR_of hf
  refine gf_RX11_7 hC hR ok_this hq2 dX11_text_1 ?_
  refine lv_iconst (v := 3) hx hb dX11_text_4 (by decide) ?_
  obtain ⟨hi3, hf⟩ := ck_of hf
  refine r_iald hC hR ok_q1 hi3 dX11_text_5 ?_
  refine lv_iconst (v := 4) hx hb dX11_text_6 (by decide) ?_
  refine lv_icmp_ne (tgt := 12) hx hb dX11_text_7 (by decide) (fun hc => ?_) (fun hc => ?_)
  · replace hf := if_f hf hc
    refine lv_aload_n hx hb dX11_text_12 rfl (lv_at hl 0 rfl) ?_
    refine lv_aload_n hx hb dX11_text_13 rfl (lv_at hl 0 rfl) ?_
    obtain ⟨x7, S4, hc5, hf⟩ := cl_of hf
    refine cl_RX11_253 (As := []) (rest := [.ref this]) hC hR hS (c_X11_readText l G n this S x7 S4 hc5 ok_this) ok_this rfl ⟨Nat.le_of_ble_eq_true rfl, Nat.le_of_ble_eq_true rfl⟩ hl.1 rfl (Nat.le_of_ble_eq_true rfl) dX11_text_14 (Nat.zero_le _) (Nat.zero_le _) (fun H locs hR hS hE6 => ?_)
    have ok_this := hE6 _ _ ok_this
    have ok_q1 := hE6 _ _ ok_q1
    have hE := hE.tr hE6
    refine pf_RX11_19 hC hR hS ok_this dX11_text_17 hf (fun S8 H locs hf hR hS hE9 => ?_)
    have ok_this := hE9 _ _ ok_this
    have ok_q1 := hE9 _ _ ok_q1
    have hE := hE.tr hE9
    refine lv_aload_n hx hb dX11_text_20 rfl (lv_at hl 0 rfl) ?_
    refine lv_aload_n hx hb dX11_text_21 rfl (lv_at hl 0 rfl) ?_
    refine gf_RX11_19 hC hR ok_this dX11_text_22 ?_
    obtain ⟨j36_11, ej36_11, hf⟩ := jn_of3 hf
    have hj36_10 : ∀ (q12 : Nat) (x13 : Int32) (S14 : MS) (H : Heap) (locs : List Loc) (ls : Array Slot), j36_11 q12 x13 S14 = some (ro, So) → Rp G S14 H → va_S (gA G) s.heap H locs → Ex S S14 → Ok S14 this 11 → Ok S14 q12 11 → lv_has ls 1 [(0, .ref this)] → W p l e rX11_text s m args below meth c H locs 0 0 (MQ below (Qn G S (some (.int ro)) So) args s 0 0 (gA G)) (F0 m 36 ls [.int x13, .ref q12]) := by
      intro q12 x13 S14 H locs ls hf hR hS hE ok_this ok_q12 hl
      rw [ej36_11] at hf
      refine pf_RX11_23 hC hR hS ok_q12 dX11_text_36 hf (fun S15 H locs hf hR hS hE16 => ?_)
      have ok_this := hE16 _ _ ok_this
      have ok_q12 := hE16 _ _ ok_q12
      have hE := hE.tr hE16
      refine lv_aload_n hx hb dX11_text_39 rfl (lv_at hl 0 rfl) ?_
      refine lv_iconst (v := 0) hx hb dX11_text_40 (by decide) ?_
      refine pf_RX11_94 hC hR hS ok_this dX11_text_41 hf (fun S17 H locs hf hR hS hE18 => ?_)
      have ok_this := hE18 _ _ ok_this
      have ok_q12 := hE18 _ _ ok_q12
      have hE := hE.tr hE18
      refine lv_aload_n hx hb dX11_text_44 rfl (lv_at hl 0 rfl) ?_
      refine gf_RX11_19 hC hR ok_this dX11_text_45 ?_
      refine lv_if_eq (tgt := 53) hx hb dX11_text_48 (by decide) (fun hc => ?_) (fun hc => ?_)
      · replace hf := if_t hf hc
        refine lv_aload_n hx hb dX11_text_53 rfl (lv_at hl 0 rfl) ?_
        obtain ⟨q19, hq20, ok_q19, hf⟩ := gR_of hf
        refine gf_RX11_7 hC hR ok_this hq20 dX11_text_54 ?_
        refine lv_iconst (v := 3) hx hb dX11_text_57 (by decide) ?_
        refine lv_dup2_11 hx hb dX11_text_58 rfl rfl ?_
        obtain ⟨hi21, hf⟩ := ck_of hf
        refine r_iald hC hR ok_q19 hi21 dX11_text_59 ?_
        refine lv_iconst (v := 1) hx hb dX11_text_60 (by decide) ?_
        refine lv_iadd hx hb dX11_text_61 ?_
        obtain ⟨hi22, hf⟩ := ck_of hf
        refine rB_iast hC hR hS ok_q19 hi22 dX11_text_62 hf (fun S23 H locs hf hR hS hE24 => ?_)
        have ok_this := hE24 _ _ ok_this
        have ok_q12 := hE24 _ _ ok_q12
        have ok_q19 := hE24 _ _ ok_q19
        have hE := hE.tr hE24
        refine lv_aload_n hx hb dX11_text_63 rfl (lv_at hl 0 rfl) ?_
        obtain ⟨q25, hq26, ok_q25, hf⟩ := gR_of hf
        refine gf_RX11_7 hC hR ok_this hq26 dX11_text_64 ?_
        refine lv_iconst (v := 3) hx hb dX11_text_67 (by decide) ?_
        obtain ⟨hi27, hf⟩ := ck_of hf
        refine r_iald hC hR ok_q25 hi27 dX11_text_68 ?_
        refine lv_iconst (v := 1) hx hb dX11_text_69 (by decide) ?_
        refine lv_isub hx hb dX11_text_70 ?_
        exact r_iret hC hR hS hE hf dX11_text_71
      · replace hf := if_f hf hc
        refine lv_iconst (v := -1) hx hb dX11_text_51 (by decide) ?_
        exact r_iret hC hR hS hE hf dX11_text_52
    refine lv_if_ne (tgt := 32) hx hb dX11_text_25 (by decide) (fun hc => ?_) (fun hc => ?_)
    · replace hf := if_f hf hc
      refine lv_aload_n hx hb dX11_text_32 rfl (lv_at hl 0 rfl) ?_
      refine gf_RX11_108 hC hR ok_this dX11_text_33 ?_
      exact hj36_10 this (mI S8 this 11) S8 _ _ _ hf hR hS hE ok_this ok_this (lv_sub hl [0] rfl)
    · replace hf := if_t hf hc
      refine lv_iconst (v := -1) hx hb dX11_text_28 (by decide) ?_
      refine lv_goto (tgt := 36) hx hb dX11_text_29 (by decide) ?_
      exact hj36_10 this (-1 : Int32) S8 _ _ _ hf hR hS hE ok_this ok_this (lv_sub hl [0] rfl)
  · replace hf := if_t hf hc
    refine lv_iconst (v := -1) hx hb dX11_text_10 (by decide) ?_
    exact r_iret hC hR hS hE hf dX11_text_11
abbrev rX11_fault : Room := { frames := 0, cells := 0, slots := 0, locals := 0 }
def f_X11_fault (_n : Nat) (this : Nat) (a1 : Int32) (S : MS) : Option (Int32 × MS) :=
  (if a1 = 0 then some ((mI S this 8), S) else (if a1 = (1 : Int32) then some ((mI S this 9), S) else some ((-1 : Int32), S)))
set_option maxRecDepth 100000 in
set_option maxHeartbeats 4000000 in
theorem c_X11_fault (l : Launch) (G : Gx) (n : Nat) (this : Nat) (a1 : Int32) (S : MS) (ro : Int32) (So : MS) (hf : f_X11_fault n this a1 S = some (ro, So)) (ok_this : Ok S this 11) : Cn G l yX11_fault cX11_fault 2 (some .int) rX11_fault [.ref this, .int a1] S (some (.int ro)) So := by
  refine Cn.of (by decide) (Nat.le_of_ble_eq_true rfl) ?_
  intro p e s m args below meth c hC hname hR ls hl
  have hC : Cx G RX11 cX11_fault 2 (some .int) p s m args meth c := hC
  have hl : lv_has ls 2 [(0, .ref this), (1, .int a1)] := hl
  have hx := hC.x
  have hb := hC.b
  have hS : va_S (gA G) s.heap s.heap [] := va_S.rf
  have hE : Ex S S := Ex.rf S
  unfold f_X11_fault at hf
  refine lv_iload_n hx hb dX11_fault_0 rfl (lv_at hl 1 rfl) ?_
  refine lv_if_ne (tgt := 11) hx hb dX11_fault_1 (by decide) (fun hc => ?_) (fun hc => ?_)
  · replace hf := if_f hf hc
    refine lv_iload_n hx hb dX11_fault_11 rfl (lv_at hl 1 rfl) ?_
    refine lv_iconst (v := 1) hx hb dX11_fault_12 (by decide) ?_
    refine lv_icmp_ne (tgt := 23) hx hb dX11_fault_13 (by decide) (fun hc => ?_) (fun hc => ?_)
    · replace hf := if_f hf hc
      refine lv_iconst (v := -1) hx hb dX11_fault_23 (by decide) ?_
      exact r_iret hC hR hS hE hf dX11_fault_24
    · replace hf := if_t hf hc
      refine lv_aload_n hx hb dX11_fault_16 rfl (lv_at hl 0 rfl) ?_
      refine gf_RX11_23 hC hR ok_this dX11_fault_17 ?_
      refine lv_goto (tgt := 24) hx hb dX11_fault_20 (by decide) ?_
      exact r_iret hC hR hS hE hf dX11_fault_24
  · replace hf := if_t hf hc
    refine lv_aload_n hx hb dX11_fault_4 rfl (lv_at hl 0 rfl) ?_
    refine gf_RX11_19 hC hR ok_this dX11_fault_5 ?_
    refine lv_goto (tgt := 24) hx hb dX11_fault_8 (by decide) ?_
    exact r_iret hC hR hS hE hf dX11_fault_24
abbrev rX11_by : Room := { frames := 1, cells := 0, slots := 0, locals := 22 }
def f_X11_by (n : Nat) (this : Nat) (a1 : Int32) (S : MS) : Option (Int32 × MS) :=
  gR S (mR S this 0) 12 fun q1 => ck (inb (3 : Int32) (mN S q1)) (cl (f_X11_isIn n a1 (-1 : Int32) ((mI S q1 (3 : Int32).toNatClampNeg) - (1 : Int32)) S) fun x7 S4 => (if x7 = 0 then zb (0 : Int32) (some ((0 : Int32), S4)) else gR S4 (mR S4 this 0) 12 fun q8 => ck (inb (4 : Int32) (mN S4 q8)) (bd (sI S4 q8 (4 : Int32).toNatClampNeg a1) fun S11 => zb (1 : Int32) (some ((1 : Int32), S11)))))
set_option maxRecDepth 100000 in
set_option maxHeartbeats 4000000 in
theorem c_X11_by (l : Launch) (G : Gx) (n : Nat) (this : Nat) (a1 : Int32) (S : MS) (ro : Int32) (So : MS) (hf : f_X11_by n this a1 S = some (ro, So)) (ok_this : Ok S this 11) : Cn G l yX11_by cX11_by 2 (some .boolean) rX11_by [.ref this, .int a1] S (some (.int ro)) So := by
  refine Cn.of (by decide) (Nat.le_of_ble_eq_true rfl) ?_
  intro p e s m args below meth c hC hname hR ls hl
  have hC : Cx G RX11 cX11_by 2 (some .boolean) p s m args meth c := hC
  have hl : lv_has ls 2 [(0, .ref this), (1, .int a1)] := hl
  have hx := hC.x
  have hb := hC.b
  have hS : va_S (gA G) s.heap s.heap [] := va_S.rf
  have hE : Ex S S := Ex.rf S
  unfold f_X11_by at hf
  refine lv_iload_n hx hb dX11_by_0 rfl (lv_at hl 1 rfl) ?_
  refine lv_iconst (v := -1) hx hb dX11_by_1 (by decide) ?_
  refine lv_aload_n hx hb dX11_by_2 rfl (lv_at hl 0 rfl) ?_
  obtain ⟨q1, hq2, ok_q1, hf⟩ := gR_of hf
  refine gf_RX11_7 hC hR ok_this hq2 dX11_by_3 ?_
  refine lv_iconst (v := 3) hx hb dX11_by_6 (by decide) ?_
  obtain ⟨hi3, hf⟩ := ck_of hf
  refine r_iald hC hR ok_q1 hi3 dX11_by_7 ?_
  refine lv_iconst (v := 1) hx hb dX11_by_8 (by decide) ?_
  refine lv_isub hx hb dX11_by_9 ?_
  obtain ⟨x7, S4, hc5, hf⟩ := cl_of hf
  refine cl_RX11_71 (As := [.int a1, .int (-1 : Int32), .int ((mI S q1 (3 : Int32).toNatClampNeg) - (1 : Int32))]) (rest := []) hC hR hS (c_X11_isIn l G n a1 (-1 : Int32) ((mI S q1 (3 : Int32).toNatClampNeg) - (1 : Int32)) S x7 S4 hc5 ) rfl ⟨Nat.le_of_ble_eq_true rfl, Nat.le_of_ble_eq_true rfl⟩ hl.1 rfl (Nat.le_of_ble_eq_true rfl) dX11_by_10 (Nat.zero_le _) (Nat.zero_le _) (fun H locs hR hS hE6 => ?_)
  have ok_this := hE6 _ _ ok_this
  have ok_q1 := hE6 _ _ ok_q1
  have hE := hE.tr hE6
  refine lv_if_ne (tgt := 18) hx hb dX11_by_13 (by decide) (fun hc => ?_) (fun hc => ?_)
  · replace hf := if_f hf hc
    refine lv_aload_n hx hb dX11_by_18 rfl (lv_at hl 0 rfl) ?_
    obtain ⟨q8, hq9, ok_q8, hf⟩ := gR_of hf
    refine gf_RX11_7 hC hR ok_this hq9 dX11_by_19 ?_
    refine lv_iconst (v := 4) hx hb dX11_by_22 (by decide) ?_
    refine lv_iload_n hx hb dX11_by_23 rfl (lv_at hl 1 rfl) ?_
    obtain ⟨hi10, hf⟩ := ck_of hf
    refine rB_iast hC hR hS ok_q8 hi10 dX11_by_24 hf (fun S11 H locs hf hR hS hE12 => ?_)
    have ok_this := hE12 _ _ ok_this
    have ok_q1 := hE12 _ _ ok_q1
    have ok_q8 := hE12 _ _ ok_q8
    have hE := hE.tr hE12
    refine lv_iconst (v := 1) hx hb dX11_by_25 (by decide) ?_
    exact r_zret hC hR hS hE hf dX11_by_26
  · replace hf := if_t hf hc
    refine lv_iconst (v := 0) hx hb dX11_by_16 (by decide) ?_
    exact r_zret hC hR hS hE hf dX11_by_17
abbrev rX11_isDone : Room := { frames := 3, cells := 0, slots := 0, locals := 66 }
def f_X11_isDone (n : Nat) (this : Nat) (a1 : Int32) (S : MS) : Option (Int32 × MS) :=
  gR S (mR S this 5) 12 fun q1 => ck (inb a1 (mN S q1)) ((if (4 : Int32) ≤ (mI S q1 a1.toNatClampNeg) then gR S (mR S this 5) 12 fun q4 => ck (inb (a1 + (2 : Int32)) (mN S q4)) ((if (mI S this 1) ≤ (mI S q4 (a1 + (2 : Int32)).toNatClampNeg) then zb (0 : Int32) (some ((0 : Int32), S)) else gR S (mR S this 5) 12 fun q7 => ck (inb (a1 + (3 : Int32)) (mN S q7)) ((if (mI S q7 (a1 + (3 : Int32)).toNatClampNeg) < (mI S this 2) then gR S (mR S this 5) 12 fun q10 => ck (inb (a1 + (2 : Int32)) (mN S q10)) (gR S (mR S this 5) 12 fun q13 => ck (inb (a1 + (3 : Int32)) (mN S q13)) (bd ((mI S q10 (a1 + (2 : Int32)).toNatClampNeg) + ((mI S this 1) * (mI S q13 (a1 + (3 : Int32)).toNatClampNeg))) fun x16 => gR S (mR S this 5) 12 fun q17 => ck (inb a1 (mN S q17)) ((if (mI S q17 a1.toNatClampNeg) = (4 : Int32) then gR S (mR S this 5) 12 fun q27 => ck (inb (a1 + (1 : Int32)) (mN S q27)) (cl (f_X11_bone n this x16 (mI S q27 (a1 + (1 : Int32)).toNatClampNeg) S) fun x33 S30 => (if x33 < 0 then zb (0 : Int32) (some ((0 : Int32), S30)) else zb (1 : Int32) (some ((1 : Int32), S30)))) else gR S (mR S this 5) 12 fun q20 => ck (inb (a1 + (1 : Int32)) (mN S q20)) (cl (f_X11_stake n this (mI S q20 (a1 + (1 : Int32)).toNatClampNeg) x16 S) fun x26 S23 => zb x26 (some (x26, S23))))))) else zb (0 : Int32) (some ((0 : Int32), S)))))) else zb (1 : Int32) (some ((1 : Int32), S))))
set_option maxRecDepth 100000 in
set_option maxHeartbeats 4000000 in
theorem c_X11_isDone (l : Launch) (G : Gx) (n : Nat) (this : Nat) (a1 : Int32) (S : MS) (ro : Int32) (So : MS) (hf : f_X11_isDone n this a1 S = some (ro, So)) (ok_this : Ok S this 11) : Cn G l yX11_isDone cX11_isDone 3 (some .boolean) rX11_isDone [.ref this, .int a1] S (some (.int ro)) So := by
  refine Cn.of (by decide) (Nat.le_of_ble_eq_true rfl) ?_
  intro p e s m args below meth c hC hname hR ls hl
  have hC : Cx G RX11 cX11_isDone 3 (some .boolean) p s m args meth c := hC
  have hl : lv_has ls 3 [(0, .ref this), (1, .int a1)] := hl
  have hx := hC.x
  have hb := hC.b
  have hS : va_S (gA G) s.heap s.heap [] := va_S.rf
  have hE : Ex S S := Ex.rf S
  unfold f_X11_isDone at hf
  refine lv_aload_n hx hb dX11_isDone_0 rfl (lv_at hl 0 rfl) ?_
  obtain ⟨q1, hq2, ok_q1, hf⟩ := gR_of hf
  refine gf_RX11_13 hC hR ok_this hq2 dX11_isDone_1 ?_
  refine lv_iload_n hx hb dX11_isDone_4 rfl (lv_at hl 1 rfl) ?_
  obtain ⟨hi3, hf⟩ := ck_of hf
  refine r_iald hC hR ok_q1 hi3 dX11_isDone_5 ?_
  refine lv_iconst (v := 4) hx hb dX11_isDone_6 (by decide) ?_
  refine lv_icmp_ge (tgt := 12) hx hb dX11_isDone_7 (by decide) (fun hc => ?_) (fun hc => ?_)
  · replace hf := if_t hf hc
    refine lv_aload_n hx hb dX11_isDone_12 rfl (lv_at hl 0 rfl) ?_
    obtain ⟨q4, hq5, ok_q4, hf⟩ := gR_of hf
    refine gf_RX11_13 hC hR ok_this hq5 dX11_isDone_13 ?_
    refine lv_iload_n hx hb dX11_isDone_16 rfl (lv_at hl 1 rfl) ?_
    refine lv_iconst (v := 2) hx hb dX11_isDone_17 (by decide) ?_
    refine lv_iadd hx hb dX11_isDone_18 ?_
    obtain ⟨hi6, hf⟩ := ck_of hf
    refine r_iald hC hR ok_q4 hi6 dX11_isDone_19 ?_
    refine lv_aload_n hx hb dX11_isDone_20 rfl (lv_at hl 0 rfl) ?_
    refine gf_RX11_58 hC hR ok_this dX11_isDone_21 ?_
    refine lv_icmp_ge (tgt := 42) hx hb dX11_isDone_24 (by decide) (fun hc => ?_) (fun hc => ?_)
    · replace hf := if_t hf hc
      refine lv_iconst (v := 0) hx hb dX11_isDone_42 (by decide) ?_
      exact r_zret hC hR hS hE hf dX11_isDone_43
    · replace hf := if_f hf hc
      refine lv_aload_n hx hb dX11_isDone_27 rfl (lv_at hl 0 rfl) ?_
      obtain ⟨q7, hq8, ok_q7, hf⟩ := gR_of hf
      refine gf_RX11_13 hC hR ok_this hq8 dX11_isDone_28 ?_
      refine lv_iload_n hx hb dX11_isDone_31 rfl (lv_at hl 1 rfl) ?_
      refine lv_iconst (v := 3) hx hb dX11_isDone_32 (by decide) ?_
      refine lv_iadd hx hb dX11_isDone_33 ?_
      obtain ⟨hi9, hf⟩ := ck_of hf
      refine r_iald hC hR ok_q7 hi9 dX11_isDone_34 ?_
      refine lv_aload_n hx hb dX11_isDone_35 rfl (lv_at hl 0 rfl) ?_
      refine gf_RX11_61 hC hR ok_this dX11_isDone_36 ?_
      refine lv_icmp_lt (tgt := 44) hx hb dX11_isDone_39 (by decide) (fun hc => ?_) (fun hc => ?_)
      · replace hf := if_t hf hc
        refine lv_aload_n hx hb dX11_isDone_44 rfl (lv_at hl 0 rfl) ?_
        obtain ⟨q10, hq11, ok_q10, hf⟩ := gR_of hf
        refine gf_RX11_13 hC hR ok_this hq11 dX11_isDone_45 ?_
        refine lv_iload_n hx hb dX11_isDone_48 rfl (lv_at hl 1 rfl) ?_
        refine lv_iconst (v := 2) hx hb dX11_isDone_49 (by decide) ?_
        refine lv_iadd hx hb dX11_isDone_50 ?_
        obtain ⟨hi12, hf⟩ := ck_of hf
        refine r_iald hC hR ok_q10 hi12 dX11_isDone_51 ?_
        refine lv_aload_n hx hb dX11_isDone_52 rfl (lv_at hl 0 rfl) ?_
        refine gf_RX11_58 hC hR ok_this dX11_isDone_53 ?_
        refine lv_aload_n hx hb dX11_isDone_56 rfl (lv_at hl 0 rfl) ?_
        obtain ⟨q13, hq14, ok_q13, hf⟩ := gR_of hf
        refine gf_RX11_13 hC hR ok_this hq14 dX11_isDone_57 ?_
        refine lv_iload_n hx hb dX11_isDone_60 rfl (lv_at hl 1 rfl) ?_
        refine lv_iconst (v := 3) hx hb dX11_isDone_61 (by decide) ?_
        refine lv_iadd hx hb dX11_isDone_62 ?_
        obtain ⟨hi15, hf⟩ := ck_of hf
        refine r_iald hC hR ok_q13 hi15 dX11_isDone_63 ?_
        refine lv_imul hx hb dX11_isDone_64 ?_
        refine lv_iadd hx hb dX11_isDone_65 ?_
        refine bdi hf (fun x16 hf => ?_)
        refine lv_istore_n (lv' := [(2, .int x16), (0, .ref this), (1, .int a1)]) hx hb dX11_isDone_66 rfl hl (by decide) rfl (fun ls hl => ?_)
        refine lv_aload_n hx hb dX11_isDone_67 rfl (lv_at hl 1 rfl) ?_
        obtain ⟨q17, hq18, ok_q17, hf⟩ := gR_of hf
        refine gf_RX11_13 hC hR ok_this hq18 dX11_isDone_68 ?_
        refine lv_iload_n hx hb dX11_isDone_71 rfl (lv_at hl 2 rfl) ?_
        obtain ⟨hi19, hf⟩ := ck_of hf
        refine r_iald hC hR ok_q17 hi19 dX11_isDone_72 ?_
        refine lv_iconst (v := 4) hx hb dX11_isDone_73 (by decide) ?_
        refine lv_icmp_ne (tgt := 101) hx hb dX11_isDone_74 (by decide) (fun hc => ?_) (fun hc => ?_)
        · replace hf := if_f hf hc
          refine lv_aload_n hx hb dX11_isDone_101 rfl (lv_at hl 1 rfl) ?_
          refine lv_aload_n hx hb dX11_isDone_102 rfl (lv_at hl 1 rfl) ?_
          obtain ⟨q20, hq21, ok_q20, hf⟩ := gR_of hf
          refine gf_RX11_13 hC hR ok_this hq21 dX11_isDone_103 ?_
          refine lv_iload_n hx hb dX11_isDone_106 rfl (lv_at hl 2 rfl) ?_
          refine lv_iconst (v := 1) hx hb dX11_isDone_107 (by decide) ?_
          refine lv_iadd hx hb dX11_isDone_108 ?_
          obtain ⟨hi22, hf⟩ := ck_of hf
          refine r_iald hC hR ok_q20 hi22 dX11_isDone_109 ?_
          refine lv_iload_n hx hb dX11_isDone_110 rfl (lv_at hl 0 rfl) ?_
          obtain ⟨x26, S23, hc24, hf⟩ := cl_of hf
          refine cl_RX11_259 (As := [.int (mI S q20 (a1 + (1 : Int32)).toNatClampNeg), .int x16]) (rest := []) hC hR hS (c_X11_stake l G n this (mI S q20 (a1 + (1 : Int32)).toNatClampNeg) x16 S x26 S23 hc24 ok_this) ok_this rfl ⟨Nat.le_of_ble_eq_true rfl, Nat.le_of_ble_eq_true rfl⟩ hl.1 rfl (Nat.le_of_ble_eq_true rfl) dX11_isDone_111 (Nat.zero_le _) (Nat.zero_le _) (fun H locs hR hS hE25 => ?_)
          have ok_this := hE25 _ _ ok_this
          have ok_q1 := hE25 _ _ ok_q1
          have ok_q4 := hE25 _ _ ok_q4
          have ok_q7 := hE25 _ _ ok_q7
          have ok_q10 := hE25 _ _ ok_q10
          have ok_q13 := hE25 _ _ ok_q13
          have ok_q17 := hE25 _ _ ok_q17
          have ok_q20 := hE25 _ _ ok_q20
          have hE := hE.tr hE25
          exact r_zret hC hR hS hE hf dX11_isDone_114
        · replace hf := if_t hf hc
          refine lv_aload_n hx hb dX11_isDone_77 rfl (lv_at hl 1 rfl) ?_
          refine lv_iload_n hx hb dX11_isDone_78 rfl (lv_at hl 0 rfl) ?_
          refine lv_aload_n hx hb dX11_isDone_79 rfl (lv_at hl 1 rfl) ?_
          obtain ⟨q27, hq28, ok_q27, hf⟩ := gR_of hf
          refine gf_RX11_13 hC hR ok_this hq28 dX11_isDone_80 ?_
          refine lv_iload_n hx hb dX11_isDone_83 rfl (lv_at hl 2 rfl) ?_
          refine lv_iconst (v := 1) hx hb dX11_isDone_84 (by decide) ?_
          refine lv_iadd hx hb dX11_isDone_85 ?_
          obtain ⟨hi29, hf⟩ := ck_of hf
          refine r_iald hC hR ok_q27 hi29 dX11_isDone_86 ?_
          obtain ⟨x33, S30, hc31, hf⟩ := cl_of hf
          refine cl_RX11_256 (As := [.int x16, .int (mI S q27 (a1 + (1 : Int32)).toNatClampNeg)]) (rest := []) hC hR hS (c_X11_bone l G n this x16 (mI S q27 (a1 + (1 : Int32)).toNatClampNeg) S x33 S30 hc31 ok_this) ok_this rfl ⟨Nat.le_of_ble_eq_true rfl, Nat.le_of_ble_eq_true rfl⟩ hl.1 rfl (Nat.le_of_ble_eq_true rfl) dX11_isDone_87 (Nat.zero_le _) (Nat.zero_le _) (fun H locs hR hS hE32 => ?_)
          have ok_this := hE32 _ _ ok_this
          have ok_q1 := hE32 _ _ ok_q1
          have ok_q4 := hE32 _ _ ok_q4
          have ok_q7 := hE32 _ _ ok_q7
          have ok_q10 := hE32 _ _ ok_q10
          have ok_q13 := hE32 _ _ ok_q13
          have ok_q17 := hE32 _ _ ok_q17
          have ok_q27 := hE32 _ _ ok_q27
          have hE := hE.tr hE32
          refine lv_if_lt (tgt := 97) hx hb dX11_isDone_90 (by decide) (fun hc => ?_) (fun hc => ?_)
          · replace hf := if_t hf hc
            refine lv_iconst (v := 0) hx hb dX11_isDone_97 (by decide) ?_
            refine lv_goto (tgt := 114) hx hb dX11_isDone_98 (by decide) ?_
            exact r_zret hC hR hS hE hf dX11_isDone_114
          · replace hf := if_f hf hc
            refine lv_iconst (v := 1) hx hb dX11_isDone_93 (by decide) ?_
            refine lv_goto (tgt := 114) hx hb dX11_isDone_94 (by decide) ?_
            exact r_zret hC hR hS hE hf dX11_isDone_114
      · replace hf := if_f hf hc
        refine lv_iconst (v := 0) hx hb dX11_isDone_42 (by decide) ?_
        exact r_zret hC hR hS hE hf dX11_isDone_43
  · replace hf := if_f hf hc
    refine lv_iconst (v := 1) hx hb dX11_isDone_10 (by decide) ?_
    exact r_zret hC hR hS hE hf dX11_isDone_11
abbrev rX11_draw : Room := { frames := 4, cells := 0, slots := 0, locals := 88 }
def f_X11_draw_L88 (n : Nat) (this : Nat) (a1 : Int32) : Nat → Int32 → MS → Option (Int32 × MS)
  | 0, _, _ => none
  | k + 1, x21, S22 => jn (f_X11_draw_L88 n this a1 k) fun rec88_20 => gR S22 (mR S22 this 5) 12 fun q23 => ck (inb ((700 : Int32) * a1) (mN S22 q23)) ((if (mI S22 q23 ((700 : Int32) * a1).toNatClampNeg) ≤ x21 then some ((-1 : Int32), S22) else cl (f_X11_isDone n this ((((700 : Int32) * a1) + (1 : Int32)) + ((4 : Int32) * x21)) S22) fun x29 S26 => (if x29 = 0 then some (x21, S26) else bd (x21 + (1 : Int32)) fun x30 => rec88_20 x30 S26)))
def f_X11_draw_L52 (n : Nat) (this : Nat) (a1 : Int32) (j86_17 : MS → Option (Int32 × MS)) : Nat → Int32 → MS → Option (Int32 × MS)
  | 0, _, _ => none
  | k + 1, x34, S35 => jn (f_X11_draw_L52 n this a1 j86_17 k) fun rec52_33 => (if (48 : Int32) ≤ x34 then j86_17 S35 else gR S35 (mR S35 this 0) 12 fun q36 => ck (inb ((240 : Int32) + x34) (mN S35 q36)) (bd (sI S35 q36 ((240 : Int32) + x34).toNatClampNeg (-1 : Int32)) fun S39 => gR S39 (mR S39 this 0) 12 fun q41 => ck (inb ((290 : Int32) + x34) (mN S39 q41)) (bd (sI S39 q41 ((290 : Int32) + x34).toNatClampNeg (0 : Int32)) fun S44 => bd (x34 + (1 : Int32)) fun x46 => rec52_33 x46 S44)))
def f_X11_draw_L28 (n : Nat) (this : Nat) (a1 : Int32) (j50_14 : MS → Option (Int32 × MS)) : Nat → Int32 → MS → Option (Int32 × MS)
  | 0, _, _ => none
  | k + 1, x51, S52 => jn (f_X11_draw_L28 n this a1 j50_14 k) fun rec28_50 => (if (6 : Int32) ≤ x51 then j50_14 S52 else gR S52 (mR S52 this 0) 12 fun q53 => ck (inb ((85 : Int32) + x51) (mN S52 q53)) (bd (sI S52 q53 ((85 : Int32) + x51).toNatClampNeg (-1 : Int32)) fun S56 => bd (x51 + (1 : Int32)) fun x58 => rec28_50 x58 S56))
def f_X11_draw (n : Nat) (this : Nat) (a1 : Int32) (S : MS) : Option (Int32 × MS) :=
  gR S (mR S this 0) 12 fun q1 => ck (inb (3 : Int32) (mN S q1)) (cl (f_X11_isIn n a1 (0 : Int32) ((mI S q1 (3 : Int32).toNatClampNeg) - (1 : Int32)) S) fun x7 S4 => (if x7 = 0 then some ((-2 : Int32), S4) else gR S4 (mR S4 this 0) 12 fun q8 => ck (inb (1 : Int32) (mN S4 q8)) (bd (sI S4 q8 (1 : Int32).toNatClampNeg (0 : Int32)) fun S11 => jn (fun (S15 : MS) => jn (fun (S18 : MS) => f_X11_draw_L88 n this a1 n (0 : Int32) S18) fun j86_17 => f_X11_draw_L52 n this a1 j86_17 n (0 : Int32) S15) fun j50_14 => f_X11_draw_L28 n this a1 j50_14 n (0 : Int32) S11)))
set_option maxRecDepth 100000 in
set_option maxHeartbeats 4000000 in
theorem c_X11_draw (l : Launch) (G : Gx) (n : Nat) (this : Nat) (a1 : Int32) (S : MS) (ro : Int32) (So : MS) (hf : f_X11_draw n this a1 S = some (ro, So)) (ok_this : Ok S this 11) : Cn G l yX11_draw cX11_draw 3 (some .int) rX11_draw [.ref this, .int a1] S (some (.int ro)) So := by
  refine Cn.of (by decide) (Nat.le_of_ble_eq_true rfl) ?_
  intro p e s m args below meth c hC hname hR ls hl
  have hC : Cx G RX11 cX11_draw 3 (some .int) p s m args meth c := hC
  have hl : lv_has ls 3 [(0, .ref this), (1, .int a1)] := hl
  have hx := hC.x
  have hb := hC.b
  have hS : va_S (gA G) s.heap s.heap [] := va_S.rf
  have hE : Ex S S := Ex.rf S
  unfold f_X11_draw at hf
  refine lv_iload_n hx hb dX11_draw_0 rfl (lv_at hl 1 rfl) ?_
  refine lv_iconst (v := 0) hx hb dX11_draw_1 (by decide) ?_
  refine lv_aload_n hx hb dX11_draw_2 rfl (lv_at hl 0 rfl) ?_
  obtain ⟨q1, hq2, ok_q1, hf⟩ := gR_of hf
  refine gf_RX11_7 hC hR ok_this hq2 dX11_draw_3 ?_
  refine lv_iconst (v := 3) hx hb dX11_draw_6 (by decide) ?_
  obtain ⟨hi3, hf⟩ := ck_of hf
  refine r_iald hC hR ok_q1 hi3 dX11_draw_7 ?_
  refine lv_iconst (v := 1) hx hb dX11_draw_8 (by decide) ?_
  refine lv_isub hx hb dX11_draw_9 ?_
  obtain ⟨x7, S4, hc5, hf⟩ := cl_of hf
  refine cl_RX11_71 (As := [.int a1, .int (0 : Int32), .int ((mI S q1 (3 : Int32).toNatClampNeg) - (1 : Int32))]) (rest := []) hC hR hS (c_X11_isIn l G n a1 (0 : Int32) ((mI S q1 (3 : Int32).toNatClampNeg) - (1 : Int32)) S x7 S4 hc5 ) rfl ⟨Nat.le_of_ble_eq_true rfl, Nat.le_of_ble_eq_true rfl⟩ hl.1 rfl (Nat.le_of_ble_eq_true rfl) dX11_draw_10 (Nat.zero_le _) (Nat.zero_le _) (fun H locs hR hS hE6 => ?_)
  have ok_this := hE6 _ _ ok_this
  have ok_q1 := hE6 _ _ ok_q1
  have hE := hE.tr hE6
  refine lv_if_ne (tgt := 19) hx hb dX11_draw_13 (by decide) (fun hc => ?_) (fun hc => ?_)
  · replace hf := if_f hf hc
    refine lv_aload_n hx hb dX11_draw_19 rfl (lv_at hl 0 rfl) ?_
    obtain ⟨q8, hq9, ok_q8, hf⟩ := gR_of hf
    refine gf_RX11_7 hC hR ok_this hq9 dX11_draw_20 ?_
    refine lv_iconst (v := 1) hx hb dX11_draw_23 (by decide) ?_
    refine lv_iconst (v := 0) hx hb dX11_draw_24 (by decide) ?_
    obtain ⟨hi10, hf⟩ := ck_of hf
    refine rB_iast hC hR hS ok_q8 hi10 dX11_draw_25 hf (fun S11 H locs hf hR hS hE12 => ?_)
    have ok_this := hE12 _ _ ok_this
    have ok_q1 := hE12 _ _ ok_q1
    have ok_q8 := hE12 _ _ ok_q8
    have hE := hE.tr hE12
    refine lv_iconst (v := 0) hx hb dX11_draw_26 (by decide) ?_
    refine lv_istore_n (lv' := [(2, .int (0 : Int32)), (0, .ref this), (1, .int a1)]) hx hb dX11_draw_27 rfl hl (by decide) rfl (fun ls hl => ?_)
    obtain ⟨j50_14, ej50_14, hf⟩ := jn_of1 hf
    have hj50_13 : ∀ (S15 : MS) (H : Heap) (locs : List Loc) (ls : Array Slot), j50_14 S15 = some (ro, So) → Rp G S15 H → va_S (gA G) s.heap H locs → Ex S S15 → Ok S15 this 11 → lv_has ls 3 [(0, .ref this), (1, .int a1)] → W p l e rX11_draw s m args below meth c H locs 0 0 (MQ below (Qn G S (some (.int ro)) So) args s 0 0 (gA G)) (F0 m 50 ls []) := by
      intro S15 H locs ls hf hR hS hE ok_this hl
      rw [ej50_14] at hf
      refine lv_iconst (v := 0) hx hb dX11_draw_50 (by decide) ?_
      refine lv_istore_n (lv' := [(2, .int (0 : Int32)), (0, .ref this), (1, .int a1)]) hx hb dX11_draw_51 rfl hl (by decide) rfl (fun ls hl => ?_)
      obtain ⟨j86_17, ej86_17, hf⟩ := jn_of1 hf
      have hj86_16 : ∀ (S18 : MS) (H : Heap) (locs : List Loc) (ls : Array Slot), j86_17 S18 = some (ro, So) → Rp G S18 H → va_S (gA G) s.heap H locs → Ex S S18 → Ok S18 this 11 → lv_has ls 3 [(0, .ref this), (1, .int a1)] → W p l e rX11_draw s m args below meth c H locs 0 0 (MQ below (Qn G S (some (.int ro)) So) args s 0 0 (gA G)) (F0 m 86 ls []) := by
        intro S18 H locs ls hf hR hS hE ok_this hl
        rw [ej86_17] at hf
        refine lv_iconst (v := 0) hx hb dX11_draw_86 (by decide) ?_
        refine lv_istore_n (lv' := [(2, .int (0 : Int32)), (0, .ref this), (1, .int a1)]) hx hb dX11_draw_87 rfl hl (by decide) rfl (fun ls hl => ?_)
        have hh31 : ∀ k : Nat, ∀ (x21 : Int32) (S22 : MS) (H : Heap) (locs : List Loc) (ls : Array Slot), f_X11_draw_L88 n this a1 k x21 S22 = some (ro, So) → Rp G S22 H → va_S (gA G) s.heap H locs → Ex S S22 → Ok S22 this 11 → lv_has ls 3 [(0, .ref this), (1, .int a1), (2, .int x21)] → W p l e rX11_draw s m args below meth c H locs 0 0 (MQ below (Qn G S (some (.int ro)) So) args s 0 0 (gA G)) (F0 m 88 ls []) := by
          intro k
          induction k with
          | zero =>
            intro x21 S22 H locs ls hf hR hS hE ok_this hl
            exact absurd hf (by rw [f_X11_draw_L88]; exact fun h => by cases h)
          | succ k ih =>
            intro x21 S22 H locs ls hf hR hS hE ok_this hl
            rw [f_X11_draw_L88] at hf
            obtain ⟨rec88_20, erec88_20, hf⟩ := jn_of2 hf
            have hL88_19 : ∀ (x21 : Int32) (S22 : MS) (H : Heap) (locs : List Loc) (ls : Array Slot), rec88_20 x21 S22 = some (ro, So) → Rp G S22 H → va_S (gA G) s.heap H locs → Ex S S22 → Ok S22 this 11 → lv_has ls 3 [(0, .ref this), (1, .int a1), (2, .int x21)] → W p l e rX11_draw s m args below meth c H locs 0 0 (MQ below (Qn G S (some (.int ro)) So) args s 0 0 (gA G)) (F0 m 88 ls []) := by
              intro x21 S22 H locs ls hf hR hS hE ok_this hl
              rw [erec88_20] at hf
              exact ih x21 S22 _ _ _ hf hR hS hE ok_this hl
            refine lv_iload_n hx hb dX11_draw_88 rfl (lv_at hl 2 rfl) ?_
            refine lv_aload_n hx hb dX11_draw_89 rfl (lv_at hl 0 rfl) ?_
            obtain ⟨q23, hq24, ok_q23, hf⟩ := gR_of hf
            refine gf_RX11_13 hC hR ok_this hq24 dX11_draw_90 ?_
            refine lv_sipush (v := 700) hx hb dX11_draw_93 (by decide) ?_
            refine lv_iload_n hx hb dX11_draw_96 rfl (lv_at hl 1 rfl) ?_
            refine lv_imul hx hb dX11_draw_97 ?_
            obtain ⟨hi25, hf⟩ := ck_of hf
            refine r_iald hC hR ok_q23 hi25 dX11_draw_98 ?_
            refine lv_icmp_ge (tgt := 128) hx hb dX11_draw_99 (by decide) (fun hc => ?_) (fun hc => ?_)
            · replace hf := if_t hf hc
              refine lv_iconst (v := -1) hx hb dX11_draw_128 (by decide) ?_
              exact r_iret hC hR hS hE hf dX11_draw_129
            · replace hf := if_f hf hc
              refine lv_aload_n hx hb dX11_draw_102 rfl (lv_at hl 0 rfl) ?_
              refine lv_sipush (v := 700) hx hb dX11_draw_103 (by decide) ?_
              refine lv_iload_n hx hb dX11_draw_106 rfl (lv_at hl 1 rfl) ?_
              refine lv_imul hx hb dX11_draw_107 ?_
              refine lv_iconst (v := 1) hx hb dX11_draw_108 (by decide) ?_
              refine lv_iadd hx hb dX11_draw_109 ?_
              refine lv_iconst (v := 4) hx hb dX11_draw_110 (by decide) ?_
              refine lv_iload_n hx hb dX11_draw_111 rfl (lv_at hl 2 rfl) ?_
              refine lv_imul hx hb dX11_draw_112 ?_
              refine lv_iadd hx hb dX11_draw_113 ?_
              obtain ⟨x29, S26, hc27, hf⟩ := cl_of hf
              refine cl_RX11_263 (As := [.int ((((700 : Int32) * a1) + (1 : Int32)) + ((4 : Int32) * x21))]) (rest := []) hC hR hS (c_X11_isDone l G n this ((((700 : Int32) * a1) + (1 : Int32)) + ((4 : Int32) * x21)) S22 x29 S26 hc27 ok_this) ok_this rfl ⟨Nat.le_of_ble_eq_true rfl, Nat.le_of_ble_eq_true rfl⟩ hl.1 rfl (Nat.le_of_ble_eq_true rfl) dX11_draw_114 (Nat.zero_le _) (Nat.zero_le _) (fun H locs hR hS hE28 => ?_)
              have ok_this := hE28 _ _ ok_this
              have ok_q23 := hE28 _ _ ok_q23
              have hE := hE.tr hE28
              refine lv_if_ne (tgt := 122) hx hb dX11_draw_117 (by decide) (fun hc => ?_) (fun hc => ?_)
              · replace hf := if_f hf hc
                refine r_iinc (n := 1) (z := 1) (lv' := fun x30 => [(2, .int x30), (0, .ref this), (1, .int a1)]) hx hb dX11_draw_122 hl (k := 2) rfl (by decide) (by decide) (fun _ => rfl) hf (fun x30 ls hf hl => ?_)
                refine lv_goto (tgt := 88) hx hb dX11_draw_125 (by decide) ?_
                exact hL88_19 x30 S26 _ _ _ hf hR hS hE ok_this (lv_sub hl [1, 2, 0] rfl)
              · replace hf := if_t hf hc
                refine lv_iload_n hx hb dX11_draw_120 rfl (lv_at hl 2 rfl) ?_
                exact r_iret hC hR hS hE hf dX11_draw_121
        exact hh31 n (0 : Int32) S18 _ _ _ hf hR hS hE ok_this (lv_sub hl [1, 2, 0] rfl)
      have hh47 : ∀ k : Nat, ∀ (x34 : Int32) (S35 : MS) (H : Heap) (locs : List Loc) (ls : Array Slot), f_X11_draw_L52 n this a1 j86_17 k x34 S35 = some (ro, So) → Rp G S35 H → va_S (gA G) s.heap H locs → Ex S S35 → Ok S35 this 11 → lv_has ls 3 [(0, .ref this), (1, .int a1), (2, .int x34)] → W p l e rX11_draw s m args below meth c H locs 0 0 (MQ below (Qn G S (some (.int ro)) So) args s 0 0 (gA G)) (F0 m 52 ls []) := by
        intro k
        induction k with
        | zero =>
          intro x34 S35 H locs ls hf hR hS hE ok_this hl
          exact absurd hf (by rw [f_X11_draw_L52]; exact fun h => by cases h)
        | succ k ih =>
          intro x34 S35 H locs ls hf hR hS hE ok_this hl
          rw [f_X11_draw_L52] at hf
          obtain ⟨rec52_33, erec52_33, hf⟩ := jn_of2 hf
          have hL52_32 : ∀ (x34 : Int32) (S35 : MS) (H : Heap) (locs : List Loc) (ls : Array Slot), rec52_33 x34 S35 = some (ro, So) → Rp G S35 H → va_S (gA G) s.heap H locs → Ex S S35 → Ok S35 this 11 → lv_has ls 3 [(0, .ref this), (1, .int a1), (2, .int x34)] → W p l e rX11_draw s m args below meth c H locs 0 0 (MQ below (Qn G S (some (.int ro)) So) args s 0 0 (gA G)) (F0 m 52 ls []) := by
            intro x34 S35 H locs ls hf hR hS hE ok_this hl
            rw [erec52_33] at hf
            exact ih x34 S35 _ _ _ hf hR hS hE ok_this hl
          refine lv_iload_n hx hb dX11_draw_52 rfl (lv_at hl 2 rfl) ?_
          refine lv_bipush (v := 48) hx hb dX11_draw_53 (by decide) ?_
          refine lv_icmp_ge (tgt := 86) hx hb dX11_draw_55 (by decide) (fun hc => ?_) (fun hc => ?_)
          · replace hf := if_t hf hc
            exact hj86_16 S35 _ _ _ hf hR hS hE ok_this (lv_sub hl [0, 1] rfl)
          · replace hf := if_f hf hc
            refine lv_aload_n hx hb dX11_draw_58 rfl (lv_at hl 0 rfl) ?_
            obtain ⟨q36, hq37, ok_q36, hf⟩ := gR_of hf
            refine gf_RX11_7 hC hR ok_this hq37 dX11_draw_59 ?_
            refine lv_sipush (v := 240) hx hb dX11_draw_62 (by decide) ?_
            refine lv_iload_n hx hb dX11_draw_65 rfl (lv_at hl 2 rfl) ?_
            refine lv_iadd hx hb dX11_draw_66 ?_
            refine lv_iconst (v := -1) hx hb dX11_draw_67 (by decide) ?_
            obtain ⟨hi38, hf⟩ := ck_of hf
            refine rB_iast hC hR hS ok_q36 hi38 dX11_draw_68 hf (fun S39 H locs hf hR hS hE40 => ?_)
            have ok_this := hE40 _ _ ok_this
            have ok_q36 := hE40 _ _ ok_q36
            have hE := hE.tr hE40
            refine lv_aload_n hx hb dX11_draw_69 rfl (lv_at hl 0 rfl) ?_
            obtain ⟨q41, hq42, ok_q41, hf⟩ := gR_of hf
            refine gf_RX11_7 hC hR ok_this hq42 dX11_draw_70 ?_
            refine lv_sipush (v := 290) hx hb dX11_draw_73 (by decide) ?_
            refine lv_iload_n hx hb dX11_draw_76 rfl (lv_at hl 2 rfl) ?_
            refine lv_iadd hx hb dX11_draw_77 ?_
            refine lv_iconst (v := 0) hx hb dX11_draw_78 (by decide) ?_
            obtain ⟨hi43, hf⟩ := ck_of hf
            refine rB_iast hC hR hS ok_q41 hi43 dX11_draw_79 hf (fun S44 H locs hf hR hS hE45 => ?_)
            have ok_this := hE45 _ _ ok_this
            have ok_q36 := hE45 _ _ ok_q36
            have ok_q41 := hE45 _ _ ok_q41
            have hE := hE.tr hE45
            refine r_iinc (n := 1) (z := 1) (lv' := fun x46 => [(2, .int x46), (0, .ref this), (1, .int a1)]) hx hb dX11_draw_80 hl (k := 2) rfl (by decide) (by decide) (fun _ => rfl) hf (fun x46 ls hf hl => ?_)
            refine lv_goto (tgt := 52) hx hb dX11_draw_83 (by decide) ?_
            exact hL52_32 x46 S44 _ _ _ hf hR hS hE ok_this (lv_sub hl [1, 2, 0] rfl)
      exact hh47 n (0 : Int32) S15 _ _ _ hf hR hS hE ok_this (lv_sub hl [1, 2, 0] rfl)
    have hh59 : ∀ k : Nat, ∀ (x51 : Int32) (S52 : MS) (H : Heap) (locs : List Loc) (ls : Array Slot), f_X11_draw_L28 n this a1 j50_14 k x51 S52 = some (ro, So) → Rp G S52 H → va_S (gA G) s.heap H locs → Ex S S52 → Ok S52 this 11 → lv_has ls 3 [(0, .ref this), (1, .int a1), (2, .int x51)] → W p l e rX11_draw s m args below meth c H locs 0 0 (MQ below (Qn G S (some (.int ro)) So) args s 0 0 (gA G)) (F0 m 28 ls []) := by
      intro k
      induction k with
      | zero =>
        intro x51 S52 H locs ls hf hR hS hE ok_this hl
        exact absurd hf (by rw [f_X11_draw_L28]; exact fun h => by cases h)
      | succ k ih =>
        intro x51 S52 H locs ls hf hR hS hE ok_this hl
        rw [f_X11_draw_L28] at hf
        obtain ⟨rec28_50, erec28_50, hf⟩ := jn_of2 hf
        have hL28_49 : ∀ (x51 : Int32) (S52 : MS) (H : Heap) (locs : List Loc) (ls : Array Slot), rec28_50 x51 S52 = some (ro, So) → Rp G S52 H → va_S (gA G) s.heap H locs → Ex S S52 → Ok S52 this 11 → lv_has ls 3 [(0, .ref this), (1, .int a1), (2, .int x51)] → W p l e rX11_draw s m args below meth c H locs 0 0 (MQ below (Qn G S (some (.int ro)) So) args s 0 0 (gA G)) (F0 m 28 ls []) := by
          intro x51 S52 H locs ls hf hR hS hE ok_this hl
          rw [erec28_50] at hf
          exact ih x51 S52 _ _ _ hf hR hS hE ok_this hl
        refine lv_iload_n hx hb dX11_draw_28 rfl (lv_at hl 2 rfl) ?_
        refine lv_bipush (v := 6) hx hb dX11_draw_29 (by decide) ?_
        refine lv_icmp_ge (tgt := 50) hx hb dX11_draw_31 (by decide) (fun hc => ?_) (fun hc => ?_)
        · replace hf := if_t hf hc
          exact hj50_13 S52 _ _ _ hf hR hS hE ok_this (lv_sub hl [0, 1] rfl)
        · replace hf := if_f hf hc
          refine lv_aload_n hx hb dX11_draw_34 rfl (lv_at hl 0 rfl) ?_
          obtain ⟨q53, hq54, ok_q53, hf⟩ := gR_of hf
          refine gf_RX11_7 hC hR ok_this hq54 dX11_draw_35 ?_
          refine lv_bipush (v := 85) hx hb dX11_draw_38 (by decide) ?_
          refine lv_iload_n hx hb dX11_draw_40 rfl (lv_at hl 2 rfl) ?_
          refine lv_iadd hx hb dX11_draw_41 ?_
          refine lv_iconst (v := -1) hx hb dX11_draw_42 (by decide) ?_
          obtain ⟨hi55, hf⟩ := ck_of hf
          refine rB_iast hC hR hS ok_q53 hi55 dX11_draw_43 hf (fun S56 H locs hf hR hS hE57 => ?_)
          have ok_this := hE57 _ _ ok_this
          have ok_q53 := hE57 _ _ ok_q53
          have hE := hE.tr hE57
          refine r_iinc (n := 1) (z := 1) (lv' := fun x58 => [(2, .int x58), (0, .ref this), (1, .int a1)]) hx hb dX11_draw_44 hl (k := 2) rfl (by decide) (by decide) (fun _ => rfl) hf (fun x58 ls hf hl => ?_)
          refine lv_goto (tgt := 28) hx hb dX11_draw_47 (by decide) ?_
          exact hL28_49 x58 S56 _ _ _ hf hR hS hE ok_this (lv_sub hl [1, 2, 0] rfl)
    exact hh59 n (0 : Int32) S11 _ _ _ hf hR hS hE ok_this (lv_sub hl [1, 2, 0] rfl)
  · replace hf := if_t hf hc
    refine lv_bipush (v := -2) hx hb dX11_draw_16 (by decide) ?_
    exact r_iret hC hR hS hE hf dX11_draw_18
abbrev rX11_clip : Room := { frames := 0, cells := 0, slots := 0, locals := 0 }
def f_X11_clip (_n : Nat) (a1 : Int64) (S : MS) : Option (Int64 × MS) :=
  (if (lg_cmp a1 (1000000 : Int64)) ≤ 0 then (if 0 ≤ (lg_cmp a1 (-1000000 : Int64)) then some (a1, S) else some ((-1000000 : Int64), S)) else some ((1000000 : Int64), S))
set_option maxRecDepth 100000 in
set_option maxHeartbeats 4000000 in
theorem c_X11_clip (l : Launch) (G : Gx) (n : Nat) (a1 : Int64) (S : MS) (ro : Int64) (So : MS) (hf : f_X11_clip n a1 S = some (ro, So)) : Cn G l yX11_clip cX11_clip 2 (some .long) rX11_clip [.long a1] S (some (.long ro)) So := by
  refine Cn.of (by decide) (Nat.le_of_ble_eq_true rfl) ?_
  intro p e s m args below meth c hC hname hR ls hl
  have hC : Cx G RX11 cX11_clip 2 (some .long) p s m args meth c := hC
  have hl : lv_has ls 2 [(0, .long a1)] := hl
  have hx := hC.x
  have hb := hC.b
  have hS : va_S (gA G) s.heap s.heap [] := va_S.rf
  have hE : Ex S S := Ex.rf S
  unfold f_X11_clip at hf
  refine lv_lload_n hx hb dX11_clip_0 rfl (lv_at hl 0 rfl) ?_
  refine lv_ldc2 (v := 1000000) hx hb hC.ow (hC.ts _ (bg34 _ (List.mem_of_getElem? (i := 21) rfl))) dX11_clip_1 ?_
  refine W.lcmp hx hb dX11_clip_4 ?_
  refine lv_if_le (tgt := 14) hx hb dX11_clip_5 (by decide) (fun hc => ?_) (fun hc => ?_)
  · replace hf := if_t hf hc
    refine lv_lload_n hx hb dX11_clip_14 rfl (lv_at hl 0 rfl) ?_
    refine lv_ldc2 (v := -1000000) hx hb hC.ow (hC.ts _ (bg34 _ (List.mem_of_getElem? (i := 22) rfl))) dX11_clip_15 ?_
    refine W.lcmp hx hb dX11_clip_18 ?_
    refine lv_if_ge (tgt := 28) hx hb dX11_clip_19 (by decide) (fun hc => ?_) (fun hc => ?_)
    · replace hf := if_t hf hc
      refine lv_lload_n hx hb dX11_clip_28 rfl (lv_at hl 0 rfl) ?_
      exact r_lret hC hR hS hE hf dX11_clip_29
    · replace hf := if_f hf hc
      refine lv_ldc2 (v := -1000000) hx hb hC.ow (hC.ts _ (bg34 _ (List.mem_of_getElem? (i := 22) rfl))) dX11_clip_22 ?_
      refine lv_goto (tgt := 29) hx hb dX11_clip_25 (by decide) ?_
      exact r_lret hC hR hS hE hf dX11_clip_29
  · replace hf := if_f hf hc
    refine lv_ldc2 (v := 1000000) hx hb hC.ow (hC.ts _ (bg34 _ (List.mem_of_getElem? (i := 21) rfl))) dX11_clip_8 ?_
    refine lv_goto (tgt := 29) hx hb dX11_clip_11 (by decide) ?_
    exact r_lret hC hR hS hE hf dX11_clip_29
abbrev rX11_two : Room := { frames := 1, cells := 0, slots := 0, locals := 21 }
def f_X11_two (n : Nat) (a1 : Int32) (a2 : Int64) (a3 : Int64) (S : MS) : Option (Int64 × MS) :=
  jn (fun (S3 : MS) => (if (lg_cmp a3 (0 : Int64)) = 0 then some ((0 : Int64), S3) else dvl a3 (cl (f_X11_clip n (a2 / a3) S3) fun x8 S5 => some (x8, S5)))) fun j85_2 => (if a1 = (3 : Int32) then cl (f_X11_clip n (a2 + a3) S) fun x12 S9 => some (x12, S9) else (if a1 = (4 : Int32) then cl (f_X11_clip n (a2 - a3) S) fun x16 S13 => some (x16, S13) else (if a1 = (5 : Int32) then cl (f_X11_clip n (a2 * a3) S) fun x20 S17 => some (x20, S17) else (if a1 = (6 : Int32) then j85_2 S else (if a1 = (7 : Int32) then (if 0 ≤ (lg_cmp a2 a3) then some (a3, S) else some (a2, S)) else (if a1 = (8 : Int32) then (if (lg_cmp a2 a3) ≤ 0 then some (a3, S) else some (a2, S)) else j85_2 S))))))
set_option maxRecDepth 100000 in
set_option maxHeartbeats 4000000 in
theorem c_X11_two (l : Launch) (G : Gx) (n : Nat) (a1 : Int32) (a2 : Int64) (a3 : Int64) (S : MS) (ro : Int64) (So : MS) (hf : f_X11_two n a1 a2 a3 S = some (ro, So)) : Cn G l yX11_two cX11_two 5 (some .long) rX11_two [.int a1, .long a2, .long a3] S (some (.long ro)) So := by
  refine Cn.of (by decide) (Nat.le_of_ble_eq_true rfl) ?_
  intro p e s m args below meth c hC hname hR ls hl
  have hC : Cx G RX11 cX11_two 5 (some .long) p s m args meth c := hC
  have hl : lv_has ls 5 [(0, .int a1), (1, .long a2), (3, .long a3)] := hl
  have hx := hC.x
  have hb := hC.b
  have hS : va_S (gA G) s.heap s.heap [] := va_S.rf
  have hE : Ex S S := Ex.rf S
  unfold f_X11_two at hf
  refine lv_iload_n hx hb dX11_two_0 rfl (lv_at hl 0 rfl) ?_
  obtain ⟨j85_2, ej85_2, hf⟩ := jn_of1 hf
  have hj85_1 : ∀ (S3 : MS) (H : Heap) (locs : List Loc) (ls : Array Slot), j85_2 S3 = some (ro, So) → Rp G S3 H → va_S (gA G) s.heap H locs → Ex S S3 → lv_has ls 5 [(1, .long a2), (3, .long a3)] → W p l e rX11_two s m args below meth c H locs 0 0 (MQ below (Qn G S (some (.long ro)) So) args s 0 0 (gA G)) (F0 m 85 ls []) := by
    intro S3 H locs ls hf hR hS hE  hl
    rw [ej85_2] at hf
    refine lv_lload_n hx hb dX11_two_85 rfl (lv_at hl 1 rfl) ?_
    refine lv_lconst (v := 0) hx hb dX11_two_86 (by decide) ?_
    refine W.lcmp hx hb dX11_two_87 ?_
    refine lv_if_ne (tgt := 95) hx hb dX11_two_88 (by decide) (fun hc => ?_) (fun hc => ?_)
    · replace hf := if_f hf hc
      refine lv_lload_n hx hb dX11_two_95 rfl (lv_at hl 0 rfl) ?_
      refine lv_lload_n hx hb dX11_two_96 rfl (lv_at hl 1 rfl) ?_
      obtain ⟨hn4, hf⟩ := dvl_of hf
      refine lv_ldiv hx hb dX11_two_97 hn4 ?_
      obtain ⟨x8, S5, hc6, hf⟩ := cl_of hf
      refine cl_RX11_270 (As := [.long (a2 / a3)]) (rest := []) hC hR hS (c_X11_clip l G n (a2 / a3) S3 x8 S5 hc6 ) rfl ⟨Nat.le_of_ble_eq_true rfl, Nat.le_of_ble_eq_true rfl⟩ hl.1 rfl (Nat.le_of_ble_eq_true rfl) dX11_two_98 (Nat.zero_le _) (Nat.zero_le _) (fun H locs hR hS hE7 => ?_)
      have hE := hE.tr hE7
      exact r_lret hC hR hS hE hf dX11_two_101
    · replace hf := if_t hf hc
      refine lv_lconst (v := 0) hx hb dX11_two_91 (by decide) ?_
      refine lv_goto (tgt := 101) hx hb dX11_two_92 (by decide) ?_
      exact r_lret hC hR hS hE hf dX11_two_101
  by_cases hc0 : a1 = (3 : Int32)
  · replace hf := if_t hf hc0
    rw [hc0]
    refine lv_tableIn (tgt := 40) hx hb dX11_two_1 (by decide) (by decide) rfl (by decide) ?_
    refine lv_lload_n hx hb dX11_two_40 rfl (lv_at hl 1 rfl) ?_
    refine lv_lload_n hx hb dX11_two_41 rfl (lv_at hl 2 rfl) ?_
    refine lv_ladd hx hb dX11_two_42 ?_
    obtain ⟨x12, S9, hc10, hf⟩ := cl_of hf
    refine cl_RX11_270 (As := [.long (a2 + a3)]) (rest := []) hC hR hS (c_X11_clip l G n (a2 + a3) S x12 S9 hc10 ) rfl ⟨Nat.le_of_ble_eq_true rfl, Nat.le_of_ble_eq_true rfl⟩ hl.1 rfl (Nat.le_of_ble_eq_true rfl) dX11_two_43 (Nat.zero_le _) (Nat.zero_le _) (fun H locs hR hS hE11 => ?_)
    have hE := hE.tr hE11
    exact r_lret hC hR hS hE hf dX11_two_46
  · replace hf := if_f hf hc0
    by_cases hc1 : a1 = (4 : Int32)
    · replace hf := if_t hf hc1
      rw [hc1]
      refine lv_tableIn (tgt := 47) hx hb dX11_two_1 (by decide) (by decide) rfl (by decide) ?_
      refine lv_lload_n hx hb dX11_two_47 rfl (lv_at hl 1 rfl) ?_
      refine lv_lload_n hx hb dX11_two_48 rfl (lv_at hl 2 rfl) ?_
      refine lv_lsub hx hb dX11_two_49 ?_
      obtain ⟨x16, S13, hc14, hf⟩ := cl_of hf
      refine cl_RX11_270 (As := [.long (a2 - a3)]) (rest := []) hC hR hS (c_X11_clip l G n (a2 - a3) S x16 S13 hc14 ) rfl ⟨Nat.le_of_ble_eq_true rfl, Nat.le_of_ble_eq_true rfl⟩ hl.1 rfl (Nat.le_of_ble_eq_true rfl) dX11_two_50 (Nat.zero_le _) (Nat.zero_le _) (fun H locs hR hS hE15 => ?_)
      have hE := hE.tr hE15
      exact r_lret hC hR hS hE hf dX11_two_53
    · replace hf := if_f hf hc1
      by_cases hc2 : a1 = (5 : Int32)
      · replace hf := if_t hf hc2
        rw [hc2]
        refine lv_tableIn (tgt := 54) hx hb dX11_two_1 (by decide) (by decide) rfl (by decide) ?_
        refine lv_lload_n hx hb dX11_two_54 rfl (lv_at hl 1 rfl) ?_
        refine lv_lload_n hx hb dX11_two_55 rfl (lv_at hl 2 rfl) ?_
        refine lv_lmul hx hb dX11_two_56 ?_
        obtain ⟨x20, S17, hc18, hf⟩ := cl_of hf
        refine cl_RX11_270 (As := [.long (a2 * a3)]) (rest := []) hC hR hS (c_X11_clip l G n (a2 * a3) S x20 S17 hc18 ) rfl ⟨Nat.le_of_ble_eq_true rfl, Nat.le_of_ble_eq_true rfl⟩ hl.1 rfl (Nat.le_of_ble_eq_true rfl) dX11_two_57 (Nat.zero_le _) (Nat.zero_le _) (fun H locs hR hS hE19 => ?_)
        have hE := hE.tr hE19
        exact r_lret hC hR hS hE hf dX11_two_60
      · replace hf := if_f hf hc2
        by_cases hc3 : a1 = (6 : Int32)
        · replace hf := if_t hf hc3
          rw [hc3]
          refine lv_tableIn (tgt := 85) hx hb dX11_two_1 (by decide) (by decide) rfl (by decide) ?_
          exact hj85_1 S _ _ _ hf hR hS hE (lv_sub hl [1, 2] rfl)
        · replace hf := if_f hf hc3
          by_cases hc4 : a1 = (7 : Int32)
          · replace hf := if_t hf hc4
            rw [hc4]
            refine lv_tableIn (tgt := 61) hx hb dX11_two_1 (by decide) (by decide) rfl (by decide) ?_
            refine lv_lload_n hx hb dX11_two_61 rfl (lv_at hl 1 rfl) ?_
            refine lv_lload_n hx hb dX11_two_62 rfl (lv_at hl 2 rfl) ?_
            refine W.lcmp hx hb dX11_two_63 ?_
            refine lv_if_ge (tgt := 71) hx hb dX11_two_64 (by decide) (fun hc => ?_) (fun hc => ?_)
            · replace hf := if_t hf hc
              refine lv_lload_n hx hb dX11_two_71 rfl (lv_at hl 2 rfl) ?_
              exact r_lret hC hR hS hE hf dX11_two_72
            · replace hf := if_f hf hc
              refine lv_lload_n hx hb dX11_two_67 rfl (lv_at hl 1 rfl) ?_
              refine lv_goto (tgt := 72) hx hb dX11_two_68 (by decide) ?_
              exact r_lret hC hR hS hE hf dX11_two_72
          · replace hf := if_f hf hc4
            by_cases hc5 : a1 = (8 : Int32)
            · replace hf := if_t hf hc5
              rw [hc5]
              refine lv_tableIn (tgt := 73) hx hb dX11_two_1 (by decide) (by decide) rfl (by decide) ?_
              refine lv_lload_n hx hb dX11_two_73 rfl (lv_at hl 1 rfl) ?_
              refine lv_lload_n hx hb dX11_two_74 rfl (lv_at hl 2 rfl) ?_
              refine W.lcmp hx hb dX11_two_75 ?_
              refine lv_if_le (tgt := 83) hx hb dX11_two_76 (by decide) (fun hc => ?_) (fun hc => ?_)
              · replace hf := if_t hf hc
                refine lv_lload_n hx hb dX11_two_83 rfl (lv_at hl 2 rfl) ?_
                exact r_lret hC hR hS hE hf dX11_two_84
              · replace hf := if_f hf hc
                refine lv_lload_n hx hb dX11_two_79 rfl (lv_at hl 1 rfl) ?_
                refine lv_goto (tgt := 84) hx hb dX11_two_80 (by decide) ?_
                exact r_lret hC hR hS hE hf dX11_two_84
            · replace hf := if_f hf hc5
              refine lv_tableOut (tgt := 85) hx hb dX11_two_1 (by have := ne_toInt hc0 (z := 3) (by decide); have := ne_toInt hc1 (z := 4) (by decide); have := ne_toInt hc2 (z := 5) (by decide); have := ne_toInt hc3 (z := 6) (by decide); have := ne_toInt hc4 (z := 7) (by decide); have := ne_toInt hc5 (z := 8) (by decide); omega) (by decide) ?_
              exact hj85_1 S _ _ _ hf hR hS hE (lv_sub hl [1, 2] rfl)
abbrev rX11_isAsked : Room := { frames := 0, cells := 0, slots := 0, locals := 0 }
def f_X11_isAsked (_n : Nat) (a1 : Int32) (a2 : Int64) (a3 : Int64) (S : MS) : Option (Int32 × MS) :=
  (if a1 = (10 : Int32) then (if 0 ≤ (lg_cmp a2 a3) then zb (0 : Int32) (some ((0 : Int32), S)) else zb (1 : Int32) (some ((1 : Int32), S))) else (if a1 = (11 : Int32) then (if 0 < (lg_cmp a2 a3) then zb (0 : Int32) (some ((0 : Int32), S)) else zb (1 : Int32) (some ((1 : Int32), S))) else (if a1 = (12 : Int32) then (if (lg_cmp a2 a3) ≤ 0 then zb (0 : Int32) (some ((0 : Int32), S)) else zb (1 : Int32) (some ((1 : Int32), S))) else (if a1 = (13 : Int32) then (if (lg_cmp a2 a3) < 0 then zb (0 : Int32) (some ((0 : Int32), S)) else zb (1 : Int32) (some ((1 : Int32), S))) else (if a1 = (14 : Int32) then (if (lg_cmp a2 a3) = 0 then zb (1 : Int32) (some ((1 : Int32), S)) else zb (0 : Int32) (some ((0 : Int32), S))) else (if (lg_cmp a2 a3) = 0 then zb (0 : Int32) (some ((0 : Int32), S)) else zb (1 : Int32) (some ((1 : Int32), S))))))))
set_option maxRecDepth 100000 in
set_option maxHeartbeats 4000000 in
theorem c_X11_isAsked (l : Launch) (G : Gx) (n : Nat) (a1 : Int32) (a2 : Int64) (a3 : Int64) (S : MS) (ro : Int32) (So : MS) (hf : f_X11_isAsked n a1 a2 a3 S = some (ro, So)) : Cn G l yX11_isAsked cX11_isAsked 5 (some .boolean) rX11_isAsked [.int a1, .long a2, .long a3] S (some (.int ro)) So := by
  refine Cn.of (by decide) (Nat.le_of_ble_eq_true rfl) ?_
  intro p e s m args below meth c hC hname hR ls hl
  have hC : Cx G RX11 cX11_isAsked 5 (some .boolean) p s m args meth c := hC
  have hl : lv_has ls 5 [(0, .int a1), (1, .long a2), (3, .long a3)] := hl
  have hx := hC.x
  have hb := hC.b
  have hS : va_S (gA G) s.heap s.heap [] := va_S.rf
  have hE : Ex S S := Ex.rf S
  unfold f_X11_isAsked at hf
  refine lv_iload_n hx hb dX11_isAsked_0 rfl (lv_at hl 0 rfl) ?_
  refine lv_bipush (v := 10) hx hb dX11_isAsked_1 (by decide) ?_
  refine lv_icmp_ne (tgt := 20) hx hb dX11_isAsked_3 (by decide) (fun hc => ?_) (fun hc => ?_)
  · replace hf := if_f hf hc
    refine lv_iload_n hx hb dX11_isAsked_20 rfl (lv_at hl 0 rfl) ?_
    refine lv_bipush (v := 11) hx hb dX11_isAsked_21 (by decide) ?_
    refine lv_icmp_ne (tgt := 40) hx hb dX11_isAsked_23 (by decide) (fun hc => ?_) (fun hc => ?_)
    · replace hf := if_f hf hc
      refine lv_iload_n hx hb dX11_isAsked_40 rfl (lv_at hl 0 rfl) ?_
      refine lv_bipush (v := 12) hx hb dX11_isAsked_41 (by decide) ?_
      refine lv_icmp_ne (tgt := 60) hx hb dX11_isAsked_43 (by decide) (fun hc => ?_) (fun hc => ?_)
      · replace hf := if_f hf hc
        refine lv_iload_n hx hb dX11_isAsked_60 rfl (lv_at hl 0 rfl) ?_
        refine lv_bipush (v := 13) hx hb dX11_isAsked_61 (by decide) ?_
        refine lv_icmp_ne (tgt := 80) hx hb dX11_isAsked_63 (by decide) (fun hc => ?_) (fun hc => ?_)
        · replace hf := if_f hf hc
          refine lv_iload_n hx hb dX11_isAsked_80 rfl (lv_at hl 0 rfl) ?_
          refine lv_bipush (v := 14) hx hb dX11_isAsked_81 (by decide) ?_
          refine lv_icmp_ne (tgt := 100) hx hb dX11_isAsked_83 (by decide) (fun hc => ?_) (fun hc => ?_)
          · replace hf := if_f hf hc
            refine lv_lload_n hx hb dX11_isAsked_100 rfl (lv_at hl 1 rfl) ?_
            refine lv_lload_n hx hb dX11_isAsked_101 rfl (lv_at hl 2 rfl) ?_
            refine W.lcmp hx hb dX11_isAsked_102 ?_
            refine lv_if_eq (tgt := 110) hx hb dX11_isAsked_103 (by decide) (fun hc => ?_) (fun hc => ?_)
            · replace hf := if_t hf hc
              refine lv_iconst (v := 0) hx hb dX11_isAsked_110 (by decide) ?_
              exact r_zret hC hR hS hE hf dX11_isAsked_111
            · replace hf := if_f hf hc
              refine lv_iconst (v := 1) hx hb dX11_isAsked_106 (by decide) ?_
              refine lv_goto (tgt := 111) hx hb dX11_isAsked_107 (by decide) ?_
              exact r_zret hC hR hS hE hf dX11_isAsked_111
          · replace hf := if_t hf hc
            refine lv_lload_n hx hb dX11_isAsked_86 rfl (lv_at hl 1 rfl) ?_
            refine lv_lload_n hx hb dX11_isAsked_87 rfl (lv_at hl 2 rfl) ?_
            refine W.lcmp hx hb dX11_isAsked_88 ?_
            refine lv_if_ne (tgt := 96) hx hb dX11_isAsked_89 (by decide) (fun hc => ?_) (fun hc => ?_)
            · replace hf := if_f hf hc
              refine lv_iconst (v := 0) hx hb dX11_isAsked_96 (by decide) ?_
              refine lv_goto (tgt := 111) hx hb dX11_isAsked_97 (by decide) ?_
              exact r_zret hC hR hS hE hf dX11_isAsked_111
            · replace hf := if_t hf hc
              refine lv_iconst (v := 1) hx hb dX11_isAsked_92 (by decide) ?_
              refine lv_goto (tgt := 111) hx hb dX11_isAsked_93 (by decide) ?_
              exact r_zret hC hR hS hE hf dX11_isAsked_111
        · replace hf := if_t hf hc
          refine lv_lload_n hx hb dX11_isAsked_66 rfl (lv_at hl 1 rfl) ?_
          refine lv_lload_n hx hb dX11_isAsked_67 rfl (lv_at hl 2 rfl) ?_
          refine W.lcmp hx hb dX11_isAsked_68 ?_
          refine lv_if_lt (tgt := 76) hx hb dX11_isAsked_69 (by decide) (fun hc => ?_) (fun hc => ?_)
          · replace hf := if_t hf hc
            refine lv_iconst (v := 0) hx hb dX11_isAsked_76 (by decide) ?_
            refine lv_goto (tgt := 111) hx hb dX11_isAsked_77 (by decide) ?_
            exact r_zret hC hR hS hE hf dX11_isAsked_111
          · replace hf := if_f hf hc
            refine lv_iconst (v := 1) hx hb dX11_isAsked_72 (by decide) ?_
            refine lv_goto (tgt := 111) hx hb dX11_isAsked_73 (by decide) ?_
            exact r_zret hC hR hS hE hf dX11_isAsked_111
      · replace hf := if_t hf hc
        refine lv_lload_n hx hb dX11_isAsked_46 rfl (lv_at hl 1 rfl) ?_
        refine lv_lload_n hx hb dX11_isAsked_47 rfl (lv_at hl 2 rfl) ?_
        refine W.lcmp hx hb dX11_isAsked_48 ?_
        refine lv_if_le (tgt := 56) hx hb dX11_isAsked_49 (by decide) (fun hc => ?_) (fun hc => ?_)
        · replace hf := if_t hf hc
          refine lv_iconst (v := 0) hx hb dX11_isAsked_56 (by decide) ?_
          refine lv_goto (tgt := 111) hx hb dX11_isAsked_57 (by decide) ?_
          exact r_zret hC hR hS hE hf dX11_isAsked_111
        · replace hf := if_f hf hc
          refine lv_iconst (v := 1) hx hb dX11_isAsked_52 (by decide) ?_
          refine lv_goto (tgt := 111) hx hb dX11_isAsked_53 (by decide) ?_
          exact r_zret hC hR hS hE hf dX11_isAsked_111
    · replace hf := if_t hf hc
      refine lv_lload_n hx hb dX11_isAsked_26 rfl (lv_at hl 1 rfl) ?_
      refine lv_lload_n hx hb dX11_isAsked_27 rfl (lv_at hl 2 rfl) ?_
      refine W.lcmp hx hb dX11_isAsked_28 ?_
      refine lv_if_gt (tgt := 36) hx hb dX11_isAsked_29 (by decide) (fun hc => ?_) (fun hc => ?_)
      · replace hf := if_t hf hc
        refine lv_iconst (v := 0) hx hb dX11_isAsked_36 (by decide) ?_
        refine lv_goto (tgt := 111) hx hb dX11_isAsked_37 (by decide) ?_
        exact r_zret hC hR hS hE hf dX11_isAsked_111
      · replace hf := if_f hf hc
        refine lv_iconst (v := 1) hx hb dX11_isAsked_32 (by decide) ?_
        refine lv_goto (tgt := 111) hx hb dX11_isAsked_33 (by decide) ?_
        exact r_zret hC hR hS hE hf dX11_isAsked_111
  · replace hf := if_t hf hc
    refine lv_lload_n hx hb dX11_isAsked_6 rfl (lv_at hl 1 rfl) ?_
    refine lv_lload_n hx hb dX11_isAsked_7 rfl (lv_at hl 2 rfl) ?_
    refine W.lcmp hx hb dX11_isAsked_8 ?_
    refine lv_if_ge (tgt := 16) hx hb dX11_isAsked_9 (by decide) (fun hc => ?_) (fun hc => ?_)
    · replace hf := if_t hf hc
      refine lv_iconst (v := 0) hx hb dX11_isAsked_16 (by decide) ?_
      refine lv_goto (tgt := 111) hx hb dX11_isAsked_17 (by decide) ?_
      exact r_zret hC hR hS hE hf dX11_isAsked_111
    · replace hf := if_f hf hc
      refine lv_iconst (v := 1) hx hb dX11_isAsked_12 (by decide) ?_
      refine lv_goto (tgt := 111) hx hb dX11_isAsked_13 (by decide) ?_
      exact r_zret hC hR hS hE hf dX11_isAsked_111
abbrev rX11_work : Room := { frames := 2, cells := 0, slots := 0, locals := 45 }
def f_X11_work_L47 (n : Nat) (this : Nat) (x4 : Int32) (x8 : Int32) : Nat → Int32 → Int32 → Int32 → MS → Option (MS)
  | 0, _, _, _, _ => none
  | k + 1, x15, x16, x17, S18 => jn (f_X11_work_L47 n this x4 x8 k) fun rec47_14 => gR S18 (mR S18 this 5) 12 fun q19 => ck (inb (x4 + (2 : Int32)) (mN S18 q19)) ((if (mI S18 q19 (x4 + (2 : Int32)).toNatClampNeg) ≤ x17 then some S18 else gR S18 (mR S18 this 5) 12 fun q22 => ck (inb (x8 + ((2 : Int32) * x17)) (mN S18 q22)) (bd (mI S18 q22 (x8 + ((2 : Int32) * x17)).toNatClampNeg) fun x25 => gR S18 (mR S18 this 5) 12 fun q26 => ck (inb ((x8 + ((2 : Int32) * x17)) + (1 : Int32)) (mN S18 q26)) (bd (mI S18 q26 ((x8 + ((2 : Int32) * x17)) + (1 : Int32)).toNatClampNeg) fun x29 => jn (fun (x32 : Int32) (x33 : Int32) (S34 : MS) => bd (x17 + (1 : Int32)) fun x35 => rec47_14 x32 x33 x35 S34) fun j353_31 => (if (1 : Int32) < x25 then (if x25 = (2 : Int32) then gR S18 (mR S18 this 26) 13 fun q134 => gR S18 (mR S18 this 26) 13 fun q136 => ck (inb (x15 - (1 : Int32)) (mN S18 q136)) (ck (inb (x15 - (1 : Int32)) (mN S18 q134)) (bd (sJ S18 q134 (x15 - (1 : Int32)).toNatClampNeg (-(mJ S18 q136 (x15 - (1 : Int32)).toNatClampNeg))) fun S140 => j353_31 x15 x16 S140)) else (if (10 : Int32) ≤ x25 then (if (20 : Int32) ≤ x25 then (if x25 = (20 : Int32) then gR S18 (mR S18 this 27) 14 fun q81 => gR S18 (mR S18 this 27) 14 fun q83 => ck (inb (x16 - (1 : Int32)) (mN S18 q83)) (jn (fun (q88 : Nat) (x89 : Int32) (x90 : Int32) (S91 : MS) => ck (inb x89 (mN S91 q88)) (zb x90 (bd (sI S91 q88 x89.toNatClampNeg x90) fun S94 => j353_31 x15 x16 S94))) fun j273_87 => (if (mI S18 q83 (x16 - (1 : Int32)).toNatClampNeg) = 0 then j273_87 q81 (x16 - (1 : Int32)) (1 : Int32) S18 else j273_87 q81 (x16 - (1 : Int32)) (0 : Int32) S18)) else bd (x16 + (-1 : Int32)) fun x36 => gR S18 (mR S18 this 27) 14 fun q37 => jn (fun (q41 : Nat) (x42 : Int32) (x43 : Int32) (S44 : MS) => ck (inb x42 (mN S44 q41)) (zb x43 (bd (sI S44 q41 x42.toNatClampNeg x43) fun S47 => j353_31 x15 x36 S47))) fun j352_40 => (if x25 = (21 : Int32) then gR S18 (mR S18 this 27) 14 fun q63 => ck (inb (x36 - (1 : Int32)) (mN S18 q63)) (jn (fun (q68 : Nat) (x69 : Int32) (S70 : MS) => j352_40 q68 x69 (0 : Int32) S70) fun j321_67 => (if (mI S18 q63 (x36 - (1 : Int32)).toNatClampNeg) = 0 then j321_67 q37 (x36 - (1 : Int32)) S18 else gR S18 (mR S18 this 27) 14 fun q71 => ck (inb x36 (mN S18 q71)) ((if (mI S18 q71 x36.toNatClampNeg) = 0 then j321_67 q37 (x36 - (1 : Int32)) S18 else j352_40 q37 (x36 - (1 : Int32)) (1 : Int32) S18)))) else gR S18 (mR S18 this 27) 14 fun q49 => ck (inb (x36 - (1 : Int32)) (mN S18 q49)) (jn (fun (q54 : Nat) (x55 : Int32) (S56 : MS) => j352_40 q54 x55 (1 : Int32) S56) fun j347_53 => (if (mI S18 q49 (x36 - (1 : Int32)).toNatClampNeg) = 0 then gR S18 (mR S18 this 27) 14 fun q57 => ck (inb x36 (mN S18 q57)) ((if (mI S18 q57 x36.toNatClampNeg) = 0 then j352_40 q37 (x36 - (1 : Int32)) (0 : Int32) S18 else j347_53 q37 (x36 - (1 : Int32)) S18)) else j347_53 q37 (x36 - (1 : Int32)) S18)))) else bd (x15 + (-2 : Int32)) fun x100 => gR S18 (mR S18 this 27) 14 fun q101 => gR S18 (mR S18 this 26) 13 fun q103 => ck (inb x100 (mN S18 q103)) (gR S18 (mR S18 this 26) 13 fun q106 => ck (inb (x100 + (1 : Int32)) (mN S18 q106)) (cl (f_X11_isAsked n x25 (mJ S18 q103 x100.toNatClampNeg) (mJ S18 q106 (x100 + (1 : Int32)).toNatClampNeg) S18) fun x112 S109 => ck (inb x16 (mN S109 q101)) (zb x112 (bd (sI S109 q101 x16.toNatClampNeg x112) fun S115 => bd (x16 + (1 : Int32)) fun x117 => j353_31 x100 x117 S115))))) else bd (x15 + (-1 : Int32)) fun x118 => gR S18 (mR S18 this 26) 13 fun q119 => gR S18 (mR S18 this 26) 13 fun q121 => ck (inb (x118 - (1 : Int32)) (mN S18 q121)) (gR S18 (mR S18 this 26) 13 fun q124 => ck (inb x118 (mN S18 q124)) (cl (f_X11_two n x25 (mJ S18 q121 (x118 - (1 : Int32)).toNatClampNeg) (mJ S18 q124 x118.toNatClampNeg) S18) fun x130 S127 => ck (inb (x118 - (1 : Int32)) (mN S127 q119)) (bd (sJ S127 q119 (x118 - (1 : Int32)).toNatClampNeg x130) fun S132 => j353_31 x118 x16 S132))))) else gR S18 (mR S18 this 26) 13 fun q142 => jn (fun (q146 : Nat) (x147 : Int32) (x148 : Int64) (S149 : MS) => ck (inb x147 (mN S149 q146)) (bd (sJ S149 q146 x147.toNatClampNeg x148) fun S151 => bd (x15 + (1 : Int32)) fun x153 => j353_31 x153 x16 S151)) fun j119_145 => (if x25 = 0 then j119_145 q142 x15 (x29.toInt64) S18 else gR S18 (mR S18 this 25) 12 fun q154 => ck (inb x29 (mN S18 q154)) (j119_145 q142 x15 ((mI S18 q154 x29.toNatClampNeg).toInt64) S18)))))))
def f_X11_work (n : Nat) (this : Nat) (a1 : Int32) (S : MS) : Option (MS) :=
  gR S (mR S this 0) 12 fun q1 => ck (inb (4 : Int32) (mN S q1)) (bd ((((700 : Int32) * (mI S q1 (4 : Int32).toNatClampNeg)) + (1 : Int32)) + ((4 : Int32) * a1)) fun x4 => gR S (mR S this 0) 12 fun q5 => ck (inb (4 : Int32) (mN S q5)) (bd (((700 : Int32) * (mI S q5 (4 : Int32).toNatClampNeg)) + (85 : Int32)) fun x8 => gR S (mR S this 5) 12 fun q9 => ck (inb (x4 + (1 : Int32)) (mN S q9)) (bd (mI S q9 (x4 + (1 : Int32)).toNatClampNeg) fun x12 => f_X11_work_L47 n this x4 x8 n (0 : Int32) (0 : Int32) x12 S)))
set_option maxRecDepth 100000 in
set_option maxHeartbeats 4000000 in
theorem c_X11_work (l : Launch) (G : Gx) (n : Nat) (this : Nat) (a1 : Int32) (S : MS) (So : MS) (hf : f_X11_work n this a1 S = some So) (ok_this : Ok S this 11) : Cn G l yX11_work cX11_work 9 none rX11_work [.ref this, .int a1] S none So := by
  refine Cn.of (by decide) (Nat.le_of_ble_eq_true rfl) ?_
  intro p e s m args below meth c hC hname hR ls hl
  have hC : Cx G RX11 cX11_work 9 none p s m args meth c := hC
  have hl : lv_has ls 9 [(0, .ref this), (1, .int a1)] := hl
  have hx := hC.x
  have hb := hC.b
  have hS : va_S (gA G) s.heap s.heap [] := va_S.rf
  have hE : Ex S S := Ex.rf S
  unfold f_X11_work at hf
  refine lv_sipush (v := 700) hx hb dX11_work_0 (by decide) ?_
  refine lv_aload_n hx hb dX11_work_3 rfl (lv_at hl 0 rfl) ?_
  obtain ⟨q1, hq2, ok_q1, hf⟩ := gR_of hf
  refine gf_RX11_7 hC hR ok_this hq2 dX11_work_4 ?_
  refine lv_iconst (v := 4) hx hb dX11_work_7 (by decide) ?_
  obtain ⟨hi3, hf⟩ := ck_of hf
  refine r_iald hC hR ok_q1 hi3 dX11_work_8 ?_
  refine lv_imul hx hb dX11_work_9 ?_
  refine lv_iconst (v := 1) hx hb dX11_work_10 (by decide) ?_
  refine lv_iadd hx hb dX11_work_11 ?_
  refine lv_iconst (v := 4) hx hb dX11_work_12 (by decide) ?_
  refine lv_iload_n hx hb dX11_work_13 rfl (lv_at hl 1 rfl) ?_
  refine lv_imul hx hb dX11_work_14 ?_
  refine lv_iadd hx hb dX11_work_15 ?_
  refine bdi hf (fun x4 hf => ?_)
  refine lv_istore_n (lv' := [(2, .int x4), (0, .ref this), (1, .int a1)]) hx hb dX11_work_16 rfl hl (by decide) rfl (fun ls hl => ?_)
  refine lv_sipush (v := 700) hx hb dX11_work_17 (by decide) ?_
  refine lv_aload_n hx hb dX11_work_20 rfl (lv_at hl 1 rfl) ?_
  obtain ⟨q5, hq6, ok_q5, hf⟩ := gR_of hf
  refine gf_RX11_7 hC hR ok_this hq6 dX11_work_21 ?_
  refine lv_iconst (v := 4) hx hb dX11_work_24 (by decide) ?_
  obtain ⟨hi7, hf⟩ := ck_of hf
  refine r_iald hC hR ok_q5 hi7 dX11_work_25 ?_
  refine lv_imul hx hb dX11_work_26 ?_
  refine lv_bipush (v := 85) hx hb dX11_work_27 (by decide) ?_
  refine lv_iadd hx hb dX11_work_29 ?_
  refine bdi hf (fun x8 hf => ?_)
  refine lv_istore_n (lv' := [(3, .int x8), (2, .int x4), (0, .ref this), (1, .int a1)]) hx hb dX11_work_30 rfl hl (by decide) rfl (fun ls hl => ?_)
  refine lv_iconst (v := 0) hx hb dX11_work_31 (by decide) ?_
  refine lv_istore (lv' := [(4, .int (0 : Int32)), (3, .int x8), (2, .int x4), (0, .ref this), (1, .int a1)]) hx hb dX11_work_32 hl (by decide) rfl (fun ls hl => ?_)
  refine lv_iconst (v := 0) hx hb dX11_work_34 (by decide) ?_
  refine lv_istore (lv' := [(5, .int (0 : Int32)), (4, .int (0 : Int32)), (3, .int x8), (2, .int x4), (0, .ref this), (1, .int a1)]) hx hb dX11_work_35 hl (by decide) rfl (fun ls hl => ?_)
  refine lv_aload_n hx hb dX11_work_37 rfl (lv_at hl 4 rfl) ?_
  obtain ⟨q9, hq10, ok_q9, hf⟩ := gR_of hf
  refine gf_RX11_13 hC hR ok_this hq10 dX11_work_38 ?_
  refine lv_iload_n hx hb dX11_work_41 rfl (lv_at hl 3 rfl) ?_
  refine lv_iconst (v := 1) hx hb dX11_work_42 (by decide) ?_
  refine lv_iadd hx hb dX11_work_43 ?_
  obtain ⟨hi11, hf⟩ := ck_of hf
  refine r_iald hC hR ok_q9 hi11 dX11_work_44 ?_
  refine bdi hf (fun x12 hf => ?_)
  refine lv_istore (lv' := [(6, .int x12), (5, .int (0 : Int32)), (4, .int (0 : Int32)), (3, .int x8), (2, .int x4), (0, .ref this), (1, .int a1)]) hx hb dX11_work_45 hl (by decide) rfl (fun ls hl => ?_)
  have hh164 : ∀ k : Nat, ∀ (x15 : Int32) (x16 : Int32) (x17 : Int32) (S18 : MS) (H : Heap) (locs : List Loc) (ls : Array Slot), f_X11_work_L47 n this x4 x8 k x15 x16 x17 S18 = some So → Rp G S18 H → va_S (gA G) s.heap H locs → Ex S S18 → Ok S18 this 11 → lv_has ls 9 [(0, .ref this), (2, .int x4), (3, .int x8), (4, .int x15), (5, .int x16), (6, .int x17)] → W p l e rX11_work s m args below meth c H locs 0 0 (MQ below (Qn G S none So) args s 0 0 (gA G)) (F0 m 47 ls []) := by
    intro k
    induction k with
    | zero =>
      intro x15 x16 x17 S18 H locs ls hf hR hS hE ok_this hl
      exact absurd hf (by rw [f_X11_work_L47]; exact fun h => by cases h)
    | succ k ih =>
      intro x15 x16 x17 S18 H locs ls hf hR hS hE ok_this hl
      rw [f_X11_work_L47] at hf
      obtain ⟨rec47_14, erec47_14, hf⟩ := jn_of4 hf
      have hL47_13 : ∀ (x15 : Int32) (x16 : Int32) (x17 : Int32) (S18 : MS) (H : Heap) (locs : List Loc) (ls : Array Slot), rec47_14 x15 x16 x17 S18 = some So → Rp G S18 H → va_S (gA G) s.heap H locs → Ex S S18 → Ok S18 this 11 → lv_has ls 9 [(0, .ref this), (2, .int x4), (3, .int x8), (4, .int x15), (5, .int x16), (6, .int x17)] → W p l e rX11_work s m args below meth c H locs 0 0 (MQ below (Qn G S none So) args s 0 0 (gA G)) (F0 m 47 ls []) := by
        intro x15 x16 x17 S18 H locs ls hf hR hS hE ok_this hl
        rw [erec47_14] at hf
        exact ih x15 x16 x17 S18 _ _ _ hf hR hS hE ok_this hl
      refine lv_iload hx hb dX11_work_47 (lv_at hl 5 rfl) ?_
      refine lv_aload_n hx hb dX11_work_49 rfl (lv_at hl 0 rfl) ?_
      obtain ⟨q19, hq20, ok_q19, hf⟩ := gR_of hf
      refine gf_RX11_13 hC hR ok_this hq20 dX11_work_50 ?_
      refine lv_iload_n hx hb dX11_work_53 rfl (lv_at hl 1 rfl) ?_
      refine lv_iconst (v := 2) hx hb dX11_work_54 (by decide) ?_
      refine lv_iadd hx hb dX11_work_55 ?_
      obtain ⟨hi21, hf⟩ := ck_of hf
      refine r_iald hC hR ok_q19 hi21 dX11_work_56 ?_
      refine lv_icmp_ge (tgt := 359) hx hb dX11_work_57 (by decide) (fun hc => ?_) (fun hc => ?_)
      · replace hf := if_t hf hc
        exact r_vret hC hR hS hE hf dX11_work_359
      · replace hf := if_f hf hc
        refine lv_aload_n hx hb dX11_work_60 rfl (lv_at hl 0 rfl) ?_
        obtain ⟨q22, hq23, ok_q22, hf⟩ := gR_of hf
        refine gf_RX11_13 hC hR ok_this hq23 dX11_work_61 ?_
        refine lv_iload_n hx hb dX11_work_64 rfl (lv_at hl 2 rfl) ?_
        refine lv_iconst (v := 2) hx hb dX11_work_65 (by decide) ?_
        refine lv_iload hx hb dX11_work_66 (lv_at hl 5 rfl) ?_
        refine lv_imul hx hb dX11_work_68 ?_
        refine lv_iadd hx hb dX11_work_69 ?_
        obtain ⟨hi24, hf⟩ := ck_of hf
        refine r_iald hC hR ok_q22 hi24 dX11_work_70 ?_
        refine bdi hf (fun x25 hf => ?_)
        refine lv_istore (lv' := [(7, .int x25), (0, .ref this), (2, .int x4), (3, .int x8), (4, .int x15), (5, .int x16), (6, .int x17)]) hx hb dX11_work_71 hl (by decide) rfl (fun ls hl => ?_)
        refine lv_aload_n hx hb dX11_work_73 rfl (lv_at hl 1 rfl) ?_
        obtain ⟨q26, hq27, ok_q26, hf⟩ := gR_of hf
        refine gf_RX11_13 hC hR ok_this hq27 dX11_work_74 ?_
        refine lv_iload_n hx hb dX11_work_77 rfl (lv_at hl 3 rfl) ?_
        refine lv_iconst (v := 2) hx hb dX11_work_78 (by decide) ?_
        refine lv_iload hx hb dX11_work_79 (lv_at hl 6 rfl) ?_
        refine lv_imul hx hb dX11_work_81 ?_
        refine lv_iadd hx hb dX11_work_82 ?_
        refine lv_iconst (v := 1) hx hb dX11_work_83 (by decide) ?_
        refine lv_iadd hx hb dX11_work_84 ?_
        obtain ⟨hi28, hf⟩ := ck_of hf
        refine r_iald hC hR ok_q26 hi28 dX11_work_85 ?_
        refine bdi hf (fun x29 hf => ?_)
        refine lv_istore (lv' := [(8, .int x29), (7, .int x25), (0, .ref this), (2, .int x4), (3, .int x8), (4, .int x15), (5, .int x16), (6, .int x17)]) hx hb dX11_work_86 hl (by decide) rfl (fun ls hl => ?_)
        refine lv_iload hx hb dX11_work_88 (lv_at hl 1 rfl) ?_
        refine lv_iconst (v := 1) hx hb dX11_work_90 (by decide) ?_
        obtain ⟨j353_31, ej353_31, hf⟩ := jn_of3 hf
        have hj353_30 : ∀ (x32 : Int32) (x33 : Int32) (S34 : MS) (H : Heap) (locs : List Loc) (ls : Array Slot), j353_31 x32 x33 S34 = some So → Rp G S34 H → va_S (gA G) s.heap H locs → Ex S S34 → Ok S34 this 11 → lv_has ls 9 [(0, .ref this), (2, .int x4), (3, .int x8), (4, .int x32), (5, .int x33), (6, .int x17)] → W p l e rX11_work s m args below meth c H locs 0 0 (MQ below (Qn G S none So) args s 0 0 (gA G)) (F0 m 353 ls []) := by
          intro x32 x33 S34 H locs ls hf hR hS hE ok_this hl
          rw [ej353_31] at hf
          refine r_iinc (n := 1) (z := 1) (lv' := fun x35 => [(6, .int x35), (0, .ref this), (2, .int x4), (3, .int x8), (4, .int x32), (5, .int x33)]) hx hb dX11_work_353 hl (k := 5) rfl (by decide) (by decide) (fun _ => rfl) hf (fun x35 ls hf hl => ?_)
          refine lv_goto (tgt := 47) hx hb dX11_work_356 (by decide) ?_
          exact hL47_13 x32 x33 x35 S34 _ _ _ hf hR hS hE ok_this (lv_sub hl [1, 2, 3, 4, 5, 0] rfl)
        refine lv_icmp_gt (tgt := 126) hx hb dX11_work_91 (by decide) (fun hc => ?_) (fun hc => ?_)
        · replace hf := if_t hf hc
          refine lv_iload hx hb dX11_work_126 (lv_at hl 1 rfl) ?_
          refine lv_iconst (v := 2) hx hb dX11_work_128 (by decide) ?_
          refine lv_icmp_ne (tgt := 154) hx hb dX11_work_129 (by decide) (fun hc => ?_) (fun hc => ?_)
          · replace hf := if_f hf hc
            refine lv_iload hx hb dX11_work_154 (lv_at hl 1 rfl) ?_
            refine lv_bipush (v := 10) hx hb dX11_work_156 (by decide) ?_
            refine lv_icmp_ge (tgt := 197) hx hb dX11_work_158 (by decide) (fun hc => ?_) (fun hc => ?_)
            · replace hf := if_t hf hc
              refine lv_iload hx hb dX11_work_197 (lv_at hl 1 rfl) ?_
              refine lv_bipush (v := 20) hx hb dX11_work_199 (by decide) ?_
              refine lv_icmp_ge (tgt := 241) hx hb dX11_work_201 (by decide) (fun hc => ?_) (fun hc => ?_)
              · replace hf := if_t hf hc
                refine lv_iload hx hb dX11_work_241 (lv_at hl 1 rfl) ?_
                refine lv_bipush (v := 20) hx hb dX11_work_243 (by decide) ?_
                refine lv_icmp_ne (tgt := 277) hx hb dX11_work_245 (by decide) (fun hc => ?_) (fun hc => ?_)
                · replace hf := if_f hf hc
                  refine r_iinc (n := -1) (z := -1) (lv' := fun x36 => [(5, .int x36), (8, .int x29), (7, .int x25), (0, .ref this), (2, .int x4), (3, .int x8), (4, .int x15), (6, .int x17)]) hx hb dX11_work_277 hl (k := 6) rfl (by decide) (by decide) (fun _ => rfl) hf (fun x36 ls hf hl => ?_)
                  refine lv_aload_n hx hb dX11_work_280 rfl (lv_at hl 3 rfl) ?_
                  obtain ⟨q37, hq38, ok_q37, hf⟩ := gR_of hf
                  refine gf_RX11_36 hC hR ok_this hq38 dX11_work_281 ?_
                  refine lv_iload hx hb dX11_work_284 (lv_at hl 0 rfl) ?_
                  refine lv_iconst (v := 1) hx hb dX11_work_286 (by decide) ?_
                  refine lv_isub hx hb dX11_work_287 ?_
                  refine lv_iload hx hb dX11_work_288 (lv_at hl 2 rfl) ?_
                  refine lv_bipush (v := 21) hx hb dX11_work_290 (by decide) ?_
                  obtain ⟨j352_40, ej352_40, hf⟩ := jn_of4 hf
                  have hj352_39 : ∀ (q41 : Nat) (x42 : Int32) (x43 : Int32) (S44 : MS) (H : Heap) (locs : List Loc) (ls : Array Slot), j352_40 q41 x42 x43 S44 = some So → Rp G S44 H → va_S (gA G) s.heap H locs → Ex S S44 → Ok S44 this 11 → Ok S44 q41 14 → lv_has ls 9 [(0, .ref this), (2, .int x4), (3, .int x8), (4, .int x15), (5, .int x36), (6, .int x17)] → W p l e rX11_work s m args below meth c H locs 0 0 (MQ below (Qn G S none So) args s 0 0 (gA G)) (F0 m 352 ls [.int x43, .int x42, .ref q41]) := by
                    intro q41 x42 x43 S44 H locs ls hf hR hS hE ok_this ok_q41 hl
                    rw [ej352_40] at hf
                    obtain ⟨hi45, hf⟩ := ck_of hf
                    obtain ⟨hz46, hf⟩ := zb_of hf
                    refine rB_zast hC hR hS ok_q41 hi45 hz46 dX11_work_352 hf (fun S47 H locs hf hR hS hE48 => ?_)
                    have ok_this := hE48 _ _ ok_this
                    have ok_q41 := hE48 _ _ ok_q41
                    have hE := hE.tr hE48
                    exact hj353_30 x15 x36 S47 _ _ _ hf hR hS hE ok_this (lv_sub hl [0, 1, 2, 3, 4, 5] rfl)
                  refine lv_icmp_ne (tgt := 325) hx hb dX11_work_292 (by decide) (fun hc => ?_) (fun hc => ?_)
                  · replace hf := if_f hf hc
                    refine lv_aload_n hx hb dX11_work_325 rfl (lv_at hl 3 rfl) ?_
                    obtain ⟨q49, hq50, ok_q49, hf⟩ := gR_of hf
                    refine gf_RX11_36 hC hR ok_this hq50 dX11_work_326 ?_
                    refine lv_iload hx hb dX11_work_329 (lv_at hl 0 rfl) ?_
                    refine lv_iconst (v := 1) hx hb dX11_work_331 (by decide) ?_
                    refine lv_isub hx hb dX11_work_332 ?_
                    obtain ⟨hi51, hf⟩ := ck_of hf
                    refine r_zald hC hR ok_q49 hi51 dX11_work_333 ?_
                    obtain ⟨j347_53, ej347_53, hf⟩ := jn_of3 hf
                    have hj347_52 : ∀ (q54 : Nat) (x55 : Int32) (S56 : MS) (H : Heap) (locs : List Loc) (ls : Array Slot), j347_53 q54 x55 S56 = some So → Rp G S56 H → va_S (gA G) s.heap H locs → Ex S S56 → Ok S56 this 11 → Ok S56 q54 14 → lv_has ls 9 [(0, .ref this), (2, .int x4), (3, .int x8), (4, .int x15), (5, .int x36), (6, .int x17)] → W p l e rX11_work s m args below meth c H locs 0 0 (MQ below (Qn G S none So) args s 0 0 (gA G)) (F0 m 347 ls [.int x55, .ref q54]) := by
                      intro q54 x55 S56 H locs ls hf hR hS hE ok_this ok_q54 hl
                      rw [ej347_53] at hf
                      refine lv_iconst (v := 1) hx hb dX11_work_347 (by decide) ?_
                      refine lv_goto (tgt := 352) hx hb dX11_work_348 (by decide) ?_
                      exact hj352_39 q54 x55 (1 : Int32) S56 _ _ _ hf hR hS hE ok_this ok_q54 (lv_sub hl [0, 1, 2, 3, 4, 5] rfl)
                    refine lv_if_ne (tgt := 347) hx hb dX11_work_334 (by decide) (fun hc => ?_) (fun hc => ?_)
                    · replace hf := if_f hf hc
                      exact hj347_52 q37 (x36 - (1 : Int32)) S18 _ _ _ hf hR hS hE ok_this ok_q37 (lv_sub hl [3, 4, 5, 6, 0, 7] rfl)
                    · replace hf := if_t hf hc
                      refine lv_aload_n hx hb dX11_work_337 rfl (lv_at hl 3 rfl) ?_
                      obtain ⟨q57, hq58, ok_q57, hf⟩ := gR_of hf
                      refine gf_RX11_36 hC hR ok_this hq58 dX11_work_338 ?_
                      refine lv_iload hx hb dX11_work_341 (lv_at hl 0 rfl) ?_
                      obtain ⟨hi59, hf⟩ := ck_of hf
                      refine r_zald hC hR ok_q57 hi59 dX11_work_343 ?_
                      refine lv_if_eq (tgt := 351) hx hb dX11_work_344 (by decide) (fun hc => ?_) (fun hc => ?_)
                      · replace hf := if_t hf hc
                        refine lv_iconst (v := 0) hx hb dX11_work_351 (by decide) ?_
                        exact hj352_39 q37 (x36 - (1 : Int32)) (0 : Int32) S18 _ _ _ hf hR hS hE ok_this ok_q37 (lv_sub hl [3, 4, 5, 6, 0, 7] rfl)
                      · replace hf := if_f hf hc
                        exact hj347_52 q37 (x36 - (1 : Int32)) S18 _ _ _ hf hR hS hE ok_this ok_q37 (lv_sub hl [3, 4, 5, 6, 0, 7] rfl)
                  · replace hf := if_t hf hc
                    refine lv_aload_n hx hb dX11_work_295 rfl (lv_at hl 3 rfl) ?_
                    obtain ⟨q63, hq64, ok_q63, hf⟩ := gR_of hf
                    refine gf_RX11_36 hC hR ok_this hq64 dX11_work_296 ?_
                    refine lv_iload hx hb dX11_work_299 (lv_at hl 0 rfl) ?_
                    refine lv_iconst (v := 1) hx hb dX11_work_301 (by decide) ?_
                    refine lv_isub hx hb dX11_work_302 ?_
                    obtain ⟨hi65, hf⟩ := ck_of hf
                    refine r_zald hC hR ok_q63 hi65 dX11_work_303 ?_
                    obtain ⟨j321_67, ej321_67, hf⟩ := jn_of3 hf
                    have hj321_66 : ∀ (q68 : Nat) (x69 : Int32) (S70 : MS) (H : Heap) (locs : List Loc) (ls : Array Slot), j321_67 q68 x69 S70 = some So → Rp G S70 H → va_S (gA G) s.heap H locs → Ex S S70 → Ok S70 this 11 → Ok S70 q68 14 → lv_has ls 9 [(0, .ref this), (2, .int x4), (3, .int x8), (4, .int x15), (5, .int x36), (6, .int x17)] → W p l e rX11_work s m args below meth c H locs 0 0 (MQ below (Qn G S none So) args s 0 0 (gA G)) (F0 m 321 ls [.int x69, .ref q68]) := by
                      intro q68 x69 S70 H locs ls hf hR hS hE ok_this ok_q68 hl
                      rw [ej321_67] at hf
                      refine lv_iconst (v := 0) hx hb dX11_work_321 (by decide) ?_
                      refine lv_goto (tgt := 352) hx hb dX11_work_322 (by decide) ?_
                      exact hj352_39 q68 x69 (0 : Int32) S70 _ _ _ hf hR hS hE ok_this ok_q68 (lv_sub hl [0, 1, 2, 3, 4, 5] rfl)
                    refine lv_if_eq (tgt := 321) hx hb dX11_work_304 (by decide) (fun hc => ?_) (fun hc => ?_)
                    · replace hf := if_t hf hc
                      exact hj321_66 q37 (x36 - (1 : Int32)) S18 _ _ _ hf hR hS hE ok_this ok_q37 (lv_sub hl [3, 4, 5, 6, 0, 7] rfl)
                    · replace hf := if_f hf hc
                      refine lv_aload_n hx hb dX11_work_307 rfl (lv_at hl 3 rfl) ?_
                      obtain ⟨q71, hq72, ok_q71, hf⟩ := gR_of hf
                      refine gf_RX11_36 hC hR ok_this hq72 dX11_work_308 ?_
                      refine lv_iload hx hb dX11_work_311 (lv_at hl 0 rfl) ?_
                      obtain ⟨hi73, hf⟩ := ck_of hf
                      refine r_zald hC hR ok_q71 hi73 dX11_work_313 ?_
                      refine lv_if_eq (tgt := 321) hx hb dX11_work_314 (by decide) (fun hc => ?_) (fun hc => ?_)
                      · replace hf := if_t hf hc
                        exact hj321_66 q37 (x36 - (1 : Int32)) S18 _ _ _ hf hR hS hE ok_this ok_q37 (lv_sub hl [3, 4, 5, 6, 0, 7] rfl)
                      · replace hf := if_f hf hc
                        refine lv_iconst (v := 1) hx hb dX11_work_317 (by decide) ?_
                        refine lv_goto (tgt := 352) hx hb dX11_work_318 (by decide) ?_
                        exact hj352_39 q37 (x36 - (1 : Int32)) (1 : Int32) S18 _ _ _ hf hR hS hE ok_this ok_q37 (lv_sub hl [3, 4, 5, 6, 0, 7] rfl)
                · replace hf := if_t hf hc
                  refine lv_aload_n hx hb dX11_work_248 rfl (lv_at hl 2 rfl) ?_
                  obtain ⟨q81, hq82, ok_q81, hf⟩ := gR_of hf
                  refine gf_RX11_36 hC hR ok_this hq82 dX11_work_249 ?_
                  refine lv_iload hx hb dX11_work_252 (lv_at hl 6 rfl) ?_
                  refine lv_iconst (v := 1) hx hb dX11_work_254 (by decide) ?_
                  refine lv_isub hx hb dX11_work_255 ?_
                  refine lv_aload_n hx hb dX11_work_256 rfl (lv_at hl 2 rfl) ?_
                  obtain ⟨q83, hq84, ok_q83, hf⟩ := gR_of hf
                  refine gf_RX11_36 hC hR ok_this hq84 dX11_work_257 ?_
                  refine lv_iload hx hb dX11_work_260 (lv_at hl 6 rfl) ?_
                  refine lv_iconst (v := 1) hx hb dX11_work_262 (by decide) ?_
                  refine lv_isub hx hb dX11_work_263 ?_
                  obtain ⟨hi85, hf⟩ := ck_of hf
                  refine r_zald hC hR ok_q83 hi85 dX11_work_264 ?_
                  obtain ⟨j273_87, ej273_87, hf⟩ := jn_of4 hf
                  have hj273_86 : ∀ (q88 : Nat) (x89 : Int32) (x90 : Int32) (S91 : MS) (H : Heap) (locs : List Loc) (ls : Array Slot), j273_87 q88 x89 x90 S91 = some So → Rp G S91 H → va_S (gA G) s.heap H locs → Ex S S91 → Ok S91 this 11 → Ok S91 q88 14 → lv_has ls 9 [(0, .ref this), (2, .int x4), (3, .int x8), (4, .int x15), (5, .int x16), (6, .int x17)] → W p l e rX11_work s m args below meth c H locs 0 0 (MQ below (Qn G S none So) args s 0 0 (gA G)) (F0 m 273 ls [.int x90, .int x89, .ref q88]) := by
                    intro q88 x89 x90 S91 H locs ls hf hR hS hE ok_this ok_q88 hl
                    rw [ej273_87] at hf
                    obtain ⟨hi92, hf⟩ := ck_of hf
                    obtain ⟨hz93, hf⟩ := zb_of hf
                    refine rB_zast hC hR hS ok_q88 hi92 hz93 dX11_work_273 hf (fun S94 H locs hf hR hS hE95 => ?_)
                    have ok_this := hE95 _ _ ok_this
                    have ok_q88 := hE95 _ _ ok_q88
                    have hE := hE.tr hE95
                    refine lv_goto (tgt := 353) hx hb dX11_work_274 (by decide) ?_
                    exact hj353_30 x15 x16 S94 _ _ _ hf hR hS hE ok_this (lv_sub hl [0, 1, 2, 3, 4, 5] rfl)
                  refine lv_if_ne (tgt := 272) hx hb dX11_work_265 (by decide) (fun hc => ?_) (fun hc => ?_)
                  · replace hf := if_f hf hc
                    refine lv_iconst (v := 0) hx hb dX11_work_272 (by decide) ?_
                    exact hj273_86 q81 (x16 - (1 : Int32)) (0 : Int32) S18 _ _ _ hf hR hS hE ok_this ok_q81 (lv_sub hl [2, 3, 4, 5, 6, 7] rfl)
                  · replace hf := if_t hf hc
                    refine lv_iconst (v := 1) hx hb dX11_work_268 (by decide) ?_
                    refine lv_goto (tgt := 273) hx hb dX11_work_269 (by decide) ?_
                    exact hj273_86 q81 (x16 - (1 : Int32)) (1 : Int32) S18 _ _ _ hf hR hS hE ok_this ok_q81 (lv_sub hl [2, 3, 4, 5, 6, 7] rfl)
              · replace hf := if_f hf hc
                refine r_iinc (n := -2) (z := -2) (lv' := fun x100 => [(4, .int x100), (8, .int x29), (7, .int x25), (0, .ref this), (2, .int x4), (3, .int x8), (5, .int x16), (6, .int x17)]) hx hb dX11_work_204 hl (k := 5) rfl (by decide) (by decide) (fun _ => rfl) hf (fun x100 ls hf hl => ?_)
                refine lv_aload_n hx hb dX11_work_207 rfl (lv_at hl 3 rfl) ?_
                obtain ⟨q101, hq102, ok_q101, hf⟩ := gR_of hf
                refine gf_RX11_36 hC hR ok_this hq102 dX11_work_208 ?_
                refine lv_iload hx hb dX11_work_211 (lv_at hl 6 rfl) ?_
                refine lv_iload hx hb dX11_work_213 (lv_at hl 2 rfl) ?_
                refine lv_aload_n hx hb dX11_work_215 rfl (lv_at hl 3 rfl) ?_
                obtain ⟨q103, hq104, ok_q103, hf⟩ := gR_of hf
                refine gf_RX11_32 hC hR ok_this hq104 dX11_work_216 ?_
                refine lv_iload hx hb dX11_work_219 (lv_at hl 0 rfl) ?_
                obtain ⟨hi105, hf⟩ := ck_of hf
                refine r_lald hC hR ok_q103 hi105 dX11_work_221 ?_
                refine lv_aload_n hx hb dX11_work_222 rfl (lv_at hl 3 rfl) ?_
                obtain ⟨q106, hq107, ok_q106, hf⟩ := gR_of hf
                refine gf_RX11_32 hC hR ok_this hq107 dX11_work_223 ?_
                refine lv_iload hx hb dX11_work_226 (lv_at hl 0 rfl) ?_
                refine lv_iconst (v := 1) hx hb dX11_work_228 (by decide) ?_
                refine lv_iadd hx hb dX11_work_229 ?_
                obtain ⟨hi108, hf⟩ := ck_of hf
                refine r_lald hC hR ok_q106 hi108 dX11_work_230 ?_
                obtain ⟨x112, S109, hc110, hf⟩ := cl_of hf
                refine cl_RX11_278 (As := [.int x25, .long (mJ S18 q103 x100.toNatClampNeg), .long (mJ S18 q106 (x100 + (1 : Int32)).toNatClampNeg)]) (rest := [.int x16, .ref q101]) hC hR hS (c_X11_isAsked l G n x25 (mJ S18 q103 x100.toNatClampNeg) (mJ S18 q106 (x100 + (1 : Int32)).toNatClampNeg) S18 x112 S109 hc110 ) rfl ⟨Nat.le_of_ble_eq_true rfl, Nat.le_of_ble_eq_true rfl⟩ hl.1 rfl (Nat.le_of_ble_eq_true rfl) dX11_work_231 (Nat.zero_le _) (Nat.zero_le _) (fun H locs hR hS hE111 => ?_)
                have ok_this := hE111 _ _ ok_this
                have ok_q19 := hE111 _ _ ok_q19
                have ok_q22 := hE111 _ _ ok_q22
                have ok_q26 := hE111 _ _ ok_q26
                have ok_q101 := hE111 _ _ ok_q101
                have ok_q103 := hE111 _ _ ok_q103
                have ok_q106 := hE111 _ _ ok_q106
                have hE := hE.tr hE111
                obtain ⟨hi113, hf⟩ := ck_of hf
                obtain ⟨hz114, hf⟩ := zb_of hf
                refine rB_zast hC hR hS ok_q101 hi113 hz114 dX11_work_234 hf (fun S115 H locs hf hR hS hE116 => ?_)
                have ok_this := hE116 _ _ ok_this
                have ok_q19 := hE116 _ _ ok_q19
                have ok_q22 := hE116 _ _ ok_q22
                have ok_q26 := hE116 _ _ ok_q26
                have ok_q101 := hE116 _ _ ok_q101
                have ok_q103 := hE116 _ _ ok_q103
                have ok_q106 := hE116 _ _ ok_q106
                have hE := hE.tr hE116
                refine r_iinc (n := 1) (z := 1) (lv' := fun x117 => [(5, .int x117), (4, .int x100), (8, .int x29), (7, .int x25), (0, .ref this), (2, .int x4), (3, .int x8), (6, .int x17)]) hx hb dX11_work_235 hl (k := 6) rfl (by decide) (by decide) (fun _ => rfl) hf (fun x117 ls hf hl => ?_)
                refine lv_goto (tgt := 353) hx hb dX11_work_238 (by decide) ?_
                exact hj353_30 x100 x117 S115 _ _ _ hf hR hS hE ok_this (lv_sub hl [4, 5, 6, 1, 0, 7] rfl)
            · replace hf := if_f hf hc
              refine r_iinc (n := -1) (z := -1) (lv' := fun x118 => [(4, .int x118), (8, .int x29), (7, .int x25), (0, .ref this), (2, .int x4), (3, .int x8), (5, .int x16), (6, .int x17)]) hx hb dX11_work_161 hl (k := 5) rfl (by decide) (by decide) (fun _ => rfl) hf (fun x118 ls hf hl => ?_)
              refine lv_aload_n hx hb dX11_work_164 rfl (lv_at hl 3 rfl) ?_
              obtain ⟨q119, hq120, ok_q119, hf⟩ := gR_of hf
              refine gf_RX11_32 hC hR ok_this hq120 dX11_work_165 ?_
              refine lv_iload hx hb dX11_work_168 (lv_at hl 0 rfl) ?_
              refine lv_iconst (v := 1) hx hb dX11_work_170 (by decide) ?_
              refine lv_isub hx hb dX11_work_171 ?_
              refine lv_iload hx hb dX11_work_172 (lv_at hl 2 rfl) ?_
              refine lv_aload_n hx hb dX11_work_174 rfl (lv_at hl 3 rfl) ?_
              obtain ⟨q121, hq122, ok_q121, hf⟩ := gR_of hf
              refine gf_RX11_32 hC hR ok_this hq122 dX11_work_175 ?_
              refine lv_iload hx hb dX11_work_178 (lv_at hl 0 rfl) ?_
              refine lv_iconst (v := 1) hx hb dX11_work_180 (by decide) ?_
              refine lv_isub hx hb dX11_work_181 ?_
              obtain ⟨hi123, hf⟩ := ck_of hf
              refine r_lald hC hR ok_q121 hi123 dX11_work_182 ?_
              refine lv_aload_n hx hb dX11_work_183 rfl (lv_at hl 3 rfl) ?_
              obtain ⟨q124, hq125, ok_q124, hf⟩ := gR_of hf
              refine gf_RX11_32 hC hR ok_this hq125 dX11_work_184 ?_
              refine lv_iload hx hb dX11_work_187 (lv_at hl 0 rfl) ?_
              obtain ⟨hi126, hf⟩ := ck_of hf
              refine r_lald hC hR ok_q124 hi126 dX11_work_189 ?_
              obtain ⟨x130, S127, hc128, hf⟩ := cl_of hf
              refine cl_RX11_274 (As := [.int x25, .long (mJ S18 q121 (x118 - (1 : Int32)).toNatClampNeg), .long (mJ S18 q124 x118.toNatClampNeg)]) (rest := [.int (x118 - (1 : Int32)), .ref q119]) hC hR hS (c_X11_two l G n x25 (mJ S18 q121 (x118 - (1 : Int32)).toNatClampNeg) (mJ S18 q124 x118.toNatClampNeg) S18 x130 S127 hc128 ) rfl ⟨Nat.le_of_ble_eq_true rfl, Nat.le_of_ble_eq_true rfl⟩ hl.1 rfl (Nat.le_of_ble_eq_true rfl) dX11_work_190 (Nat.zero_le _) (Nat.zero_le _) (fun H locs hR hS hE129 => ?_)
              have ok_this := hE129 _ _ ok_this
              have ok_q19 := hE129 _ _ ok_q19
              have ok_q22 := hE129 _ _ ok_q22
              have ok_q26 := hE129 _ _ ok_q26
              have ok_q119 := hE129 _ _ ok_q119
              have ok_q121 := hE129 _ _ ok_q121
              have ok_q124 := hE129 _ _ ok_q124
              have hE := hE.tr hE129
              obtain ⟨hi131, hf⟩ := ck_of hf
              refine rB_last hC hR hS ok_q119 hi131 dX11_work_193 hf (fun S132 H locs hf hR hS hE133 => ?_)
              have ok_this := hE133 _ _ ok_this
              have ok_q19 := hE133 _ _ ok_q19
              have ok_q22 := hE133 _ _ ok_q22
              have ok_q26 := hE133 _ _ ok_q26
              have ok_q119 := hE133 _ _ ok_q119
              have ok_q121 := hE133 _ _ ok_q121
              have ok_q124 := hE133 _ _ ok_q124
              have hE := hE.tr hE133
              refine lv_goto (tgt := 353) hx hb dX11_work_194 (by decide) ?_
              exact hj353_30 x118 x16 S132 _ _ _ hf hR hS hE ok_this (lv_sub hl [3, 4, 5, 0, 6, 7] rfl)
          · replace hf := if_t hf hc
            refine lv_aload_n hx hb dX11_work_132 rfl (lv_at hl 2 rfl) ?_
            obtain ⟨q134, hq135, ok_q134, hf⟩ := gR_of hf
            refine gf_RX11_32 hC hR ok_this hq135 dX11_work_133 ?_
            refine lv_iload hx hb dX11_work_136 (lv_at hl 5 rfl) ?_
            refine lv_iconst (v := 1) hx hb dX11_work_138 (by decide) ?_
            refine lv_isub hx hb dX11_work_139 ?_
            refine lv_aload_n hx hb dX11_work_140 rfl (lv_at hl 2 rfl) ?_
            obtain ⟨q136, hq137, ok_q136, hf⟩ := gR_of hf
            refine gf_RX11_32 hC hR ok_this hq137 dX11_work_141 ?_
            refine lv_iload hx hb dX11_work_144 (lv_at hl 5 rfl) ?_
            refine lv_iconst (v := 1) hx hb dX11_work_146 (by decide) ?_
            refine lv_isub hx hb dX11_work_147 ?_
            obtain ⟨hi138, hf⟩ := ck_of hf
            refine r_lald hC hR ok_q136 hi138 dX11_work_148 ?_
            refine lv_lneg hx hb dX11_work_149 ?_
            obtain ⟨hi139, hf⟩ := ck_of hf
            refine rB_last hC hR hS ok_q134 hi139 dX11_work_150 hf (fun S140 H locs hf hR hS hE141 => ?_)
            have ok_this := hE141 _ _ ok_this
            have ok_q19 := hE141 _ _ ok_q19
            have ok_q22 := hE141 _ _ ok_q22
            have ok_q26 := hE141 _ _ ok_q26
            have ok_q134 := hE141 _ _ ok_q134
            have ok_q136 := hE141 _ _ ok_q136
            have hE := hE.tr hE141
            refine lv_goto (tgt := 353) hx hb dX11_work_151 (by decide) ?_
            exact hj353_30 x15 x16 S140 _ _ _ hf hR hS hE ok_this (lv_sub hl [2, 3, 4, 5, 6, 7] rfl)
        · replace hf := if_f hf hc
          refine lv_aload_n hx hb dX11_work_94 rfl (lv_at hl 2 rfl) ?_
          obtain ⟨q142, hq143, ok_q142, hf⟩ := gR_of hf
          refine gf_RX11_32 hC hR ok_this hq143 dX11_work_95 ?_
          refine lv_iload hx hb dX11_work_98 (lv_at hl 5 rfl) ?_
          refine lv_iload hx hb dX11_work_100 (lv_at hl 1 rfl) ?_
          obtain ⟨j119_145, ej119_145, hf⟩ := jn_of4 hf
          have hj119_144 : ∀ (q146 : Nat) (x147 : Int32) (x148 : Int64) (S149 : MS) (H : Heap) (locs : List Loc) (ls : Array Slot), j119_145 q146 x147 x148 S149 = some So → Rp G S149 H → va_S (gA G) s.heap H locs → Ex S S149 → Ok S149 this 11 → Ok S149 q146 13 → lv_has ls 9 [(0, .ref this), (2, .int x4), (3, .int x8), (4, .int x15), (5, .int x16), (6, .int x17)] → W p l e rX11_work s m args below meth c H locs 0 0 (MQ below (Qn G S none So) args s 0 0 (gA G)) (F0 m 119 ls [.long x148, .int x147, .ref q146]) := by
            intro q146 x147 x148 S149 H locs ls hf hR hS hE ok_this ok_q146 hl
            rw [ej119_145] at hf
            obtain ⟨hi150, hf⟩ := ck_of hf
            refine rB_last hC hR hS ok_q146 hi150 dX11_work_119 hf (fun S151 H locs hf hR hS hE152 => ?_)
            have ok_this := hE152 _ _ ok_this
            have ok_q146 := hE152 _ _ ok_q146
            have hE := hE.tr hE152
            refine r_iinc (n := 1) (z := 1) (lv' := fun x153 => [(4, .int x153), (0, .ref this), (2, .int x4), (3, .int x8), (5, .int x16), (6, .int x17)]) hx hb dX11_work_120 hl (k := 3) rfl (by decide) (by decide) (fun _ => rfl) hf (fun x153 ls hf hl => ?_)
            refine lv_goto (tgt := 353) hx hb dX11_work_123 (by decide) ?_
            exact hj353_30 x153 x16 S151 _ _ _ hf hR hS hE ok_this (lv_sub hl [1, 2, 3, 0, 4, 5] rfl)
          refine lv_if_ne (tgt := 111) hx hb dX11_work_102 (by decide) (fun hc => ?_) (fun hc => ?_)
          · replace hf := if_f hf hc
            refine lv_aload_n hx hb dX11_work_111 rfl (lv_at hl 2 rfl) ?_
            obtain ⟨q154, hq155, ok_q154, hf⟩ := gR_of hf
            refine gf_RX11_29 hC hR ok_this hq155 dX11_work_112 ?_
            refine lv_iload hx hb dX11_work_115 (lv_at hl 0 rfl) ?_
            obtain ⟨hi156, hf⟩ := ck_of hf
            refine r_iald hC hR ok_q154 hi156 dX11_work_117 ?_
            refine lv_i2l (v := ((mI S18 q154 x29.toNatClampNeg).toInt64)) hx hb dX11_work_118 rfl ?_
            exact hj119_144 q142 x15 ((mI S18 q154 x29.toNatClampNeg).toInt64) S18 _ _ _ hf hR hS hE ok_this ok_q142 (lv_sub hl [2, 3, 4, 5, 6, 7] rfl)
          · replace hf := if_t hf hc
            refine lv_iload hx hb dX11_work_105 (lv_at hl 0 rfl) ?_
            refine lv_i2l (v := (x29.toInt64)) hx hb dX11_work_107 rfl ?_
            refine lv_goto (tgt := 119) hx hb dX11_work_108 (by decide) ?_
            exact hj119_144 q142 x15 (x29.toInt64) S18 _ _ _ hf hR hS hE ok_this ok_q142 (lv_sub hl [2, 3, 4, 5, 6, 7] rfl)
  exact hh164 n (0 : Int32) (0 : Int32) x12 S _ _ _ hf hR hS hE ok_this (lv_sub hl [5, 4, 3, 2, 1, 0] rfl)
abbrev rX11_clauses : Room := { frames := 0, cells := 0, slots := 0, locals := 0 }
def f_X11_clauses (_n : Nat) (this : Nat) (S : MS) : Option (Int32 × MS) :=
  gR S (mR S this 0) 12 fun q1 => ck (inb (4 : Int32) (mN S q1)) ((if 0 ≤ (mI S q1 (4 : Int32).toNatClampNeg) then gR S (mR S this 5) 12 fun q4 => gR S (mR S this 0) 12 fun q6 => ck (inb (4 : Int32) (mN S q6)) (ck (inb ((700 : Int32) * (mI S q6 (4 : Int32).toNatClampNeg)) (mN S q4)) (some ((mI S q4 ((700 : Int32) * (mI S q6 (4 : Int32).toNatClampNeg)).toNatClampNeg), S))) else some ((0 : Int32), S)))
set_option maxRecDepth 100000 in
set_option maxHeartbeats 4000000 in
theorem c_X11_clauses (l : Launch) (G : Gx) (n : Nat) (this : Nat) (S : MS) (ro : Int32) (So : MS) (hf : f_X11_clauses n this S = some (ro, So)) (ok_this : Ok S this 11) : Cn G l yX11_clauses cX11_clauses 1 (some .int) rX11_clauses [.ref this] S (some (.int ro)) So := by
  refine Cn.of (by decide) (Nat.le_of_ble_eq_true rfl) ?_
  intro p e s m args below meth c hC hname hR ls hl
  have hC : Cx G RX11 cX11_clauses 1 (some .int) p s m args meth c := hC
  have hl : lv_has ls 1 [(0, .ref this)] := hl
  have hx := hC.x
  have hb := hC.b
  have hS : va_S (gA G) s.heap s.heap [] := va_S.rf
  have hE : Ex S S := Ex.rf S
  unfold f_X11_clauses at hf
  refine lv_aload_n hx hb dX11_clauses_0 rfl (lv_at hl 0 rfl) ?_
  obtain ⟨q1, hq2, ok_q1, hf⟩ := gR_of hf
  refine gf_RX11_7 hC hR ok_this hq2 dX11_clauses_1 ?_
  refine lv_iconst (v := 4) hx hb dX11_clauses_4 (by decide) ?_
  obtain ⟨hi3, hf⟩ := ck_of hf
  refine r_iald hC hR ok_q1 hi3 dX11_clauses_5 ?_
  refine lv_if_ge (tgt := 13) hx hb dX11_clauses_6 (by decide) (fun hc => ?_) (fun hc => ?_)
  · replace hf := if_t hf hc
    refine lv_aload_n hx hb dX11_clauses_13 rfl (lv_at hl 0 rfl) ?_
    obtain ⟨q4, hq5, ok_q4, hf⟩ := gR_of hf
    refine gf_RX11_13 hC hR ok_this hq5 dX11_clauses_14 ?_
    refine lv_sipush (v := 700) hx hb dX11_clauses_17 (by decide) ?_
    refine lv_aload_n hx hb dX11_clauses_20 rfl (lv_at hl 0 rfl) ?_
    obtain ⟨q6, hq7, ok_q6, hf⟩ := gR_of hf
    refine gf_RX11_7 hC hR ok_this hq7 dX11_clauses_21 ?_
    refine lv_iconst (v := 4) hx hb dX11_clauses_24 (by decide) ?_
    obtain ⟨hi8, hf⟩ := ck_of hf
    refine r_iald hC hR ok_q6 hi8 dX11_clauses_25 ?_
    refine lv_imul hx hb dX11_clauses_26 ?_
    obtain ⟨hi9, hf⟩ := ck_of hf
    refine r_iald hC hR ok_q4 hi9 dX11_clauses_27 ?_
    exact r_iret hC hR hS hE hf dX11_clauses_28
  · replace hf := if_f hf hc
    refine lv_iconst (v := 0) hx hb dX11_clauses_9 (by decide) ?_
    refine lv_goto (tgt := 28) hx hb dX11_clauses_10 (by decide) ?_
    exact r_iret hC hR hS hE hf dX11_clauses_28
abbrev rX11_sortAt : Room := { frames := 0, cells := 0, slots := 0, locals := 0 }
def f_X11_sortAt (_n : Nat) (this : Nat) (a1 : Int32) (S : MS) : Option (Int32 × MS) :=
  gR S (mR S this 5) 12 fun q1 => gR S (mR S this 0) 12 fun q3 => ck (inb (4 : Int32) (mN S q3)) (ck (inb ((((700 : Int32) * (mI S q3 (4 : Int32).toNatClampNeg)) + (1 : Int32)) + ((4 : Int32) * a1)) (mN S q1)) (some ((mI S q1 ((((700 : Int32) * (mI S q3 (4 : Int32).toNatClampNeg)) + (1 : Int32)) + ((4 : Int32) * a1)).toNatClampNeg), S)))
set_option maxRecDepth 100000 in
set_option maxHeartbeats 4000000 in
theorem c_X11_sortAt (l : Launch) (G : Gx) (n : Nat) (this : Nat) (a1 : Int32) (S : MS) (ro : Int32) (So : MS) (hf : f_X11_sortAt n this a1 S = some (ro, So)) (ok_this : Ok S this 11) : Cn G l yX11_sortAt cX11_sortAt 2 (some .int) rX11_sortAt [.ref this, .int a1] S (some (.int ro)) So := by
  refine Cn.of (by decide) (Nat.le_of_ble_eq_true rfl) ?_
  intro p e s m args below meth c hC hname hR ls hl
  have hC : Cx G RX11 cX11_sortAt 2 (some .int) p s m args meth c := hC
  have hl : lv_has ls 2 [(0, .ref this), (1, .int a1)] := hl
  have hx := hC.x
  have hb := hC.b
  have hS : va_S (gA G) s.heap s.heap [] := va_S.rf
  have hE : Ex S S := Ex.rf S
  unfold f_X11_sortAt at hf
  refine lv_aload_n hx hb dX11_sortAt_0 rfl (lv_at hl 0 rfl) ?_
  obtain ⟨q1, hq2, ok_q1, hf⟩ := gR_of hf
  refine gf_RX11_13 hC hR ok_this hq2 dX11_sortAt_1 ?_
  refine lv_sipush (v := 700) hx hb dX11_sortAt_4 (by decide) ?_
  refine lv_aload_n hx hb dX11_sortAt_7 rfl (lv_at hl 0 rfl) ?_
  obtain ⟨q3, hq4, ok_q3, hf⟩ := gR_of hf
  refine gf_RX11_7 hC hR ok_this hq4 dX11_sortAt_8 ?_
  refine lv_iconst (v := 4) hx hb dX11_sortAt_11 (by decide) ?_
  obtain ⟨hi5, hf⟩ := ck_of hf
  refine r_iald hC hR ok_q3 hi5 dX11_sortAt_12 ?_
  refine lv_imul hx hb dX11_sortAt_13 ?_
  refine lv_iconst (v := 1) hx hb dX11_sortAt_14 (by decide) ?_
  refine lv_iadd hx hb dX11_sortAt_15 ?_
  refine lv_iconst (v := 4) hx hb dX11_sortAt_16 (by decide) ?_
  refine lv_iload_n hx hb dX11_sortAt_17 rfl (lv_at hl 1 rfl) ?_
  refine lv_imul hx hb dX11_sortAt_18 ?_
  refine lv_iadd hx hb dX11_sortAt_19 ?_
  obtain ⟨hi6, hf⟩ := ck_of hf
  refine r_iald hC hR ok_q1 hi6 dX11_sortAt_20 ?_
  exact r_iret hC hR hS hE hf dX11_sortAt_21
abbrev rX11_clauseOf : Room := { frames := 1, cells := 0, slots := 0, locals := 21 }
def f_X11_clauseOf_L2 (n : Nat) (this : Nat) (a1 : Int32) : Nat → Int32 → MS → Option (Int32 × MS)
  | 0, _, _ => none
  | k + 1, x3, S4 => jn (f_X11_clauseOf_L2 n this a1 k) fun rec2_2 => cl (f_X11_clauses n this S4) fun x8 S5 => (if x8 ≤ x3 then some ((-1 : Int32), S5) else cl (f_X11_sortAt n this x3 S5) fun x12 S9 => (if x12 = a1 then some (x3, S9) else bd (x3 + (1 : Int32)) fun x13 => rec2_2 x13 S9))
def f_X11_clauseOf (n : Nat) (this : Nat) (a1 : Int32) (S : MS) : Option (Int32 × MS) :=
  f_X11_clauseOf_L2 n this a1 n (0 : Int32) S
set_option maxRecDepth 100000 in
set_option maxHeartbeats 4000000 in
theorem c_X11_clauseOf (l : Launch) (G : Gx) (n : Nat) (this : Nat) (a1 : Int32) (S : MS) (ro : Int32) (So : MS) (hf : f_X11_clauseOf n this a1 S = some (ro, So)) (ok_this : Ok S this 11) : Cn G l yX11_clauseOf cX11_clauseOf 3 (some .int) rX11_clauseOf [.ref this, .int a1] S (some (.int ro)) So := by
  refine Cn.of (by decide) (Nat.le_of_ble_eq_true rfl) ?_
  intro p e s m args below meth c hC hname hR ls hl
  have hC : Cx G RX11 cX11_clauseOf 3 (some .int) p s m args meth c := hC
  have hl : lv_has ls 3 [(0, .ref this), (1, .int a1)] := hl
  have hx := hC.x
  have hb := hC.b
  have hS : va_S (gA G) s.heap s.heap [] := va_S.rf
  have hE : Ex S S := Ex.rf S
  unfold f_X11_clauseOf at hf
  refine lv_iconst (v := 0) hx hb dX11_clauseOf_0 (by decide) ?_
  refine lv_istore_n (lv' := [(2, .int (0 : Int32)), (0, .ref this), (1, .int a1)]) hx hb dX11_clauseOf_1 rfl hl (by decide) rfl (fun ls hl => ?_)
  have hh14 : ∀ k : Nat, ∀ (x3 : Int32) (S4 : MS) (H : Heap) (locs : List Loc) (ls : Array Slot), f_X11_clauseOf_L2 n this a1 k x3 S4 = some (ro, So) → Rp G S4 H → va_S (gA G) s.heap H locs → Ex S S4 → Ok S4 this 11 → lv_has ls 3 [(0, .ref this), (1, .int a1), (2, .int x3)] → W p l e rX11_clauseOf s m args below meth c H locs 0 0 (MQ below (Qn G S (some (.int ro)) So) args s 0 0 (gA G)) (F0 m 2 ls []) := by
    intro k
    induction k with
    | zero =>
      intro x3 S4 H locs ls hf hR hS hE ok_this hl
      exact absurd hf (by rw [f_X11_clauseOf_L2]; exact fun h => by cases h)
    | succ k ih =>
      intro x3 S4 H locs ls hf hR hS hE ok_this hl
      rw [f_X11_clauseOf_L2] at hf
      obtain ⟨rec2_2, erec2_2, hf⟩ := jn_of2 hf
      have hL2_1 : ∀ (x3 : Int32) (S4 : MS) (H : Heap) (locs : List Loc) (ls : Array Slot), rec2_2 x3 S4 = some (ro, So) → Rp G S4 H → va_S (gA G) s.heap H locs → Ex S S4 → Ok S4 this 11 → lv_has ls 3 [(0, .ref this), (1, .int a1), (2, .int x3)] → W p l e rX11_clauseOf s m args below meth c H locs 0 0 (MQ below (Qn G S (some (.int ro)) So) args s 0 0 (gA G)) (F0 m 2 ls []) := by
        intro x3 S4 H locs ls hf hR hS hE ok_this hl
        rw [erec2_2] at hf
        exact ih x3 S4 _ _ _ hf hR hS hE ok_this hl
      refine lv_iload_n hx hb dX11_clauseOf_2 rfl (lv_at hl 2 rfl) ?_
      refine lv_aload_n hx hb dX11_clauseOf_3 rfl (lv_at hl 0 rfl) ?_
      obtain ⟨x8, S5, hc6, hf⟩ := cl_of hf
      refine cl_RX11_282 (As := []) (rest := [.int x3]) hC hR hS (c_X11_clauses l G n this S4 x8 S5 hc6 ok_this) ok_this rfl ⟨Nat.le_of_ble_eq_true rfl, Nat.le_of_ble_eq_true rfl⟩ hl.1 rfl (Nat.le_of_ble_eq_true rfl) dX11_clauseOf_4 (Nat.zero_le _) (Nat.zero_le _) (fun H locs hR hS hE7 => ?_)
      have ok_this := hE7 _ _ ok_this
      have hE := hE.tr hE7
      refine lv_icmp_ge (tgt := 27) hx hb dX11_clauseOf_7 (by decide) (fun hc => ?_) (fun hc => ?_)
      · replace hf := if_t hf hc
        refine lv_iconst (v := -1) hx hb dX11_clauseOf_27 (by decide) ?_
        exact r_iret hC hR hS hE hf dX11_clauseOf_28
      · replace hf := if_f hf hc
        refine lv_aload_n hx hb dX11_clauseOf_10 rfl (lv_at hl 0 rfl) ?_
        refine lv_iload_n hx hb dX11_clauseOf_11 rfl (lv_at hl 2 rfl) ?_
        obtain ⟨x12, S9, hc10, hf⟩ := cl_of hf
        refine cl_RX11_285 (As := [.int x3]) (rest := []) hC hR hS (c_X11_sortAt l G n this x3 S5 x12 S9 hc10 ok_this) ok_this rfl ⟨Nat.le_of_ble_eq_true rfl, Nat.le_of_ble_eq_true rfl⟩ hl.1 rfl (Nat.le_of_ble_eq_true rfl) dX11_clauseOf_12 (Nat.zero_le _) (Nat.zero_le _) (fun H locs hR hS hE11 => ?_)
        have ok_this := hE11 _ _ ok_this
        have hE := hE.tr hE11
        refine lv_iload_n hx hb dX11_clauseOf_15 rfl (lv_at hl 1 rfl) ?_
        refine lv_icmp_ne (tgt := 21) hx hb dX11_clauseOf_16 (by decide) (fun hc => ?_) (fun hc => ?_)
        · replace hf := if_f hf hc
          refine r_iinc (n := 1) (z := 1) (lv' := fun x13 => [(2, .int x13), (0, .ref this), (1, .int a1)]) hx hb dX11_clauseOf_21 hl (k := 2) rfl (by decide) (by decide) (fun _ => rfl) hf (fun x13 ls hf hl => ?_)
          refine lv_goto (tgt := 2) hx hb dX11_clauseOf_24 (by decide) ?_
          exact hL2_1 x13 S9 _ _ _ hf hR hS hE ok_this (lv_sub hl [1, 2, 0] rfl)
        · replace hf := if_t hf hc
          refine lv_iload_n hx hb dX11_clauseOf_19 rfl (lv_at hl 2 rfl) ?_
          exact r_iret hC hR hS hE hf dX11_clauseOf_20
  exact hh14 n (0 : Int32) S _ _ _ hf hR hS hE ok_this (lv_sub hl [1, 2, 0] rfl)
abbrev rX11_stepTo : Room := { frames := 1, cells := 0, slots := 0, locals := 22 }
def f_X11_stepTo (n : Nat) (this : Nat) (a1 : Int32) (a2 : Int32) (a3 : Int32) (S : MS) : Option (Int32 × MS) :=
  dv (mI S this 1) (bd ((a1 - a1 / (mI S this 1) * (mI S this 1)) + a2) fun x2 => dv (mI S this 1) (bd ((a1 / (mI S this 1)) + a3) fun x4 => cl (f_X11_isIn n x2 (0 : Int32) ((mI S this 1) - (1 : Int32)) S) fun x8 S5 => (if x8 = 0 then some ((-1 : Int32), S5) else cl (f_X11_isIn n x4 (0 : Int32) ((mI S5 this 2) - (1 : Int32)) S5) fun x12 S9 => (if x12 = 0 then some ((-1 : Int32), S9) else some ((x2 + ((mI S9 this 1) * x4)), S9)))))
set_option maxRecDepth 100000 in
set_option maxHeartbeats 4000000 in
theorem c_X11_stepTo (l : Launch) (G : Gx) (n : Nat) (this : Nat) (a1 : Int32) (a2 : Int32) (a3 : Int32) (S : MS) (ro : Int32) (So : MS) (hf : f_X11_stepTo n this a1 a2 a3 S = some (ro, So)) (ok_this : Ok S this 11) : Cn G l yX11_stepTo cX11_stepTo 6 (some .int) rX11_stepTo [.ref this, .int a1, .int a2, .int a3] S (some (.int ro)) So := by
  refine Cn.of (by decide) (Nat.le_of_ble_eq_true rfl) ?_
  intro p e s m args below meth c hC hname hR ls hl
  have hC : Cx G RX11 cX11_stepTo 6 (some .int) p s m args meth c := hC
  have hl : lv_has ls 6 [(0, .ref this), (1, .int a1), (2, .int a2), (3, .int a3)] := hl
  have hx := hC.x
  have hb := hC.b
  have hS : va_S (gA G) s.heap s.heap [] := va_S.rf
  have hE : Ex S S := Ex.rf S
  unfold f_X11_stepTo at hf
  refine lv_iload_n hx hb dX11_stepTo_0 rfl (lv_at hl 1 rfl) ?_
  refine lv_aload_n hx hb dX11_stepTo_1 rfl (lv_at hl 0 rfl) ?_
  refine gf_RX11_58 hC hR ok_this dX11_stepTo_2 ?_
  obtain ⟨hn1, hf⟩ := dv_of hf
  refine lv_irem hx hb dX11_stepTo_5 hn1 ?_
  refine lv_iload_n hx hb dX11_stepTo_6 rfl (lv_at hl 2 rfl) ?_
  refine lv_iadd hx hb dX11_stepTo_7 ?_
  refine bdi hf (fun x2 hf => ?_)
  refine lv_istore (lv' := [(4, .int x2), (0, .ref this), (1, .int a1), (2, .int a2), (3, .int a3)]) hx hb dX11_stepTo_8 hl (by decide) rfl (fun ls hl => ?_)
  refine lv_iload_n hx hb dX11_stepTo_10 rfl (lv_at hl 2 rfl) ?_
  refine lv_aload_n hx hb dX11_stepTo_11 rfl (lv_at hl 1 rfl) ?_
  refine gf_RX11_58 hC hR ok_this dX11_stepTo_12 ?_
  obtain ⟨hn3, hf⟩ := dv_of hf
  refine lv_idiv hx hb dX11_stepTo_15 hn3 ?_
  refine lv_iload_n hx hb dX11_stepTo_16 rfl (lv_at hl 4 rfl) ?_
  refine lv_iadd hx hb dX11_stepTo_17 ?_
  refine bdi hf (fun x4 hf => ?_)
  refine lv_istore (lv' := [(5, .int x4), (4, .int x2), (0, .ref this), (1, .int a1), (2, .int a2), (3, .int a3)]) hx hb dX11_stepTo_18 hl (by decide) rfl (fun ls hl => ?_)
  refine lv_iload hx hb dX11_stepTo_20 (lv_at hl 1 rfl) ?_
  refine lv_iconst (v := 0) hx hb dX11_stepTo_22 (by decide) ?_
  refine lv_aload_n hx hb dX11_stepTo_23 rfl (lv_at hl 2 rfl) ?_
  refine gf_RX11_58 hC hR ok_this dX11_stepTo_24 ?_
  refine lv_iconst (v := 1) hx hb dX11_stepTo_27 (by decide) ?_
  refine lv_isub hx hb dX11_stepTo_28 ?_
  obtain ⟨x8, S5, hc6, hf⟩ := cl_of hf
  refine cl_RX11_71 (As := [.int x2, .int (0 : Int32), .int ((mI S this 1) - (1 : Int32))]) (rest := []) hC hR hS (c_X11_isIn l G n x2 (0 : Int32) ((mI S this 1) - (1 : Int32)) S x8 S5 hc6 ) rfl ⟨Nat.le_of_ble_eq_true rfl, Nat.le_of_ble_eq_true rfl⟩ hl.1 rfl (Nat.le_of_ble_eq_true rfl) dX11_stepTo_29 (Nat.zero_le _) (Nat.zero_le _) (fun H locs hR hS hE7 => ?_)
  have ok_this := hE7 _ _ ok_this
  have hE := hE.tr hE7
  refine lv_if_eq (tgt := 63) hx hb dX11_stepTo_32 (by decide) (fun hc => ?_) (fun hc => ?_)
  · replace hf := if_t hf hc
    refine lv_iconst (v := -1) hx hb dX11_stepTo_63 (by decide) ?_
    exact r_iret hC hR hS hE hf dX11_stepTo_64
  · replace hf := if_f hf hc
    refine lv_iload hx hb dX11_stepTo_35 (lv_at hl 0 rfl) ?_
    refine lv_iconst (v := 0) hx hb dX11_stepTo_37 (by decide) ?_
    refine lv_aload_n hx hb dX11_stepTo_38 rfl (lv_at hl 2 rfl) ?_
    refine gf_RX11_61 hC hR ok_this dX11_stepTo_39 ?_
    refine lv_iconst (v := 1) hx hb dX11_stepTo_42 (by decide) ?_
    refine lv_isub hx hb dX11_stepTo_43 ?_
    obtain ⟨x12, S9, hc10, hf⟩ := cl_of hf
    refine cl_RX11_71 (As := [.int x4, .int (0 : Int32), .int ((mI S5 this 2) - (1 : Int32))]) (rest := []) hC hR hS (c_X11_isIn l G n x4 (0 : Int32) ((mI S5 this 2) - (1 : Int32)) S5 x12 S9 hc10 ) rfl ⟨Nat.le_of_ble_eq_true rfl, Nat.le_of_ble_eq_true rfl⟩ hl.1 rfl (Nat.le_of_ble_eq_true rfl) dX11_stepTo_44 (Nat.zero_le _) (Nat.zero_le _) (fun H locs hR hS hE11 => ?_)
    have ok_this := hE11 _ _ ok_this
    have hE := hE.tr hE11
    refine lv_if_eq (tgt := 63) hx hb dX11_stepTo_47 (by decide) (fun hc => ?_) (fun hc => ?_)
    · replace hf := if_t hf hc
      refine lv_iconst (v := -1) hx hb dX11_stepTo_63 (by decide) ?_
      exact r_iret hC hR hS hE hf dX11_stepTo_64
    · replace hf := if_f hf hc
      refine lv_iload hx hb dX11_stepTo_50 (lv_at hl 1 rfl) ?_
      refine lv_aload_n hx hb dX11_stepTo_52 rfl (lv_at hl 2 rfl) ?_
      refine gf_RX11_58 hC hR ok_this dX11_stepTo_53 ?_
      refine lv_iload hx hb dX11_stepTo_56 (lv_at hl 0 rfl) ?_
      refine lv_imul hx hb dX11_stepTo_58 ?_
      refine lv_iadd hx hb dX11_stepTo_59 ?_
      refine lv_goto (tgt := 64) hx hb dX11_stepTo_60 (by decide) ?_
      exact r_iret hC hR hS hE hf dX11_stepTo_64
abbrev rX11_sideOf : Room := { frames := 2, cells := 0, slots := 0, locals := 47 }
def f_X11_sideOf (n : Nat) (this : Nat) (a1 : Int32) (a2 : Int32) (S : MS) : Option (Int32 × MS) :=
  jn (fun (q3 : Nat) (x4 : Int32) (x5 : Int32) (S6 : MS) => (if a2 = (2 : Int32) then cl (f_X11_stepTo n q3 x4 x5 (1 : Int32) S6) fun x18 S15 => some (x18, S15) else (if a2 = 0 then cl (f_X11_stepTo n q3 x4 x5 (-1 : Int32) S6) fun x14 S11 => some (x14, S11) else cl (f_X11_stepTo n q3 x4 x5 (0 : Int32) S6) fun x10 S7 => some (x10, S7)))) fun j21_2 => (if a2 = (1 : Int32) then j21_2 this a1 (1 : Int32) S else (if a2 = (3 : Int32) then j21_2 this a1 (-1 : Int32) S else j21_2 this a1 (0 : Int32) S))
set_option maxRecDepth 100000 in
set_option maxHeartbeats 4000000 in
theorem c_X11_sideOf (l : Launch) (G : Gx) (n : Nat) (this : Nat) (a1 : Int32) (a2 : Int32) (S : MS) (ro : Int32) (So : MS) (hf : f_X11_sideOf n this a1 a2 S = some (ro, So)) (ok_this : Ok S this 11) : Cn G l yX11_sideOf cX11_sideOf 3 (some .int) rX11_sideOf [.ref this, .int a1, .int a2] S (some (.int ro)) So := by
  refine Cn.of (by decide) (Nat.le_of_ble_eq_true rfl) ?_
  intro p e s m args below meth c hC hname hR ls hl
  have hC : Cx G RX11 cX11_sideOf 3 (some .int) p s m args meth c := hC
  have hl : lv_has ls 3 [(0, .ref this), (1, .int a1), (2, .int a2)] := hl
  have hx := hC.x
  have hb := hC.b
  have hS : va_S (gA G) s.heap s.heap [] := va_S.rf
  have hE : Ex S S := Ex.rf S
  unfold f_X11_sideOf at hf
  refine lv_aload_n hx hb dX11_sideOf_0 rfl (lv_at hl 0 rfl) ?_
  refine lv_iload_n hx hb dX11_sideOf_1 rfl (lv_at hl 1 rfl) ?_
  refine lv_iload_n hx hb dX11_sideOf_2 rfl (lv_at hl 2 rfl) ?_
  refine lv_iconst (v := 1) hx hb dX11_sideOf_3 (by decide) ?_
  obtain ⟨j21_2, ej21_2, hf⟩ := jn_of4 hf
  have hj21_1 : ∀ (q3 : Nat) (x4 : Int32) (x5 : Int32) (S6 : MS) (H : Heap) (locs : List Loc) (ls : Array Slot), j21_2 q3 x4 x5 S6 = some (ro, So) → Rp G S6 H → va_S (gA G) s.heap H locs → Ex S S6 → Ok S6 q3 11 → lv_has ls 3 [(2, .int a2)] → W p l e rX11_sideOf s m args below meth c H locs 0 0 (MQ below (Qn G S (some (.int ro)) So) args s 0 0 (gA G)) (F0 m 21 ls [.int x5, .int x4, .ref q3]) := by
    intro q3 x4 x5 S6 H locs ls hf hR hS hE ok_q3 hl
    rw [ej21_2] at hf
    refine lv_iload_n hx hb dX11_sideOf_21 rfl (lv_at hl 0 rfl) ?_
    refine lv_iconst (v := 2) hx hb dX11_sideOf_22 (by decide) ?_
    refine lv_icmp_ne (tgt := 30) hx hb dX11_sideOf_23 (by decide) (fun hc => ?_) (fun hc => ?_)
    · replace hf := if_f hf hc
      refine lv_iload_n hx hb dX11_sideOf_30 rfl (lv_at hl 0 rfl) ?_
      refine lv_if_ne (tgt := 38) hx hb dX11_sideOf_31 (by decide) (fun hc => ?_) (fun hc => ?_)
      · replace hf := if_f hf hc
        refine lv_iconst (v := 0) hx hb dX11_sideOf_38 (by decide) ?_
        obtain ⟨x10, S7, hc8, hf⟩ := cl_of hf
        refine cl_RX11_288 (As := [.int x4, .int x5, .int (0 : Int32)]) (rest := []) hC hR hS (c_X11_stepTo l G n q3 x4 x5 (0 : Int32) S6 x10 S7 hc8 ok_q3) ok_q3 rfl ⟨Nat.le_of_ble_eq_true rfl, Nat.le_of_ble_eq_true rfl⟩ hl.1 rfl (Nat.le_of_ble_eq_true rfl) dX11_sideOf_39 (Nat.zero_le _) (Nat.zero_le _) (fun H locs hR hS hE9 => ?_)
        have ok_q3 := hE9 _ _ ok_q3
        have hE := hE.tr hE9
        exact r_iret hC hR hS hE hf dX11_sideOf_42
      · replace hf := if_t hf hc
        refine lv_iconst (v := -1) hx hb dX11_sideOf_34 (by decide) ?_
        refine lv_goto (tgt := 39) hx hb dX11_sideOf_35 (by decide) ?_
        obtain ⟨x14, S11, hc12, hf⟩ := cl_of hf
        refine cl_RX11_288 (As := [.int x4, .int x5, .int (-1 : Int32)]) (rest := []) hC hR hS (c_X11_stepTo l G n q3 x4 x5 (-1 : Int32) S6 x14 S11 hc12 ok_q3) ok_q3 rfl ⟨Nat.le_of_ble_eq_true rfl, Nat.le_of_ble_eq_true rfl⟩ hl.1 rfl (Nat.le_of_ble_eq_true rfl) dX11_sideOf_39 (Nat.zero_le _) (Nat.zero_le _) (fun H locs hR hS hE13 => ?_)
        have ok_q3 := hE13 _ _ ok_q3
        have hE := hE.tr hE13
        exact r_iret hC hR hS hE hf dX11_sideOf_42
    · replace hf := if_t hf hc
      refine lv_iconst (v := 1) hx hb dX11_sideOf_26 (by decide) ?_
      refine lv_goto (tgt := 39) hx hb dX11_sideOf_27 (by decide) ?_
      obtain ⟨x18, S15, hc16, hf⟩ := cl_of hf
      refine cl_RX11_288 (As := [.int x4, .int x5, .int (1 : Int32)]) (rest := []) hC hR hS (c_X11_stepTo l G n q3 x4 x5 (1 : Int32) S6 x18 S15 hc16 ok_q3) ok_q3 rfl ⟨Nat.le_of_ble_eq_true rfl, Nat.le_of_ble_eq_true rfl⟩ hl.1 rfl (Nat.le_of_ble_eq_true rfl) dX11_sideOf_39 (Nat.zero_le _) (Nat.zero_le _) (fun H locs hR hS hE17 => ?_)
      have ok_q3 := hE17 _ _ ok_q3
      have hE := hE.tr hE17
      exact r_iret hC hR hS hE hf dX11_sideOf_42
  refine lv_icmp_ne (tgt := 11) hx hb dX11_sideOf_4 (by decide) (fun hc => ?_) (fun hc => ?_)
  · replace hf := if_f hf hc
    refine lv_iload_n hx hb dX11_sideOf_11 rfl (lv_at hl 2 rfl) ?_
    refine lv_iconst (v := 3) hx hb dX11_sideOf_12 (by decide) ?_
    refine lv_icmp_ne (tgt := 20) hx hb dX11_sideOf_13 (by decide) (fun hc => ?_) (fun hc => ?_)
    · replace hf := if_f hf hc
      refine lv_iconst (v := 0) hx hb dX11_sideOf_20 (by decide) ?_
      exact hj21_1 this a1 (0 : Int32) S _ _ _ hf hR hS hE ok_this (lv_sub hl [2] rfl)
    · replace hf := if_t hf hc
      refine lv_iconst (v := -1) hx hb dX11_sideOf_16 (by decide) ?_
      refine lv_goto (tgt := 21) hx hb dX11_sideOf_17 (by decide) ?_
      exact hj21_1 this a1 (-1 : Int32) S _ _ _ hf hR hS hE ok_this (lv_sub hl [2] rfl)
  · replace hf := if_t hf hc
    refine lv_iconst (v := 1) hx hb dX11_sideOf_7 (by decide) ?_
    refine lv_goto (tgt := 21) hx hb dX11_sideOf_8 (by decide) ?_
    exact hj21_1 this a1 (1 : Int32) S _ _ _ hf hR hS hE ok_this (lv_sub hl [2] rfl)
abbrev rX11_nameBone : Room := { frames := 3, cells := 0, slots := 0, locals := 69 }
def f_X11_nameBone_L11 (n : Nat) (this : Nat) (a1 : Int32) (x4 : Int32) (j64_6 : Int32 → MS → Option (MS)) : Nat → Int32 → Int32 → MS → Option (MS)
  | 0, _, _, _ => none
  | k + 1, x53, x54, S55 => jn (f_X11_nameBone_L11 n this a1 x4 j64_6 k) fun rec11_52 => (if (4 : Int32) ≤ x54 then j64_6 x53 S55 else cl (f_X11_sideOf n this x4 x54 S55) fun x59 S56 => jn (fun (x62 : Int32) (x63 : Int32) (S64 : MS) => bd (x62 + x63) fun x65 => bd (x54 + (1 : Int32)) fun x66 => rec11_52 x65 x66 S64) fun j56_61 => jn (fun (x69 : Int32) (S70 : MS) => j56_61 x69 (0 : Int32) S70) fun j55_68 => (if x59 < 0 then j55_68 x53 S56 else gR S56 (mR S56 this 0) 12 fun q71 => ck (inb (((mI S56 this 4) + (290 : Int32)) + x59) (mN S56 q71)) ((if (mI S56 q71 (((mI S56 this 4) + (290 : Int32)) + x59).toNatClampNeg) ≤ 0 then j55_68 x53 S56 else j56_61 x53 (1 : Int32) S56))))
def f_X11_nameBone (n : Nat) (this : Nat) (a1 : Int32) (S : MS) : Option (MS) :=
  cl (f_X11_cellOf n this a1 S) fun x4 S1 => jn (fun (x7 : Int32) (S8 : MS) => gR S8 (mR S8 this 25) 12 fun q9 => gR S8 (mR S8 this 0) 12 fun q11 => ck (inb ((((mI S8 this 4) + (10 : Int32)) + ((3 : Int32) * a1)) + (1 : Int32)) (mN S8 q11)) (ck (inb (0 : Int32) (mN S8 q9)) (bd (sI S8 q9 (0 : Int32).toNatClampNeg (mI S8 q11 ((((mI S8 this 4) + (10 : Int32)) + ((3 : Int32) * a1)) + (1 : Int32)).toNatClampNeg)) fun S15 => gR S15 (mR S15 this 25) 12 fun q17 => gR S15 (mR S15 this 0) 12 fun q19 => ck (inb ((((mI S15 this 4) + (10 : Int32)) + ((3 : Int32) * a1)) + (2 : Int32)) (mN S15 q19)) (ck (inb (1 : Int32) (mN S15 q17)) (bd (sI S15 q17 (1 : Int32).toNatClampNeg (mI S15 q19 ((((mI S15 this 4) + (10 : Int32)) + ((3 : Int32) * a1)) + (2 : Int32)).toNatClampNeg)) fun S23 => gR S23 (mR S23 this 25) 12 fun q25 => ck (inb (2 : Int32) (mN S23 q25)) (bd (sI S23 q25 (2 : Int32).toNatClampNeg x7) fun S28 => gR S28 (mR S28 this 25) 12 fun q30 => dv (mI S28 this 1) (ck (inb (3 : Int32) (mN S28 q30)) (bd (sI S28 q30 (3 : Int32).toNatClampNeg (x4 - x4 / (mI S28 this 1) * (mI S28 this 1))) fun S34 => gR S34 (mR S34 this 25) 12 fun q36 => dv (mI S34 this 1) (ck (inb (4 : Int32) (mN S34 q36)) (bd (sI S34 q36 (4 : Int32).toNatClampNeg (x4 / (mI S34 this 1))) fun S40 => gR S40 (mR S40 this 25) 12 fun q42 => gR S40 (mR S40 this 0) 12 fun q44 => ck (inb ((mI S40 this 4) + (0 : Int32)) (mN S40 q44)) (dv (24 : Int32) (ck (inb (5 : Int32) (mN S40 q42)) (bd (sI S40 q42 (5 : Int32).toNatClampNeg ((mI S40 q44 ((mI S40 this 4) + (0 : Int32)).toNatClampNeg) - (mI S40 q44 ((mI S40 this 4) + (0 : Int32)).toNatClampNeg) / (24 : Int32) * (24 : Int32))) fun S49 => some S49))))))))))))) fun j64_6 => f_X11_nameBone_L11 n this a1 x4 j64_6 n (0 : Int32) (0 : Int32) S1
set_option maxRecDepth 100000 in
set_option maxHeartbeats 4000000 in
theorem c_X11_nameBone (l : Launch) (G : Gx) (n : Nat) (this : Nat) (a1 : Int32) (S : MS) (So : MS) (hf : f_X11_nameBone n this a1 S = some So) (ok_this : Ok S this 11) : Cn G l yX11_nameBone cX11_nameBone 6 none rX11_nameBone [.ref this, .int a1] S none So := by
  refine Cn.of (by decide) (Nat.le_of_ble_eq_true rfl) ?_
  intro p e s m args below meth c hC hname hR ls hl
  have hC : Cx G RX11 cX11_nameBone 6 none p s m args meth c := hC
  have hl : lv_has ls 6 [(0, .ref this), (1, .int a1)] := hl
  have hx := hC.x
  have hb := hC.b
  have hS : va_S (gA G) s.heap s.heap [] := va_S.rf
  have hE : Ex S S := Ex.rf S
  unfold f_X11_nameBone at hf
  refine lv_aload_n hx hb dX11_nameBone_0 rfl (lv_at hl 0 rfl) ?_
  refine lv_iload_n hx hb dX11_nameBone_1 rfl (lv_at hl 1 rfl) ?_
  obtain ⟨x4, S1, hc2, hf⟩ := cl_of hf
  refine cl_RX11_291 (As := [.int a1]) (rest := []) hC hR hS (c_X11_cellOf l G n this a1 S x4 S1 hc2 ok_this) ok_this rfl ⟨Nat.le_of_ble_eq_true rfl, Nat.le_of_ble_eq_true rfl⟩ hl.1 rfl (Nat.le_of_ble_eq_true rfl) dX11_nameBone_2 (Nat.zero_le _) (Nat.zero_le _) (fun H locs hR hS hE3 => ?_)
  have ok_this := hE3 _ _ ok_this
  have hE := hE.tr hE3
  refine lv_istore_n (lv' := [(2, .int x4), (0, .ref this), (1, .int a1)]) hx hb dX11_nameBone_5 rfl hl (by decide) rfl (fun ls hl => ?_)
  refine lv_iconst (v := 0) hx hb dX11_nameBone_6 (by decide) ?_
  refine lv_istore_n (lv' := [(3, .int (0 : Int32)), (2, .int x4), (0, .ref this), (1, .int a1)]) hx hb dX11_nameBone_7 rfl hl (by decide) rfl (fun ls hl => ?_)
  refine lv_iconst (v := 0) hx hb dX11_nameBone_8 (by decide) ?_
  refine lv_istore (lv' := [(4, .int (0 : Int32)), (3, .int (0 : Int32)), (2, .int x4), (0, .ref this), (1, .int a1)]) hx hb dX11_nameBone_9 hl (by decide) rfl (fun ls hl => ?_)
  obtain ⟨j64_6, ej64_6, hf⟩ := jn_of2 hf
  have hj64_5 : ∀ (x7 : Int32) (S8 : MS) (H : Heap) (locs : List Loc) (ls : Array Slot), j64_6 x7 S8 = some So → Rp G S8 H → va_S (gA G) s.heap H locs → Ex S S8 → Ok S8 this 11 → lv_has ls 6 [(0, .ref this), (1, .int a1), (2, .int x4), (3, .int x7)] → W p l e rX11_nameBone s m args below meth c H locs 0 0 (MQ below (Qn G S none So) args s 0 0 (gA G)) (F0 m 64 ls []) := by
    intro x7 S8 H locs ls hf hR hS hE ok_this hl
    rw [ej64_6] at hf
    refine lv_aload_n hx hb dX11_nameBone_64 rfl (lv_at hl 0 rfl) ?_
    obtain ⟨q9, hq10, ok_q9, hf⟩ := gR_of hf
    refine gf_RX11_29 hC hR ok_this hq10 dX11_nameBone_65 ?_
    refine lv_iconst (v := 0) hx hb dX11_nameBone_68 (by decide) ?_
    refine lv_aload_n hx hb dX11_nameBone_69 rfl (lv_at hl 0 rfl) ?_
    obtain ⟨q11, hq12, ok_q11, hf⟩ := gR_of hf
    refine gf_RX11_7 hC hR ok_this hq12 dX11_nameBone_70 ?_
    refine lv_aload_n hx hb dX11_nameBone_73 rfl (lv_at hl 0 rfl) ?_
    refine gf_RX11_75 hC hR ok_this dX11_nameBone_74 ?_
    refine lv_bipush (v := 10) hx hb dX11_nameBone_77 (by decide) ?_
    refine lv_iadd hx hb dX11_nameBone_79 ?_
    refine lv_iconst (v := 3) hx hb dX11_nameBone_80 (by decide) ?_
    refine lv_iload_n hx hb dX11_nameBone_81 rfl (lv_at hl 1 rfl) ?_
    refine lv_imul hx hb dX11_nameBone_82 ?_
    refine lv_iadd hx hb dX11_nameBone_83 ?_
    refine lv_iconst (v := 1) hx hb dX11_nameBone_84 (by decide) ?_
    refine lv_iadd hx hb dX11_nameBone_85 ?_
    obtain ⟨hi13, hf⟩ := ck_of hf
    refine r_iald hC hR ok_q11 hi13 dX11_nameBone_86 ?_
    obtain ⟨hi14, hf⟩ := ck_of hf
    refine rB_iast hC hR hS ok_q9 hi14 dX11_nameBone_87 hf (fun S15 H locs hf hR hS hE16 => ?_)
    have ok_this := hE16 _ _ ok_this
    have ok_q9 := hE16 _ _ ok_q9
    have ok_q11 := hE16 _ _ ok_q11
    have hE := hE.tr hE16
    refine lv_aload_n hx hb dX11_nameBone_88 rfl (lv_at hl 0 rfl) ?_
    obtain ⟨q17, hq18, ok_q17, hf⟩ := gR_of hf
    refine gf_RX11_29 hC hR ok_this hq18 dX11_nameBone_89 ?_
    refine lv_iconst (v := 1) hx hb dX11_nameBone_92 (by decide) ?_
    refine lv_aload_n hx hb dX11_nameBone_93 rfl (lv_at hl 0 rfl) ?_
    obtain ⟨q19, hq20, ok_q19, hf⟩ := gR_of hf
    refine gf_RX11_7 hC hR ok_this hq20 dX11_nameBone_94 ?_
    refine lv_aload_n hx hb dX11_nameBone_97 rfl (lv_at hl 0 rfl) ?_
    refine gf_RX11_75 hC hR ok_this dX11_nameBone_98 ?_
    refine lv_bipush (v := 10) hx hb dX11_nameBone_101 (by decide) ?_
    refine lv_iadd hx hb dX11_nameBone_103 ?_
    refine lv_iconst (v := 3) hx hb dX11_nameBone_104 (by decide) ?_
    refine lv_iload_n hx hb dX11_nameBone_105 rfl (lv_at hl 1 rfl) ?_
    refine lv_imul hx hb dX11_nameBone_106 ?_
    refine lv_iadd hx hb dX11_nameBone_107 ?_
    refine lv_iconst (v := 2) hx hb dX11_nameBone_108 (by decide) ?_
    refine lv_iadd hx hb dX11_nameBone_109 ?_
    obtain ⟨hi21, hf⟩ := ck_of hf
    refine r_iald hC hR ok_q19 hi21 dX11_nameBone_110 ?_
    obtain ⟨hi22, hf⟩ := ck_of hf
    refine rB_iast hC hR hS ok_q17 hi22 dX11_nameBone_111 hf (fun S23 H locs hf hR hS hE24 => ?_)
    have ok_this := hE24 _ _ ok_this
    have ok_q9 := hE24 _ _ ok_q9
    have ok_q11 := hE24 _ _ ok_q11
    have ok_q17 := hE24 _ _ ok_q17
    have ok_q19 := hE24 _ _ ok_q19
    have hE := hE.tr hE24
    refine lv_aload_n hx hb dX11_nameBone_112 rfl (lv_at hl 0 rfl) ?_
    obtain ⟨q25, hq26, ok_q25, hf⟩ := gR_of hf
    refine gf_RX11_29 hC hR ok_this hq26 dX11_nameBone_113 ?_
    refine lv_iconst (v := 2) hx hb dX11_nameBone_116 (by decide) ?_
    refine lv_iload_n hx hb dX11_nameBone_117 rfl (lv_at hl 3 rfl) ?_
    obtain ⟨hi27, hf⟩ := ck_of hf
    refine rB_iast hC hR hS ok_q25 hi27 dX11_nameBone_118 hf (fun S28 H locs hf hR hS hE29 => ?_)
    have ok_this := hE29 _ _ ok_this
    have ok_q9 := hE29 _ _ ok_q9
    have ok_q11 := hE29 _ _ ok_q11
    have ok_q17 := hE29 _ _ ok_q17
    have ok_q19 := hE29 _ _ ok_q19
    have ok_q25 := hE29 _ _ ok_q25
    have hE := hE.tr hE29
    refine lv_aload_n hx hb dX11_nameBone_119 rfl (lv_at hl 0 rfl) ?_
    obtain ⟨q30, hq31, ok_q30, hf⟩ := gR_of hf
    refine gf_RX11_29 hC hR ok_this hq31 dX11_nameBone_120 ?_
    refine lv_iconst (v := 3) hx hb dX11_nameBone_123 (by decide) ?_
    refine lv_iload_n hx hb dX11_nameBone_124 rfl (lv_at hl 2 rfl) ?_
    refine lv_aload_n hx hb dX11_nameBone_125 rfl (lv_at hl 0 rfl) ?_
    refine gf_RX11_58 hC hR ok_this dX11_nameBone_126 ?_
    obtain ⟨hn32, hf⟩ := dv_of hf
    refine lv_irem hx hb dX11_nameBone_129 hn32 ?_
    obtain ⟨hi33, hf⟩ := ck_of hf
    refine rB_iast hC hR hS ok_q30 hi33 dX11_nameBone_130 hf (fun S34 H locs hf hR hS hE35 => ?_)
    have ok_this := hE35 _ _ ok_this
    have ok_q9 := hE35 _ _ ok_q9
    have ok_q11 := hE35 _ _ ok_q11
    have ok_q17 := hE35 _ _ ok_q17
    have ok_q19 := hE35 _ _ ok_q19
    have ok_q25 := hE35 _ _ ok_q25
    have ok_q30 := hE35 _ _ ok_q30
    have hE := hE.tr hE35
    refine lv_aload_n hx hb dX11_nameBone_131 rfl (lv_at hl 0 rfl) ?_
    obtain ⟨q36, hq37, ok_q36, hf⟩ := gR_of hf
    refine gf_RX11_29 hC hR ok_this hq37 dX11_nameBone_132 ?_
    refine lv_iconst (v := 4) hx hb dX11_nameBone_135 (by decide) ?_
    refine lv_iload_n hx hb dX11_nameBone_136 rfl (lv_at hl 2 rfl) ?_
    refine lv_aload_n hx hb dX11_nameBone_137 rfl (lv_at hl 0 rfl) ?_
    refine gf_RX11_58 hC hR ok_this dX11_nameBone_138 ?_
    obtain ⟨hn38, hf⟩ := dv_of hf
    refine lv_idiv hx hb dX11_nameBone_141 hn38 ?_
    obtain ⟨hi39, hf⟩ := ck_of hf
    refine rB_iast hC hR hS ok_q36 hi39 dX11_nameBone_142 hf (fun S40 H locs hf hR hS hE41 => ?_)
    have ok_this := hE41 _ _ ok_this
    have ok_q9 := hE41 _ _ ok_q9
    have ok_q11 := hE41 _ _ ok_q11
    have ok_q17 := hE41 _ _ ok_q17
    have ok_q19 := hE41 _ _ ok_q19
    have ok_q25 := hE41 _ _ ok_q25
    have ok_q30 := hE41 _ _ ok_q30
    have ok_q36 := hE41 _ _ ok_q36
    have hE := hE.tr hE41
    refine lv_aload_n hx hb dX11_nameBone_143 rfl (lv_at hl 0 rfl) ?_
    obtain ⟨q42, hq43, ok_q42, hf⟩ := gR_of hf
    refine gf_RX11_29 hC hR ok_this hq43 dX11_nameBone_144 ?_
    refine lv_iconst (v := 5) hx hb dX11_nameBone_147 (by decide) ?_
    refine lv_aload_n hx hb dX11_nameBone_148 rfl (lv_at hl 0 rfl) ?_
    obtain ⟨q44, hq45, ok_q44, hf⟩ := gR_of hf
    refine gf_RX11_7 hC hR ok_this hq45 dX11_nameBone_149 ?_
    refine lv_aload_n hx hb dX11_nameBone_152 rfl (lv_at hl 0 rfl) ?_
    refine gf_RX11_75 hC hR ok_this dX11_nameBone_153 ?_
    refine lv_iconst (v := 0) hx hb dX11_nameBone_156 (by decide) ?_
    refine lv_iadd hx hb dX11_nameBone_157 ?_
    obtain ⟨hi46, hf⟩ := ck_of hf
    refine r_iald hC hR ok_q44 hi46 dX11_nameBone_158 ?_
    refine lv_bipush (v := 24) hx hb dX11_nameBone_159 (by decide) ?_
    obtain ⟨hn47, hf⟩ := dv_of hf
    refine lv_irem hx hb dX11_nameBone_161 hn47 ?_
    obtain ⟨hi48, hf⟩ := ck_of hf
    refine rB_iast hC hR hS ok_q42 hi48 dX11_nameBone_162 hf (fun S49 H locs hf hR hS hE50 => ?_)
    have ok_this := hE50 _ _ ok_this
    have ok_q9 := hE50 _ _ ok_q9
    have ok_q11 := hE50 _ _ ok_q11
    have ok_q17 := hE50 _ _ ok_q17
    have ok_q19 := hE50 _ _ ok_q19
    have ok_q25 := hE50 _ _ ok_q25
    have ok_q30 := hE50 _ _ ok_q30
    have ok_q36 := hE50 _ _ ok_q36
    have ok_q42 := hE50 _ _ ok_q42
    have ok_q44 := hE50 _ _ ok_q44
    have hE := hE.tr hE50
    exact r_vret hC hR hS hE hf dX11_nameBone_163
  have hh79 : ∀ k : Nat, ∀ (x53 : Int32) (x54 : Int32) (S55 : MS) (H : Heap) (locs : List Loc) (ls : Array Slot), f_X11_nameBone_L11 n this a1 x4 j64_6 k x53 x54 S55 = some So → Rp G S55 H → va_S (gA G) s.heap H locs → Ex S S55 → Ok S55 this 11 → lv_has ls 6 [(0, .ref this), (1, .int a1), (2, .int x4), (3, .int x53), (4, .int x54)] → W p l e rX11_nameBone s m args below meth c H locs 0 0 (MQ below (Qn G S none So) args s 0 0 (gA G)) (F0 m 11 ls []) := by
    intro k
    induction k with
    | zero =>
      intro x53 x54 S55 H locs ls hf hR hS hE ok_this hl
      exact absurd hf (by rw [f_X11_nameBone_L11]; exact fun h => by cases h)
    | succ k ih =>
      intro x53 x54 S55 H locs ls hf hR hS hE ok_this hl
      rw [f_X11_nameBone_L11] at hf
      obtain ⟨rec11_52, erec11_52, hf⟩ := jn_of3 hf
      have hL11_51 : ∀ (x53 : Int32) (x54 : Int32) (S55 : MS) (H : Heap) (locs : List Loc) (ls : Array Slot), rec11_52 x53 x54 S55 = some So → Rp G S55 H → va_S (gA G) s.heap H locs → Ex S S55 → Ok S55 this 11 → lv_has ls 6 [(0, .ref this), (1, .int a1), (2, .int x4), (3, .int x53), (4, .int x54)] → W p l e rX11_nameBone s m args below meth c H locs 0 0 (MQ below (Qn G S none So) args s 0 0 (gA G)) (F0 m 11 ls []) := by
        intro x53 x54 S55 H locs ls hf hR hS hE ok_this hl
        rw [erec11_52] at hf
        exact ih x53 x54 S55 _ _ _ hf hR hS hE ok_this hl
      refine lv_iload hx hb dX11_nameBone_11 (lv_at hl 4 rfl) ?_
      refine lv_iconst (v := 4) hx hb dX11_nameBone_13 (by decide) ?_
      refine lv_icmp_ge (tgt := 64) hx hb dX11_nameBone_14 (by decide) (fun hc => ?_) (fun hc => ?_)
      · replace hf := if_t hf hc
        exact hj64_5 x53 S55 _ _ _ hf hR hS hE ok_this (lv_sub hl [0, 1, 2, 3] rfl)
      · replace hf := if_f hf hc
        refine lv_aload_n hx hb dX11_nameBone_17 rfl (lv_at hl 0 rfl) ?_
        refine lv_iload_n hx hb dX11_nameBone_18 rfl (lv_at hl 2 rfl) ?_
        refine lv_iload hx hb dX11_nameBone_19 (lv_at hl 4 rfl) ?_
        obtain ⟨x59, S56, hc57, hf⟩ := cl_of hf
        refine cl_RX11_294 (As := [.int x4, .int x54]) (rest := []) hC hR hS (c_X11_sideOf l G n this x4 x54 S55 x59 S56 hc57 ok_this) ok_this rfl ⟨Nat.le_of_ble_eq_true rfl, Nat.le_of_ble_eq_true rfl⟩ hl.1 rfl (Nat.le_of_ble_eq_true rfl) dX11_nameBone_21 (Nat.zero_le _) (Nat.zero_le _) (fun H locs hR hS hE58 => ?_)
        have ok_this := hE58 _ _ ok_this
        have hE := hE.tr hE58
        refine lv_istore (lv' := [(5, .int x59), (0, .ref this), (1, .int a1), (2, .int x4), (3, .int x53), (4, .int x54)]) hx hb dX11_nameBone_24 hl (by decide) rfl (fun ls hl => ?_)
        refine lv_iload_n hx hb dX11_nameBone_26 rfl (lv_at hl 4 rfl) ?_
        refine lv_iload hx hb dX11_nameBone_27 (lv_at hl 0 rfl) ?_
        obtain ⟨j56_61, ej56_61, hf⟩ := jn_of3 hf
        have hj56_60 : ∀ (x62 : Int32) (x63 : Int32) (S64 : MS) (H : Heap) (locs : List Loc) (ls : Array Slot), j56_61 x62 x63 S64 = some So → Rp G S64 H → va_S (gA G) s.heap H locs → Ex S S64 → Ok S64 this 11 → lv_has ls 6 [(0, .ref this), (1, .int a1), (2, .int x4), (4, .int x54)] → W p l e rX11_nameBone s m args below meth c H locs 0 0 (MQ below (Qn G S none So) args s 0 0 (gA G)) (F0 m 56 ls [.int x63, .int x62]) := by
          intro x62 x63 S64 H locs ls hf hR hS hE ok_this hl
          rw [ej56_61] at hf
          refine lv_iadd hx hb dX11_nameBone_56 ?_
          refine bdi hf (fun x65 hf => ?_)
          refine lv_istore_n (lv' := [(3, .int x65), (0, .ref this), (1, .int a1), (2, .int x4), (4, .int x54)]) hx hb dX11_nameBone_57 rfl hl (by decide) rfl (fun ls hl => ?_)
          refine r_iinc (n := 1) (z := 1) (lv' := fun x66 => [(4, .int x66), (3, .int x65), (0, .ref this), (1, .int a1), (2, .int x4)]) hx hb dX11_nameBone_58 hl (k := 4) rfl (by decide) (by decide) (fun _ => rfl) hf (fun x66 ls hf hl => ?_)
          refine lv_goto (tgt := 11) hx hb dX11_nameBone_61 (by decide) ?_
          exact hL11_51 x65 x66 S64 _ _ _ hf hR hS hE ok_this (lv_sub hl [2, 3, 4, 1, 0] rfl)
        obtain ⟨j55_68, ej55_68, hf⟩ := jn_of2 hf
        have hj55_67 : ∀ (x69 : Int32) (S70 : MS) (H : Heap) (locs : List Loc) (ls : Array Slot), j55_68 x69 S70 = some So → Rp G S70 H → va_S (gA G) s.heap H locs → Ex S S70 → Ok S70 this 11 → lv_has ls 6 [(0, .ref this), (1, .int a1), (2, .int x4), (4, .int x54)] → W p l e rX11_nameBone s m args below meth c H locs 0 0 (MQ below (Qn G S none So) args s 0 0 (gA G)) (F0 m 55 ls [.int x69]) := by
          intro x69 S70 H locs ls hf hR hS hE ok_this hl
          rw [ej55_68] at hf
          refine lv_iconst (v := 0) hx hb dX11_nameBone_55 (by decide) ?_
          exact hj56_60 x69 (0 : Int32) S70 _ _ _ hf hR hS hE ok_this (lv_sub hl [0, 1, 2, 3] rfl)
        refine lv_if_lt (tgt := 55) hx hb dX11_nameBone_29 (by decide) (fun hc => ?_) (fun hc => ?_)
        · replace hf := if_t hf hc
          exact hj55_67 x53 S56 _ _ _ hf hR hS hE ok_this (lv_sub hl [1, 2, 3, 5] rfl)
        · replace hf := if_f hf hc
          refine lv_aload_n hx hb dX11_nameBone_32 rfl (lv_at hl 1 rfl) ?_
          obtain ⟨q71, hq72, ok_q71, hf⟩ := gR_of hf
          refine gf_RX11_7 hC hR ok_this hq72 dX11_nameBone_33 ?_
          refine lv_aload_n hx hb dX11_nameBone_36 rfl (lv_at hl 1 rfl) ?_
          refine gf_RX11_75 hC hR ok_this dX11_nameBone_37 ?_
          refine lv_sipush (v := 290) hx hb dX11_nameBone_40 (by decide) ?_
          refine lv_iadd hx hb dX11_nameBone_43 ?_
          refine lv_iload hx hb dX11_nameBone_44 (lv_at hl 0 rfl) ?_
          refine lv_iadd hx hb dX11_nameBone_46 ?_
          obtain ⟨hi73, hf⟩ := ck_of hf
          refine r_iald hC hR ok_q71 hi73 dX11_nameBone_47 ?_
          refine lv_if_le (tgt := 55) hx hb dX11_nameBone_48 (by decide) (fun hc => ?_) (fun hc => ?_)
          · replace hf := if_t hf hc
            exact hj55_67 x53 S56 _ _ _ hf hR hS hE ok_this (lv_sub hl [1, 2, 3, 5] rfl)
          · replace hf := if_f hf hc
            refine lv_iconst (v := 1) hx hb dX11_nameBone_51 (by decide) ?_
            refine lv_goto (tgt := 56) hx hb dX11_nameBone_52 (by decide) ?_
            exact hj56_60 x53 (1 : Int32) S56 _ _ _ hf hR hS hE ok_this (lv_sub hl [1, 2, 3, 5] rfl)
  exact hh79 n (0 : Int32) (0 : Int32) S1 _ _ _ hf hR hS hE ok_this (lv_sub hl [3, 4, 2, 1, 0] rfl)
abbrev rX11_holdOf : Room := { frames := 4, cells := 0, slots := 0, locals := 94 }
def f_X11_holdOf (n : Nat) (this : Nat) (a1 : Int32) (S : MS) : Option (Int32 × MS) :=
  cv (f_X11_nameBone n this a1 S) fun S1 => cl (f_X11_clauseOf n this (0 : Int32) S1) fun x7 S4 => (if 0 ≤ x7 then cv (f_X11_work n this x7 S4) fun S8 => gR S8 (mR S8 this 26) 13 fun q11 => ck (inb (0 : Int32) (mN S8 q11)) (some (((mJ S8 q11 (0 : Int32).toNatClampNeg).toInt32), S8)) else gR S4 (mR S4 this 25) 12 fun q14 => ck (inb (0 : Int32) (mN S4 q14)) (some ((mI S4 q14 (0 : Int32).toNatClampNeg), S4)))
set_option maxRecDepth 100000 in
set_option maxHeartbeats 4000000 in
theorem c_X11_holdOf (l : Launch) (G : Gx) (n : Nat) (this : Nat) (a1 : Int32) (S : MS) (ro : Int32) (So : MS) (hf : f_X11_holdOf n this a1 S = some (ro, So)) (ok_this : Ok S this 11) : Cn G l yX11_holdOf cX11_holdOf 3 (some .int) rX11_holdOf [.ref this, .int a1] S (some (.int ro)) So := by
  refine Cn.of (by decide) (Nat.le_of_ble_eq_true rfl) ?_
  intro p e s m args below meth c hC hname hR ls hl
  have hC : Cx G RX11 cX11_holdOf 3 (some .int) p s m args meth c := hC
  have hl : lv_has ls 3 [(0, .ref this), (1, .int a1)] := hl
  have hx := hC.x
  have hb := hC.b
  have hS : va_S (gA G) s.heap s.heap [] := va_S.rf
  have hE : Ex S S := Ex.rf S
  unfold f_X11_holdOf at hf
  refine lv_aload_n hx hb dX11_holdOf_0 rfl (lv_at hl 0 rfl) ?_
  refine lv_iload_n hx hb dX11_holdOf_1 rfl (lv_at hl 1 rfl) ?_
  obtain ⟨S1, hc2, hf⟩ := cv_of hf
  refine cl_RX11_297 (As := [.int a1]) (rest := []) hC hR hS (c_X11_nameBone l G n this a1 S S1 hc2 ok_this) ok_this rfl ⟨Nat.le_of_ble_eq_true rfl, Nat.le_of_ble_eq_true rfl⟩ hl.1 rfl (Nat.le_of_ble_eq_true rfl) dX11_holdOf_2 (Nat.zero_le _) (Nat.zero_le _) (fun H locs hR hS hE3 => ?_)
  have ok_this := hE3 _ _ ok_this
  have hE := hE.tr hE3
  refine lv_aload_n hx hb dX11_holdOf_5 rfl (lv_at hl 0 rfl) ?_
  refine lv_iconst (v := 0) hx hb dX11_holdOf_6 (by decide) ?_
  obtain ⟨x7, S4, hc5, hf⟩ := cl_of hf
  refine cl_RX11_300 (As := [.int (0 : Int32)]) (rest := []) hC hR hS (c_X11_clauseOf l G n this (0 : Int32) S1 x7 S4 hc5 ok_this) ok_this rfl ⟨Nat.le_of_ble_eq_true rfl, Nat.le_of_ble_eq_true rfl⟩ hl.1 rfl (Nat.le_of_ble_eq_true rfl) dX11_holdOf_7 (Nat.zero_le _) (Nat.zero_le _) (fun H locs hR hS hE6 => ?_)
  have ok_this := hE6 _ _ ok_this
  have hE := hE.tr hE6
  refine lv_istore_n (lv' := [(2, .int x7), (0, .ref this), (1, .int a1)]) hx hb dX11_holdOf_10 rfl hl (by decide) rfl (fun ls hl => ?_)
  refine lv_iload_n hx hb dX11_holdOf_11 rfl (lv_at hl 0 rfl) ?_
  refine lv_if_ge (tgt := 22) hx hb dX11_holdOf_12 (by decide) (fun hc => ?_) (fun hc => ?_)
  · replace hf := if_t hf hc
    refine lv_aload_n hx hb dX11_holdOf_22 rfl (lv_at hl 1 rfl) ?_
    refine lv_iload_n hx hb dX11_holdOf_23 rfl (lv_at hl 0 rfl) ?_
    obtain ⟨S8, hc9, hf⟩ := cv_of hf
    refine cl_RX11_303 (As := [.int x7]) (rest := []) hC hR hS (c_X11_work l G n this x7 S4 S8 hc9 ok_this) ok_this rfl ⟨Nat.le_of_ble_eq_true rfl, Nat.le_of_ble_eq_true rfl⟩ hl.1 rfl (Nat.le_of_ble_eq_true rfl) dX11_holdOf_24 (Nat.zero_le _) (Nat.zero_le _) (fun H locs hR hS hE10 => ?_)
    have ok_this := hE10 _ _ ok_this
    have hE := hE.tr hE10
    refine lv_aload_n hx hb dX11_holdOf_27 rfl (lv_at hl 1 rfl) ?_
    obtain ⟨q11, hq12, ok_q11, hf⟩ := gR_of hf
    refine gf_RX11_32 hC hR ok_this hq12 dX11_holdOf_28 ?_
    refine lv_iconst (v := 0) hx hb dX11_holdOf_31 (by decide) ?_
    obtain ⟨hi13, hf⟩ := ck_of hf
    refine r_lald hC hR ok_q11 hi13 dX11_holdOf_32 ?_
    refine lv_l2i (v := ((mJ S8 q11 (0 : Int32).toNatClampNeg).toInt32)) hx hb dX11_holdOf_33 rfl ?_
    exact r_iret hC hR hS hE hf dX11_holdOf_34
  · replace hf := if_f hf hc
    refine lv_aload_n hx hb dX11_holdOf_15 rfl (lv_at hl 1 rfl) ?_
    obtain ⟨q14, hq15, ok_q14, hf⟩ := gR_of hf
    refine gf_RX11_29 hC hR ok_this hq15 dX11_holdOf_16 ?_
    refine lv_iconst (v := 0) hx hb dX11_holdOf_19 (by decide) ?_
    obtain ⟨hi16, hf⟩ := ck_of hf
    refine r_iald hC hR ok_q14 hi16 dX11_holdOf_20 ?_
    exact r_iret hC hR hS hE hf dX11_holdOf_21
abbrev rX11_lay : Room := { frames := 1, cells := 0, slots := 0, locals := 21 }
def f_X11_lay (n : Nat) (this : Nat) (a1 : Int32) (a2 : Int32) (S : MS) : Option (MS) :=
  gR S (mR S this 0) 12 fun q1 => cl (f_X11_cellOf n this a1 S) fun x6 S3 => ck (inb (((mI S this 4) + (290 : Int32)) + x6) (mN S3 q1)) (bd (sI S3 q1 (((mI S this 4) + (290 : Int32)) + x6).toNatClampNeg (0 : Int32)) fun S8 => gR S8 (mR S8 this 0) 12 fun q10 => ck (inb (((mI S8 this 4) + (10 : Int32)) + ((3 : Int32) * a1)) (mN S8 q10)) (bd (sI S8 q10 (((mI S8 this 4) + (10 : Int32)) + ((3 : Int32) * a1)).toNatClampNeg a2) fun S13 => gR S13 (mR S13 this 0) 12 fun q15 => ck (inb (((mI S13 this 4) + (290 : Int32)) + a2) (mN S13 q15)) (bd (sI S13 q15 (((mI S13 this 4) + (290 : Int32)) + a2).toNatClampNeg (a1 + (1 : Int32))) fun S18 => gR S18 (mR S18 this 0) 12 fun q20 => ck (inb (((mI S18 this 4) + (240 : Int32)) + a2) (mN S18 q20)) (bd (sI S18 q20 (((mI S18 this 4) + (240 : Int32)) + a2).toNatClampNeg (-1 : Int32)) fun S23 => some S23))))
set_option maxRecDepth 100000 in
set_option maxHeartbeats 4000000 in
theorem c_X11_lay (l : Launch) (G : Gx) (n : Nat) (this : Nat) (a1 : Int32) (a2 : Int32) (S : MS) (So : MS) (hf : f_X11_lay n this a1 a2 S = some So) (ok_this : Ok S this 11) : Cn G l yX11_lay cX11_lay 3 none rX11_lay [.ref this, .int a1, .int a2] S none So := by
  refine Cn.of (by decide) (Nat.le_of_ble_eq_true rfl) ?_
  intro p e s m args below meth c hC hname hR ls hl
  have hC : Cx G RX11 cX11_lay 3 none p s m args meth c := hC
  have hl : lv_has ls 3 [(0, .ref this), (1, .int a1), (2, .int a2)] := hl
  have hx := hC.x
  have hb := hC.b
  have hS : va_S (gA G) s.heap s.heap [] := va_S.rf
  have hE : Ex S S := Ex.rf S
  unfold f_X11_lay at hf
  refine lv_aload_n hx hb dX11_lay_0 rfl (lv_at hl 0 rfl) ?_
  obtain ⟨q1, hq2, ok_q1, hf⟩ := gR_of hf
  refine gf_RX11_7 hC hR ok_this hq2 dX11_lay_1 ?_
  refine lv_aload_n hx hb dX11_lay_4 rfl (lv_at hl 0 rfl) ?_
  refine gf_RX11_75 hC hR ok_this dX11_lay_5 ?_
  refine lv_sipush (v := 290) hx hb dX11_lay_8 (by decide) ?_
  refine lv_iadd hx hb dX11_lay_11 ?_
  refine lv_aload_n hx hb dX11_lay_12 rfl (lv_at hl 0 rfl) ?_
  refine lv_iload_n hx hb dX11_lay_13 rfl (lv_at hl 1 rfl) ?_
  obtain ⟨x6, S3, hc4, hf⟩ := cl_of hf
  refine cl_RX11_291 (As := [.int a1]) (rest := [.int ((mI S this 4) + (290 : Int32)), .ref q1]) hC hR hS (c_X11_cellOf l G n this a1 S x6 S3 hc4 ok_this) ok_this rfl ⟨Nat.le_of_ble_eq_true rfl, Nat.le_of_ble_eq_true rfl⟩ hl.1 rfl (Nat.le_of_ble_eq_true rfl) dX11_lay_14 (Nat.zero_le _) (Nat.zero_le _) (fun H locs hR hS hE5 => ?_)
  have ok_this := hE5 _ _ ok_this
  have ok_q1 := hE5 _ _ ok_q1
  have hE := hE.tr hE5
  refine lv_iadd hx hb dX11_lay_17 ?_
  refine lv_iconst (v := 0) hx hb dX11_lay_18 (by decide) ?_
  obtain ⟨hi7, hf⟩ := ck_of hf
  refine rB_iast hC hR hS ok_q1 hi7 dX11_lay_19 hf (fun S8 H locs hf hR hS hE9 => ?_)
  have ok_this := hE9 _ _ ok_this
  have ok_q1 := hE9 _ _ ok_q1
  have hE := hE.tr hE9
  refine lv_aload_n hx hb dX11_lay_20 rfl (lv_at hl 0 rfl) ?_
  obtain ⟨q10, hq11, ok_q10, hf⟩ := gR_of hf
  refine gf_RX11_7 hC hR ok_this hq11 dX11_lay_21 ?_
  refine lv_aload_n hx hb dX11_lay_24 rfl (lv_at hl 0 rfl) ?_
  refine gf_RX11_75 hC hR ok_this dX11_lay_25 ?_
  refine lv_bipush (v := 10) hx hb dX11_lay_28 (by decide) ?_
  refine lv_iadd hx hb dX11_lay_30 ?_
  refine lv_iconst (v := 3) hx hb dX11_lay_31 (by decide) ?_
  refine lv_iload_n hx hb dX11_lay_32 rfl (lv_at hl 1 rfl) ?_
  refine lv_imul hx hb dX11_lay_33 ?_
  refine lv_iadd hx hb dX11_lay_34 ?_
  refine lv_iload_n hx hb dX11_lay_35 rfl (lv_at hl 2 rfl) ?_
  obtain ⟨hi12, hf⟩ := ck_of hf
  refine rB_iast hC hR hS ok_q10 hi12 dX11_lay_36 hf (fun S13 H locs hf hR hS hE14 => ?_)
  have ok_this := hE14 _ _ ok_this
  have ok_q1 := hE14 _ _ ok_q1
  have ok_q10 := hE14 _ _ ok_q10
  have hE := hE.tr hE14
  refine lv_aload_n hx hb dX11_lay_37 rfl (lv_at hl 0 rfl) ?_
  obtain ⟨q15, hq16, ok_q15, hf⟩ := gR_of hf
  refine gf_RX11_7 hC hR ok_this hq16 dX11_lay_38 ?_
  refine lv_aload_n hx hb dX11_lay_41 rfl (lv_at hl 0 rfl) ?_
  refine gf_RX11_75 hC hR ok_this dX11_lay_42 ?_
  refine lv_sipush (v := 290) hx hb dX11_lay_45 (by decide) ?_
  refine lv_iadd hx hb dX11_lay_48 ?_
  refine lv_iload_n hx hb dX11_lay_49 rfl (lv_at hl 2 rfl) ?_
  refine lv_iadd hx hb dX11_lay_50 ?_
  refine lv_iload_n hx hb dX11_lay_51 rfl (lv_at hl 1 rfl) ?_
  refine lv_iconst (v := 1) hx hb dX11_lay_52 (by decide) ?_
  refine lv_iadd hx hb dX11_lay_53 ?_
  obtain ⟨hi17, hf⟩ := ck_of hf
  refine rB_iast hC hR hS ok_q15 hi17 dX11_lay_54 hf (fun S18 H locs hf hR hS hE19 => ?_)
  have ok_this := hE19 _ _ ok_this
  have ok_q1 := hE19 _ _ ok_q1
  have ok_q10 := hE19 _ _ ok_q10
  have ok_q15 := hE19 _ _ ok_q15
  have hE := hE.tr hE19
  refine lv_aload_n hx hb dX11_lay_55 rfl (lv_at hl 0 rfl) ?_
  obtain ⟨q20, hq21, ok_q20, hf⟩ := gR_of hf
  refine gf_RX11_7 hC hR ok_this hq21 dX11_lay_56 ?_
  refine lv_aload_n hx hb dX11_lay_59 rfl (lv_at hl 0 rfl) ?_
  refine gf_RX11_75 hC hR ok_this dX11_lay_60 ?_
  refine lv_sipush (v := 240) hx hb dX11_lay_63 (by decide) ?_
  refine lv_iadd hx hb dX11_lay_66 ?_
  refine lv_iload_n hx hb dX11_lay_67 rfl (lv_at hl 2 rfl) ?_
  refine lv_iadd hx hb dX11_lay_68 ?_
  refine lv_iconst (v := -1) hx hb dX11_lay_69 (by decide) ?_
  obtain ⟨hi22, hf⟩ := ck_of hf
  refine rB_iast hC hR hS ok_q20 hi22 dX11_lay_70 hf (fun S23 H locs hf hR hS hE24 => ?_)
  have ok_this := hE24 _ _ ok_this
  have ok_q1 := hE24 _ _ ok_q1
  have ok_q10 := hE24 _ _ ok_q10
  have ok_q15 := hE24 _ _ ok_q15
  have ok_q20 := hE24 _ _ ok_q20
  have hE := hE.tr hE24
  exact r_vret hC hR hS hE hf dX11_lay_71
abbrev rX11_goes : Room := { frames := 5, cells := 0, slots := 0, locals := 116 }
def f_X11_goes_L144 (n : Nat) (this : Nat) (a1 : Int32) (x1 : Int32) (x24 : Int32) (j187_42 : Int32 → MS → Option (Int32 × MS)) (j200_31 : Int32 → MS → Option (Int32 × MS)) : Nat → Int32 → Int32 → MS → Option (Int32 × MS)
  | 0, _, _, _ => none
  | k + 1, x47, x48, S49 => jn (f_X11_goes_L144 n this a1 x1 x24 j187_42 j200_31 k) fun rec144_46 => (if x24 ≤ x48 then j200_31 x47 S49 else gR S49 (mR S49 this 0) 12 fun q50 => ck (inb x1 (mN S49 q50)) (gR S49 (mR S49 this 0) 12 fun q53 => ck (inb (x1 + (1 : Int32)) (mN S49 q53)) (cl (f_X11_stepTo n this x47 (mI S49 q50 x1.toNatClampNeg) (mI S49 q53 (x1 + (1 : Int32)).toNatClampNeg) S49) fun x59 S56 => (if x59 < 0 then j200_31 x47 S56 else cl (f_X11_isFree n this x59 S56) fun x63 S60 => (if x63 = 0 then j187_42 x47 S60 else bd (x48 + (1 : Int32)) fun x64 => rec144_46 x59 x64 S60)))))
def f_X11_goes (n : Nat) (this : Nat) (a1 : Int32) (a2 : Int32) (S : MS) : Option (Int32 × MS) :=
  bd ((100 : Int32) + ((4 : Int32) * a2)) fun x1 => gR S (mR S this 0) 12 fun q2 => ck (inb (x1 + (2 : Int32)) (mN S q2)) (cl (f_X11_holdOf n this a1 S) fun x8 S5 => bd ((mI S q2 (x1 + (2 : Int32)).toNatClampNeg) - x8) fun x9 => (if x9 ≤ 0 then zb (0 : Int32) (some ((0 : Int32), S5)) else gR S5 (mR S5 this 0) 12 fun q10 => ck (inb x1 (mN S5 q10)) (jn (fun (S15 : MS) => dv (20 : Int32) (bd ((1 : Int32) + (x9 / (20 : Int32))) fun x17 => cl (f_X11_clauseOf n this (1 : Int32) S15) fun x21 S18 => jn (fun (x24 : Int32) (S25 : MS) => cl (f_X11_cellOf n this a1 S25) fun x29 S26 => jn (fun (x32 : Int32) (S33 : MS) => cl (f_X11_cellOf n this a1 S33) fun x37 S34 => (if x32 = x37 then zb (0 : Int32) (some ((0 : Int32), S34)) else cv (f_X11_lay n this a1 x32 S34) fun S38 => zb (1 : Int32) (some ((1 : Int32), S38)))) fun j200_31 => jn (fun (x43 : Int32) (S44 : MS) => j200_31 x43 S44) fun j187_42 => f_X11_goes_L144 n this a1 x1 x24 j187_42 j200_31 n x29 (0 : Int32) S26) fun j134_23 => (if x21 < 0 then jn (fun (x72 : Int32) (S73 : MS) => j134_23 x72 S73) fun j132_71 => (if x17 ≤ (9 : Int32) then j132_71 x17 S18 else j132_71 (9 : Int32) S18) else gR S18 (mR S18 this 25) 12 fun q76 => gR S18 (mR S18 this 0) 12 fun q78 => ck (inb (x1 + (2 : Int32)) (mN S18 q78)) (ck (inb (6 : Int32) (mN S18 q76)) (bd (sI S18 q76 (6 : Int32).toNatClampNeg (mI S18 q78 (x1 + (2 : Int32)).toNatClampNeg)) fun S82 => gR S82 (mR S82 this 25) 12 fun q84 => ck (inb (7 : Int32) (mN S82 q84)) (bd (sI S82 q84 (7 : Int32).toNatClampNeg x9) fun S87 => cv (f_X11_work n this x21 S87) fun S89 => gR S89 (mR S89 this 26) 13 fun q92 => ck (inb (0 : Int32) (mN S89 q92)) (cl (f_X11_held n (mJ S89 q92 (0 : Int32).toNatClampNeg) (0 : Int32) (9 : Int32) S89) fun x98 S95 => j134_23 x98 S95))))))) fun j50_14 => (if (mI S5 q10 x1.toNatClampNeg) = 0 then gR S5 (mR S5 this 0) 12 fun q101 => ck (inb (x1 + (1 : Int32)) (mN S5 q101)) ((if (mI S5 q101 (x1 + (1 : Int32)).toNatClampNeg) = 0 then zb (0 : Int32) (some ((0 : Int32), S5)) else j50_14 S5)) else j50_14 S5))))
set_option maxRecDepth 100000 in
set_option maxHeartbeats 4000000 in
theorem c_X11_goes (l : Launch) (G : Gx) (n : Nat) (this : Nat) (a1 : Int32) (a2 : Int32) (S : MS) (ro : Int32) (So : MS) (hf : f_X11_goes n this a1 a2 S = some (ro, So)) (ok_this : Ok S this 11) : Cn G l yX11_goes cX11_goes 10 (some .boolean) rX11_goes [.ref this, .int a1, .int a2] S (some (.int ro)) So := by
  refine Cn.of (by decide) (Nat.le_of_ble_eq_true rfl) ?_
  intro p e s m args below meth c hC hname hR ls hl
  have hC : Cx G RX11 cX11_goes 10 (some .boolean) p s m args meth c := hC
  have hl : lv_has ls 10 [(0, .ref this), (1, .int a1), (2, .int a2)] := hl
  have hx := hC.x
  have hb := hC.b
  have hS : va_S (gA G) s.heap s.heap [] := va_S.rf
  have hE : Ex S S := Ex.rf S
  unfold f_X11_goes at hf
  refine lv_bipush (v := 100) hx hb dX11_goes_0 (by decide) ?_
  refine lv_iconst (v := 4) hx hb dX11_goes_2 (by decide) ?_
  refine lv_iload_n hx hb dX11_goes_3 rfl (lv_at hl 2 rfl) ?_
  refine lv_imul hx hb dX11_goes_4 ?_
  refine lv_iadd hx hb dX11_goes_5 ?_
  refine bdi hf (fun x1 hf => ?_)
  refine lv_istore_n (lv' := [(3, .int x1), (0, .ref this), (1, .int a1), (2, .int a2)]) hx hb dX11_goes_6 rfl hl (by decide) rfl (fun ls hl => ?_)
  refine lv_aload_n hx hb dX11_goes_7 rfl (lv_at hl 1 rfl) ?_
  obtain ⟨q2, hq3, ok_q2, hf⟩ := gR_of hf
  refine gf_RX11_7 hC hR ok_this hq3 dX11_goes_8 ?_
  refine lv_iload_n hx hb dX11_goes_11 rfl (lv_at hl 0 rfl) ?_
  refine lv_iconst (v := 2) hx hb dX11_goes_12 (by decide) ?_
  refine lv_iadd hx hb dX11_goes_13 ?_
  obtain ⟨hi4, hf⟩ := ck_of hf
  refine r_iald hC hR ok_q2 hi4 dX11_goes_14 ?_
  refine lv_aload_n hx hb dX11_goes_15 rfl (lv_at hl 1 rfl) ?_
  refine lv_iload_n hx hb dX11_goes_16 rfl (lv_at hl 2 rfl) ?_
  obtain ⟨x8, S5, hc6, hf⟩ := cl_of hf
  refine cl_RX11_306 (As := [.int a1]) (rest := [.int (mI S q2 (x1 + (2 : Int32)).toNatClampNeg)]) hC hR hS (c_X11_holdOf l G n this a1 S x8 S5 hc6 ok_this) ok_this rfl ⟨Nat.le_of_ble_eq_true rfl, Nat.le_of_ble_eq_true rfl⟩ hl.1 rfl (Nat.le_of_ble_eq_true rfl) dX11_goes_17 (Nat.zero_le _) (Nat.zero_le _) (fun H locs hR hS hE7 => ?_)
  have ok_this := hE7 _ _ ok_this
  have ok_q2 := hE7 _ _ ok_q2
  have hE := hE.tr hE7
  refine lv_isub hx hb dX11_goes_20 ?_
  refine bdi hf (fun x9 hf => ?_)
  refine lv_istore (lv' := [(4, .int x9), (3, .int x1), (0, .ref this), (1, .int a1), (2, .int a2)]) hx hb dX11_goes_21 hl (by decide) rfl (fun ls hl => ?_)
  refine lv_iload hx hb dX11_goes_23 (lv_at hl 0 rfl) ?_
  refine lv_if_le (tgt := 48) hx hb dX11_goes_25 (by decide) (fun hc => ?_) (fun hc => ?_)
  · replace hf := if_t hf hc
    refine lv_iconst (v := 0) hx hb dX11_goes_48 (by decide) ?_
    exact r_zret hC hR hS hE hf dX11_goes_49
  · replace hf := if_f hf hc
    refine lv_aload_n hx hb dX11_goes_28 rfl (lv_at hl 2 rfl) ?_
    obtain ⟨q10, hq11, ok_q10, hf⟩ := gR_of hf
    refine gf_RX11_7 hC hR ok_this hq11 dX11_goes_29 ?_
    refine lv_iload_n hx hb dX11_goes_32 rfl (lv_at hl 1 rfl) ?_
    obtain ⟨hi12, hf⟩ := ck_of hf
    refine r_iald hC hR ok_q10 hi12 dX11_goes_33 ?_
    obtain ⟨j50_14, ej50_14, hf⟩ := jn_of1 hf
    have hj50_13 : ∀ (S15 : MS) (H : Heap) (locs : List Loc) (ls : Array Slot), j50_14 S15 = some (ro, So) → Rp G S15 H → va_S (gA G) s.heap H locs → Ex S S15 → Ok S15 this 11 → lv_has ls 10 [(0, .ref this), (1, .int a1), (3, .int x1), (4, .int x9)] → W p l e rX11_goes s m args below meth c H locs 0 0 (MQ below (Qn G S (some (.int ro)) So) args s 0 0 (gA G)) (F0 m 50 ls []) := by
      intro S15 H locs ls hf hR hS hE ok_this hl
      rw [ej50_14] at hf
      refine lv_iconst (v := 1) hx hb dX11_goes_50 (by decide) ?_
      refine lv_iload hx hb dX11_goes_51 (lv_at hl 3 rfl) ?_
      refine lv_bipush (v := 20) hx hb dX11_goes_53 (by decide) ?_
      obtain ⟨hn16, hf⟩ := dv_of hf
      refine lv_idiv hx hb dX11_goes_55 hn16 ?_
      refine lv_iadd hx hb dX11_goes_56 ?_
      refine bdi hf (fun x17 hf => ?_)
      refine lv_istore (lv' := [(5, .int x17), (0, .ref this), (1, .int a1), (3, .int x1), (4, .int x9)]) hx hb dX11_goes_57 hl (by decide) rfl (fun ls hl => ?_)
      refine lv_aload_n hx hb dX11_goes_59 rfl (lv_at hl 1 rfl) ?_
      refine lv_iconst (v := 1) hx hb dX11_goes_60 (by decide) ?_
      obtain ⟨x21, S18, hc19, hf⟩ := cl_of hf
      refine cl_RX11_300 (As := [.int (1 : Int32)]) (rest := []) hC hR hS (c_X11_clauseOf l G n this (1 : Int32) S15 x21 S18 hc19 ok_this) ok_this rfl ⟨Nat.le_of_ble_eq_true rfl, Nat.le_of_ble_eq_true rfl⟩ hl.1 rfl (Nat.le_of_ble_eq_true rfl) dX11_goes_61 (Nat.zero_le _) (Nat.zero_le _) (fun H locs hR hS hE20 => ?_)
      have ok_this := hE20 _ _ ok_this
      have hE := hE.tr hE20
      refine lv_istore (lv' := [(6, .int x21), (5, .int x17), (0, .ref this), (1, .int a1), (3, .int x1), (4, .int x9)]) hx hb dX11_goes_64 hl (by decide) rfl (fun ls hl => ?_)
      refine lv_iload hx hb dX11_goes_66 (lv_at hl 0 rfl) ?_
      obtain ⟨j134_23, ej134_23, hf⟩ := jn_of2 hf
      have hj134_22 : ∀ (x24 : Int32) (S25 : MS) (H : Heap) (locs : List Loc) (ls : Array Slot), j134_23 x24 S25 = some (ro, So) → Rp G S25 H → va_S (gA G) s.heap H locs → Ex S S25 → Ok S25 this 11 → lv_has ls 10 [(0, .ref this), (1, .int a1), (3, .int x1), (5, .int x24)] → W p l e rX11_goes s m args below meth c H locs 0 0 (MQ below (Qn G S (some (.int ro)) So) args s 0 0 (gA G)) (F0 m 134 ls []) := by
        intro x24 S25 H locs ls hf hR hS hE ok_this hl
        rw [ej134_23] at hf
        refine lv_aload_n hx hb dX11_goes_134 rfl (lv_at hl 0 rfl) ?_
        refine lv_iload_n hx hb dX11_goes_135 rfl (lv_at hl 1 rfl) ?_
        obtain ⟨x29, S26, hc27, hf⟩ := cl_of hf
        refine cl_RX11_291 (As := [.int a1]) (rest := []) hC hR hS (c_X11_cellOf l G n this a1 S25 x29 S26 hc27 ok_this) ok_this rfl ⟨Nat.le_of_ble_eq_true rfl, Nat.le_of_ble_eq_true rfl⟩ hl.1 rfl (Nat.le_of_ble_eq_true rfl) dX11_goes_136 (Nat.zero_le _) (Nat.zero_le _) (fun H locs hR hS hE28 => ?_)
        have ok_this := hE28 _ _ ok_this
        have hE := hE.tr hE28
        refine lv_istore (lv' := [(7, .int x29), (0, .ref this), (1, .int a1), (3, .int x1), (5, .int x24)]) hx hb dX11_goes_139 hl (by decide) rfl (fun ls hl => ?_)
        refine lv_iconst (v := 0) hx hb dX11_goes_141 (by decide) ?_
        refine lv_istore (lv' := [(8, .int (0 : Int32)), (7, .int x29), (0, .ref this), (1, .int a1), (3, .int x1), (5, .int x24)]) hx hb dX11_goes_142 hl (by decide) rfl (fun ls hl => ?_)
        obtain ⟨j200_31, ej200_31, hf⟩ := jn_of2 hf
        have hj200_30 : ∀ (x32 : Int32) (S33 : MS) (H : Heap) (locs : List Loc) (ls : Array Slot), j200_31 x32 S33 = some (ro, So) → Rp G S33 H → va_S (gA G) s.heap H locs → Ex S S33 → Ok S33 this 11 → lv_has ls 10 [(0, .ref this), (1, .int a1), (7, .int x32)] → W p l e rX11_goes s m args below meth c H locs 0 0 (MQ below (Qn G S (some (.int ro)) So) args s 0 0 (gA G)) (F0 m 200 ls []) := by
          intro x32 S33 H locs ls hf hR hS hE ok_this hl
          rw [ej200_31] at hf
          refine lv_iload hx hb dX11_goes_200 (lv_at hl 2 rfl) ?_
          refine lv_aload_n hx hb dX11_goes_202 rfl (lv_at hl 0 rfl) ?_
          refine lv_iload_n hx hb dX11_goes_203 rfl (lv_at hl 1 rfl) ?_
          obtain ⟨x37, S34, hc35, hf⟩ := cl_of hf
          refine cl_RX11_291 (As := [.int a1]) (rest := [.int x32]) hC hR hS (c_X11_cellOf l G n this a1 S33 x37 S34 hc35 ok_this) ok_this rfl ⟨Nat.le_of_ble_eq_true rfl, Nat.le_of_ble_eq_true rfl⟩ hl.1 rfl (Nat.le_of_ble_eq_true rfl) dX11_goes_204 (Nat.zero_le _) (Nat.zero_le _) (fun H locs hR hS hE36 => ?_)
          have ok_this := hE36 _ _ ok_this
          have hE := hE.tr hE36
          refine lv_icmp_ne (tgt := 212) hx hb dX11_goes_207 (by decide) (fun hc => ?_) (fun hc => ?_)
          · replace hf := if_f hf hc
            refine lv_aload_n hx hb dX11_goes_212 rfl (lv_at hl 0 rfl) ?_
            refine lv_iload_n hx hb dX11_goes_213 rfl (lv_at hl 1 rfl) ?_
            refine lv_iload hx hb dX11_goes_214 (lv_at hl 2 rfl) ?_
            obtain ⟨S38, hc39, hf⟩ := cv_of hf
            refine cl_RX11_313 (As := [.int a1, .int x32]) (rest := []) hC hR hS (c_X11_lay l G n this a1 x32 S34 S38 hc39 ok_this) ok_this rfl ⟨Nat.le_of_ble_eq_true rfl, Nat.le_of_ble_eq_true rfl⟩ hl.1 rfl (Nat.le_of_ble_eq_true rfl) dX11_goes_216 (Nat.zero_le _) (Nat.zero_le _) (fun H locs hR hS hE40 => ?_)
            have ok_this := hE40 _ _ ok_this
            have hE := hE.tr hE40
            refine lv_iconst (v := 1) hx hb dX11_goes_219 (by decide) ?_
            exact r_zret hC hR hS hE hf dX11_goes_220
          · replace hf := if_t hf hc
            refine lv_iconst (v := 0) hx hb dX11_goes_210 (by decide) ?_
            exact r_zret hC hR hS hE hf dX11_goes_211
        obtain ⟨j187_42, ej187_42, hf⟩ := jn_of2 hf
        have hj187_41 : ∀ (x43 : Int32) (S44 : MS) (H : Heap) (locs : List Loc) (ls : Array Slot), j187_42 x43 S44 = some (ro, So) → Rp G S44 H → va_S (gA G) s.heap H locs → Ex S S44 → Ok S44 this 11 → lv_has ls 10 [(0, .ref this), (1, .int a1), (7, .int x43)] → W p l e rX11_goes s m args below meth c H locs 0 0 (MQ below (Qn G S (some (.int ro)) So) args s 0 0 (gA G)) (F0 m 187 ls []) := by
          intro x43 S44 H locs ls hf hR hS hE ok_this hl
          rw [ej187_42] at hf
          refine lv_goto (tgt := 200) hx hb dX11_goes_187 (by decide) ?_
          exact hj200_30 x43 S44 _ _ _ hf hR hS hE ok_this (lv_sub hl [0, 1, 2] rfl)
        have hh65 : ∀ k : Nat, ∀ (x47 : Int32) (x48 : Int32) (S49 : MS) (H : Heap) (locs : List Loc) (ls : Array Slot), f_X11_goes_L144 n this a1 x1 x24 j187_42 j200_31 k x47 x48 S49 = some (ro, So) → Rp G S49 H → va_S (gA G) s.heap H locs → Ex S S49 → Ok S49 this 11 → lv_has ls 10 [(0, .ref this), (1, .int a1), (3, .int x1), (5, .int x24), (7, .int x47), (8, .int x48)] → W p l e rX11_goes s m args below meth c H locs 0 0 (MQ below (Qn G S (some (.int ro)) So) args s 0 0 (gA G)) (F0 m 144 ls []) := by
          intro k
          induction k with
          | zero =>
            intro x47 x48 S49 H locs ls hf hR hS hE ok_this hl
            exact absurd hf (by rw [f_X11_goes_L144]; exact fun h => by cases h)
          | succ k ih =>
            intro x47 x48 S49 H locs ls hf hR hS hE ok_this hl
            rw [f_X11_goes_L144] at hf
            obtain ⟨rec144_46, erec144_46, hf⟩ := jn_of3 hf
            have hL144_45 : ∀ (x47 : Int32) (x48 : Int32) (S49 : MS) (H : Heap) (locs : List Loc) (ls : Array Slot), rec144_46 x47 x48 S49 = some (ro, So) → Rp G S49 H → va_S (gA G) s.heap H locs → Ex S S49 → Ok S49 this 11 → lv_has ls 10 [(0, .ref this), (1, .int a1), (3, .int x1), (5, .int x24), (7, .int x47), (8, .int x48)] → W p l e rX11_goes s m args below meth c H locs 0 0 (MQ below (Qn G S (some (.int ro)) So) args s 0 0 (gA G)) (F0 m 144 ls []) := by
              intro x47 x48 S49 H locs ls hf hR hS hE ok_this hl
              rw [erec144_46] at hf
              exact ih x47 x48 S49 _ _ _ hf hR hS hE ok_this hl
            refine lv_iload hx hb dX11_goes_144 (lv_at hl 5 rfl) ?_
            refine lv_iload hx hb dX11_goes_146 (lv_at hl 3 rfl) ?_
            refine lv_icmp_ge (tgt := 200) hx hb dX11_goes_148 (by decide) (fun hc => ?_) (fun hc => ?_)
            · replace hf := if_t hf hc
              exact hj200_30 x47 S49 _ _ _ hf hR hS hE ok_this (lv_sub hl [0, 1, 4] rfl)
            · replace hf := if_f hf hc
              refine lv_aload_n hx hb dX11_goes_151 rfl (lv_at hl 0 rfl) ?_
              refine lv_iload hx hb dX11_goes_152 (lv_at hl 4 rfl) ?_
              refine lv_aload_n hx hb dX11_goes_154 rfl (lv_at hl 0 rfl) ?_
              obtain ⟨q50, hq51, ok_q50, hf⟩ := gR_of hf
              refine gf_RX11_7 hC hR ok_this hq51 dX11_goes_155 ?_
              refine lv_iload_n hx hb dX11_goes_158 rfl (lv_at hl 2 rfl) ?_
              obtain ⟨hi52, hf⟩ := ck_of hf
              refine r_iald hC hR ok_q50 hi52 dX11_goes_159 ?_
              refine lv_aload_n hx hb dX11_goes_160 rfl (lv_at hl 0 rfl) ?_
              obtain ⟨q53, hq54, ok_q53, hf⟩ := gR_of hf
              refine gf_RX11_7 hC hR ok_this hq54 dX11_goes_161 ?_
              refine lv_iload_n hx hb dX11_goes_164 rfl (lv_at hl 2 rfl) ?_
              refine lv_iconst (v := 1) hx hb dX11_goes_165 (by decide) ?_
              refine lv_iadd hx hb dX11_goes_166 ?_
              obtain ⟨hi55, hf⟩ := ck_of hf
              refine r_iald hC hR ok_q53 hi55 dX11_goes_167 ?_
              obtain ⟨x59, S56, hc57, hf⟩ := cl_of hf
              refine cl_RX11_288 (As := [.int x47, .int (mI S49 q50 x1.toNatClampNeg), .int (mI S49 q53 (x1 + (1 : Int32)).toNatClampNeg)]) (rest := []) hC hR hS (c_X11_stepTo l G n this x47 (mI S49 q50 x1.toNatClampNeg) (mI S49 q53 (x1 + (1 : Int32)).toNatClampNeg) S49 x59 S56 hc57 ok_this) ok_this rfl ⟨Nat.le_of_ble_eq_true rfl, Nat.le_of_ble_eq_true rfl⟩ hl.1 rfl (Nat.le_of_ble_eq_true rfl) dX11_goes_168 (Nat.zero_le _) (Nat.zero_le _) (fun H locs hR hS hE58 => ?_)
              have ok_this := hE58 _ _ ok_this
              have ok_q50 := hE58 _ _ ok_q50
              have ok_q53 := hE58 _ _ ok_q53
              have hE := hE.tr hE58
              refine lv_istore (lv' := [(9, .int x59), (0, .ref this), (1, .int a1), (3, .int x1), (5, .int x24), (7, .int x47), (8, .int x48)]) hx hb dX11_goes_171 hl (by decide) rfl (fun ls hl => ?_)
              refine lv_iload hx hb dX11_goes_173 (lv_at hl 0 rfl) ?_
              refine lv_if_lt (tgt := 200) hx hb dX11_goes_175 (by decide) (fun hc => ?_) (fun hc => ?_)
              · replace hf := if_t hf hc
                exact hj200_30 x47 S56 _ _ _ hf hR hS hE ok_this (lv_sub hl [1, 2, 5] rfl)
              · replace hf := if_f hf hc
                refine lv_aload_n hx hb dX11_goes_178 rfl (lv_at hl 1 rfl) ?_
                refine lv_iload hx hb dX11_goes_179 (lv_at hl 0 rfl) ?_
                obtain ⟨x63, S60, hc61, hf⟩ := cl_of hf
                refine cl_RX11_85 (As := [.int x59]) (rest := []) hC hR hS (c_X11_isFree l G n this x59 S56 x63 S60 hc61 ok_this) ok_this rfl ⟨Nat.le_of_ble_eq_true rfl, Nat.le_of_ble_eq_true rfl⟩ hl.1 rfl (Nat.le_of_ble_eq_true rfl) dX11_goes_181 (Nat.zero_le _) (Nat.zero_le _) (fun H locs hR hS hE62 => ?_)
                have ok_this := hE62 _ _ ok_this
                have ok_q50 := hE62 _ _ ok_q50
                have ok_q53 := hE62 _ _ ok_q53
                have hE := hE.tr hE62
                refine lv_if_ne (tgt := 190) hx hb dX11_goes_184 (by decide) (fun hc => ?_) (fun hc => ?_)
                · replace hf := if_f hf hc
                  refine lv_iload hx hb dX11_goes_190 (lv_at hl 0 rfl) ?_
                  refine lv_istore (lv' := [(7, .int x59), (9, .int x59), (0, .ref this), (1, .int a1), (3, .int x1), (5, .int x24), (8, .int x48)]) hx hb dX11_goes_192 hl (by decide) rfl (fun ls hl => ?_)
                  refine r_iinc (n := 1) (z := 1) (lv' := fun x64 => [(8, .int x64), (7, .int x59), (9, .int x59), (0, .ref this), (1, .int a1), (3, .int x1), (5, .int x24)]) hx hb dX11_goes_194 hl (k := 6) rfl (by decide) (by decide) (fun _ => rfl) hf (fun x64 ls hf hl => ?_)
                  refine lv_goto (tgt := 144) hx hb dX11_goes_197 (by decide) ?_
                  exact hL144_45 x59 x64 S60 _ _ _ hf hR hS hE ok_this (lv_sub hl [3, 4, 5, 6, 1, 0] rfl)
                · replace hf := if_t hf hc
                  exact hj187_41 x47 S60 _ _ _ hf hR hS hE ok_this (lv_sub hl [1, 2, 5] rfl)
        exact hh65 n x29 (0 : Int32) S26 _ _ _ hf hR hS hE ok_this (lv_sub hl [2, 3, 4, 5, 1, 0] rfl)
      refine lv_if_lt (tgt := 118) hx hb dX11_goes_68 (by decide) (fun hc => ?_) (fun hc => ?_)
      · replace hf := if_t hf hc
        refine lv_iload hx hb dX11_goes_118 (lv_at hl 1 rfl) ?_
        refine lv_bipush (v := 9) hx hb dX11_goes_120 (by decide) ?_
        obtain ⟨j132_71, ej132_71, hf⟩ := jn_of2 hf
        have hj132_70 : ∀ (x72 : Int32) (S73 : MS) (H : Heap) (locs : List Loc) (ls : Array Slot), j132_71 x72 S73 = some (ro, So) → Rp G S73 H → va_S (gA G) s.heap H locs → Ex S S73 → Ok S73 this 11 → lv_has ls 10 [(0, .ref this), (1, .int a1), (3, .int x1)] → W p l e rX11_goes s m args below meth c H locs 0 0 (MQ below (Qn G S (some (.int ro)) So) args s 0 0 (gA G)) (F0 m 132 ls [.int x72]) := by
          intro x72 S73 H locs ls hf hR hS hE ok_this hl
          rw [ej132_71] at hf
          refine lv_istore (lv' := [(5, .int x72), (0, .ref this), (1, .int a1), (3, .int x1)]) hx hb dX11_goes_132 hl (by decide) rfl (fun ls hl => ?_)
          exact hj134_22 x72 S73 _ _ _ hf hR hS hE ok_this (lv_sub hl [1, 2, 3, 0] rfl)
        refine lv_icmp_le (tgt := 130) hx hb dX11_goes_122 (by decide) (fun hc => ?_) (fun hc => ?_)
        · replace hf := if_t hf hc
          refine lv_iload hx hb dX11_goes_130 (lv_at hl 1 rfl) ?_
          exact hj132_70 x17 S18 _ _ _ hf hR hS hE ok_this (lv_sub hl [2, 3, 4] rfl)
        · replace hf := if_f hf hc
          refine lv_bipush (v := 9) hx hb dX11_goes_125 (by decide) ?_
          refine lv_goto (tgt := 132) hx hb dX11_goes_127 (by decide) ?_
          exact hj132_70 (9 : Int32) S18 _ _ _ hf hR hS hE ok_this (lv_sub hl [2, 3, 4] rfl)
      · replace hf := if_f hf hc
        refine lv_aload_n hx hb dX11_goes_71 rfl (lv_at hl 2 rfl) ?_
        obtain ⟨q76, hq77, ok_q76, hf⟩ := gR_of hf
        refine gf_RX11_29 hC hR ok_this hq77 dX11_goes_72 ?_
        refine lv_bipush (v := 6) hx hb dX11_goes_75 (by decide) ?_
        refine lv_aload_n hx hb dX11_goes_77 rfl (lv_at hl 2 rfl) ?_
        obtain ⟨q78, hq79, ok_q78, hf⟩ := gR_of hf
        refine gf_RX11_7 hC hR ok_this hq79 dX11_goes_78 ?_
        refine lv_iload_n hx hb dX11_goes_81 rfl (lv_at hl 4 rfl) ?_
        refine lv_iconst (v := 2) hx hb dX11_goes_82 (by decide) ?_
        refine lv_iadd hx hb dX11_goes_83 ?_
        obtain ⟨hi80, hf⟩ := ck_of hf
        refine r_iald hC hR ok_q78 hi80 dX11_goes_84 ?_
        obtain ⟨hi81, hf⟩ := ck_of hf
        refine rB_iast hC hR hS ok_q76 hi81 dX11_goes_85 hf (fun S82 H locs hf hR hS hE83 => ?_)
        have ok_this := hE83 _ _ ok_this
        have ok_q76 := hE83 _ _ ok_q76
        have ok_q78 := hE83 _ _ ok_q78
        have hE := hE.tr hE83
        refine lv_aload_n hx hb dX11_goes_86 rfl (lv_at hl 2 rfl) ?_
        obtain ⟨q84, hq85, ok_q84, hf⟩ := gR_of hf
        refine gf_RX11_29 hC hR ok_this hq85 dX11_goes_87 ?_
        refine lv_bipush (v := 7) hx hb dX11_goes_90 (by decide) ?_
        refine lv_iload hx hb dX11_goes_92 (lv_at hl 5 rfl) ?_
        obtain ⟨hi86, hf⟩ := ck_of hf
        refine rB_iast hC hR hS ok_q84 hi86 dX11_goes_94 hf (fun S87 H locs hf hR hS hE88 => ?_)
        have ok_this := hE88 _ _ ok_this
        have ok_q76 := hE88 _ _ ok_q76
        have ok_q78 := hE88 _ _ ok_q78
        have ok_q84 := hE88 _ _ ok_q84
        have hE := hE.tr hE88
        refine lv_aload_n hx hb dX11_goes_95 rfl (lv_at hl 2 rfl) ?_
        refine lv_iload hx hb dX11_goes_96 (lv_at hl 0 rfl) ?_
        obtain ⟨S89, hc90, hf⟩ := cv_of hf
        refine cl_RX11_303 (As := [.int x21]) (rest := []) hC hR hS (c_X11_work l G n this x21 S87 S89 hc90 ok_this) ok_this rfl ⟨Nat.le_of_ble_eq_true rfl, Nat.le_of_ble_eq_true rfl⟩ hl.1 rfl (Nat.le_of_ble_eq_true rfl) dX11_goes_98 (Nat.zero_le _) (Nat.zero_le _) (fun H locs hR hS hE91 => ?_)
        have ok_this := hE91 _ _ ok_this
        have ok_q76 := hE91 _ _ ok_q76
        have ok_q78 := hE91 _ _ ok_q78
        have ok_q84 := hE91 _ _ ok_q84
        have hE := hE.tr hE91
        refine lv_aload_n hx hb dX11_goes_101 rfl (lv_at hl 2 rfl) ?_
        obtain ⟨q92, hq93, ok_q92, hf⟩ := gR_of hf
        refine gf_RX11_32 hC hR ok_this hq93 dX11_goes_102 ?_
        refine lv_iconst (v := 0) hx hb dX11_goes_105 (by decide) ?_
        obtain ⟨hi94, hf⟩ := ck_of hf
        refine r_lald hC hR ok_q92 hi94 dX11_goes_106 ?_
        refine lv_iconst (v := 0) hx hb dX11_goes_107 (by decide) ?_
        refine lv_bipush (v := 9) hx hb dX11_goes_108 (by decide) ?_
        obtain ⟨x98, S95, hc96, hf⟩ := cl_of hf
        refine cl_RX11_309 (As := [.long (mJ S89 q92 (0 : Int32).toNatClampNeg), .int (0 : Int32), .int (9 : Int32)]) (rest := []) hC hR hS (c_X11_held l G n (mJ S89 q92 (0 : Int32).toNatClampNeg) (0 : Int32) (9 : Int32) S89 x98 S95 hc96 ) rfl ⟨Nat.le_of_ble_eq_true rfl, Nat.le_of_ble_eq_true rfl⟩ hl.1 rfl (Nat.le_of_ble_eq_true rfl) dX11_goes_110 (Nat.zero_le _) (Nat.zero_le _) (fun H locs hR hS hE97 => ?_)
        have ok_this := hE97 _ _ ok_this
        have ok_q76 := hE97 _ _ ok_q76
        have ok_q78 := hE97 _ _ ok_q78
        have ok_q84 := hE97 _ _ ok_q84
        have ok_q92 := hE97 _ _ ok_q92
        have hE := hE.tr hE97
        refine lv_istore (lv' := [(5, .int x98), (6, .int x21), (0, .ref this), (1, .int a1), (3, .int x1), (4, .int x9)]) hx hb dX11_goes_113 hl (by decide) rfl (fun ls hl => ?_)
        refine lv_goto (tgt := 134) hx hb dX11_goes_115 (by decide) ?_
        exact hj134_22 x98 S95 _ _ _ hf hR hS hE ok_this (lv_sub hl [2, 3, 4, 0] rfl)
    refine lv_if_ne (tgt := 50) hx hb dX11_goes_34 (by decide) (fun hc => ?_) (fun hc => ?_)
    · replace hf := if_f hf hc
      exact hj50_13 S5 _ _ _ hf hR hS hE ok_this (lv_sub hl [2, 3, 1, 0] rfl)
    · replace hf := if_t hf hc
      refine lv_aload_n hx hb dX11_goes_37 rfl (lv_at hl 2 rfl) ?_
      obtain ⟨q101, hq102, ok_q101, hf⟩ := gR_of hf
      refine gf_RX11_7 hC hR ok_this hq102 dX11_goes_38 ?_
      refine lv_iload_n hx hb dX11_goes_41 rfl (lv_at hl 1 rfl) ?_
      refine lv_iconst (v := 1) hx hb dX11_goes_42 (by decide) ?_
      refine lv_iadd hx hb dX11_goes_43 ?_
      obtain ⟨hi103, hf⟩ := ck_of hf
      refine r_iald hC hR ok_q101 hi103 dX11_goes_44 ?_
      refine lv_if_ne (tgt := 50) hx hb dX11_goes_45 (by decide) (fun hc => ?_) (fun hc => ?_)
      · replace hf := if_f hf hc
        exact hj50_13 S5 _ _ _ hf hR hS hE ok_this (lv_sub hl [2, 3, 1, 0] rfl)
      · replace hf := if_t hf hc
        refine lv_iconst (v := 0) hx hb dX11_goes_48 (by decide) ?_
        exact r_zret hC hR hS hE hf dX11_goes_49
abbrev rX11_blow : Room := { frames := 6, cells := 0, slots := 0, locals := 145 }
def f_X11_blow_L93 (n : Nat) (this : Nat) (a1 : Int32) (x7 : Int32) (x8 : Int32) (j144_21 : Int32 → MS → Option (Int32 × MS)) : Nat → Int32 → Int32 → MS → Option (Int32 × MS)
  | 0, _, _, _ => none
  | k + 1, x68, x69, S70 => jn (f_X11_blow_L93 n this a1 x7 x8 j144_21 k) fun rec93_67 => cl (f_X11_bones n this S70) fun x74 S71 => (if x74 ≤ x69 then j144_21 x68 S71 else gR S71 (mR S71 this 29) 14 fun q75 => ck (inb x69 (mN S71 q75)) (jn (fun (x80 : Int32) (S81 : MS) => bd (x69 + (1 : Int32)) fun x82 => rec93_67 x80 x82 S81) fun j138_79 => (if (mI S71 q75 x69.toNatClampNeg) = 0 then jn (fun (S85 : MS) => j138_79 x69 S85) fun j134_84 => (if x68 < 0 then j134_84 S71 else gR S71 (mR S71 this 28) 12 fun q86 => ck (inb x69 (mN S71 q86)) (gR S71 (mR S71 this 28) 12 fun q89 => ck (inb x68 (mN S71 q89)) ((if (mI S71 q86 x69.toNatClampNeg) ≤ (mI S71 q89 x68.toNatClampNeg) then j138_79 x68 S71 else j134_84 S71)))) else j138_79 x68 S71)))
def f_X11_blow_L78 (n : Nat) (this : Nat) (a1 : Int32) : Nat → Int32 → Int32 → MS → Option (Int32 × MS)
  | 0, _, _, _ => none
  | k + 1, x7, x8, S9 => jn (f_X11_blow_L78 n this a1 k) fun rec78_6 => cl (f_X11_bones n this S9) fun x13 S10 => (if x13 ≤ x8 then gR S10 (mR S10 this 0) 12 fun q14 => ck (inb ((mI S10 this 4) + (0 : Int32)) (mN S10 q14)) (ck (inb ((mI S10 this 4) + (0 : Int32)) (mN S10 q14)) (bd (sI S10 q14 ((mI S10 this 4) + (0 : Int32)).toNatClampNeg ((mI S10 q14 ((mI S10 this 4) + (0 : Int32)).toNatClampNeg) + (1 : Int32))) fun S18 => some (x7, S18))) else jn (fun (x22 : Int32) (S23 : MS) => gR S23 (mR S23 this 29) 14 fun q24 => ck (inb x22 (mN S23 q24)) (zb (1 : Int32) (bd (sI S23 q24 x22.toNatClampNeg (1 : Int32)) fun S28 => cl (f_X11_goes n this x22 a1 S28) fun x33 S30 => bd ((((mI S30 this 4) + (10 : Int32)) + ((3 : Int32) * x22)) + (2 : Int32)) fun x34 => gR S30 (mR S30 this 0) 12 fun q35 => jn (fun (q39 : Nat) (x40 : Int32) (x41 : Int32) (S42 : MS) => ck (inb x40 (mN S42 q39)) (bd (sI S42 q39 x40.toNatClampNeg x41) fun S44 => jn (fun (x48 : Int32) (x49 : Int32) (S50 : MS) => bd (x48 + x49) fun x51 => bd (x8 + (1 : Int32)) fun x52 => rec78_6 x51 x52 S50) fun j230_47 => (if x33 = 0 then j230_47 x7 (0 : Int32) S44 else j230_47 x7 (1 : Int32) S44))) fun j218_38 => (if x33 = 0 then gR S30 (mR S30 this 0) 12 fun q56 => ck (inb x34 (mN S30 q56)) ((if (99 : Int32) ≤ (mI S30 q56 x34.toNatClampNeg) then j218_38 q35 x34 (99 : Int32) S30 else gR S30 (mR S30 this 0) 12 fun q59 => ck (inb x34 (mN S30 q59)) (j218_38 q35 x34 ((mI S30 q59 x34.toNatClampNeg) + (1 : Int32)) S30))) else j218_38 q35 x34 (0 : Int32) S30)))) fun j144_21 => f_X11_blow_L93 n this a1 x7 x8 j144_21 n (-1 : Int32) (0 : Int32) S10)
def f_X11_blow_L9 (n : Nat) (this : Nat) (a1 : Int32) (x1 : Int32) (j73_3 : MS → Option (Int32 × MS)) : Nat → Int32 → MS → Option (Int32 × MS)
  | 0, _, _ => none
  | k + 1, x101, S102 => jn (f_X11_blow_L9 n this a1 x1 j73_3 k) fun rec9_100 => cl (f_X11_bones n this S102) fun x106 S103 => (if x106 ≤ x101 then j73_3 S103 else gR S103 (mR S103 this 28) 12 fun q107 => cl (f_X11_cellOf n this x101 S103) fun x112 S109 => dv (mI S109 this 1) (gR S109 (mR S109 this 0) 12 fun q114 => ck (inb x1 (mN S109 q114)) (cl (f_X11_cellOf n this x101 S109) fun x120 S117 => dv (mI S117 this 1) (gR S117 (mR S117 this 0) 12 fun q122 => ck (inb (x1 + (1 : Int32)) (mN S117 q122)) (ck (inb x101 (mN S117 q107)) (bd (sI S117 q107 x101.toNatClampNeg (((x112 - x112 / (mI S109 this 1) * (mI S109 this 1)) * (mI S109 q114 x1.toNatClampNeg)) + ((x120 / (mI S117 this 1)) * (mI S117 q122 (x1 + (1 : Int32)).toNatClampNeg)))) fun S126 => gR S126 (mR S126 this 29) 14 fun q128 => ck (inb x101 (mN S126 q128)) (zb (0 : Int32) (bd (sI S126 q128 x101.toNatClampNeg (0 : Int32)) fun S132 => bd (x101 + (1 : Int32)) fun x134 => rec9_100 x134 S132))))))))
def f_X11_blow (n : Nat) (this : Nat) (a1 : Int32) (S : MS) : Option (Int32 × MS) :=
  bd ((100 : Int32) + ((4 : Int32) * a1)) fun x1 => jn (fun (S4 : MS) => f_X11_blow_L78 n this a1 n (0 : Int32) (0 : Int32) S4) fun j73_3 => f_X11_blow_L9 n this a1 x1 j73_3 n (0 : Int32) S
set_option maxRecDepth 100000 in
set_option maxHeartbeats 4000000 in
theorem c_X11_blow (l : Launch) (G : Gx) (n : Nat) (this : Nat) (a1 : Int32) (S : MS) (ro : Int32) (So : MS) (hf : f_X11_blow n this a1 S = some (ro, So)) (ok_this : Ok S this 11) : Cn G l yX11_blow cX11_blow 8 (some .int) rX11_blow [.ref this, .int a1] S (some (.int ro)) So := by
  refine Cn.of (by decide) (Nat.le_of_ble_eq_true rfl) ?_
  intro p e s m args below meth c hC hname hR ls hl
  have hC : Cx G RX11 cX11_blow 8 (some .int) p s m args meth c := hC
  have hl : lv_has ls 8 [(0, .ref this), (1, .int a1)] := hl
  have hx := hC.x
  have hb := hC.b
  have hS : va_S (gA G) s.heap s.heap [] := va_S.rf
  have hE : Ex S S := Ex.rf S
  unfold f_X11_blow at hf
  refine lv_bipush (v := 100) hx hb dX11_blow_0 (by decide) ?_
  refine lv_iconst (v := 4) hx hb dX11_blow_2 (by decide) ?_
  refine lv_iload_n hx hb dX11_blow_3 rfl (lv_at hl 1 rfl) ?_
  refine lv_imul hx hb dX11_blow_4 ?_
  refine lv_iadd hx hb dX11_blow_5 ?_
  refine bdi hf (fun x1 hf => ?_)
  refine lv_istore_n (lv' := [(2, .int x1), (0, .ref this), (1, .int a1)]) hx hb dX11_blow_6 rfl hl (by decide) rfl (fun ls hl => ?_)
  refine lv_iconst (v := 0) hx hb dX11_blow_7 (by decide) ?_
  refine lv_istore_n (lv' := [(3, .int (0 : Int32)), (2, .int x1), (0, .ref this), (1, .int a1)]) hx hb dX11_blow_8 rfl hl (by decide) rfl (fun ls hl => ?_)
  obtain ⟨j73_3, ej73_3, hf⟩ := jn_of1 hf
  have hj73_2 : ∀ (S4 : MS) (H : Heap) (locs : List Loc) (ls : Array Slot), j73_3 S4 = some (ro, So) → Rp G S4 H → va_S (gA G) s.heap H locs → Ex S S4 → Ok S4 this 11 → lv_has ls 8 [(0, .ref this), (1, .int a1)] → W p l e rX11_blow s m args below meth c H locs 0 0 (MQ below (Qn G S (some (.int ro)) So) args s 0 0 (gA G)) (F0 m 73 ls []) := by
    intro S4 H locs ls hf hR hS hE ok_this hl
    rw [ej73_3] at hf
    refine lv_iconst (v := 0) hx hb dX11_blow_73 (by decide) ?_
    refine lv_istore_n (lv' := [(3, .int (0 : Int32)), (0, .ref this), (1, .int a1)]) hx hb dX11_blow_74 rfl hl (by decide) rfl (fun ls hl => ?_)
    refine lv_iconst (v := 0) hx hb dX11_blow_75 (by decide) ?_
    refine lv_istore (lv' := [(4, .int (0 : Int32)), (3, .int (0 : Int32)), (0, .ref this), (1, .int a1)]) hx hb dX11_blow_76 hl (by decide) rfl (fun ls hl => ?_)
    have hh98 : ∀ k : Nat, ∀ (x7 : Int32) (x8 : Int32) (S9 : MS) (H : Heap) (locs : List Loc) (ls : Array Slot), f_X11_blow_L78 n this a1 k x7 x8 S9 = some (ro, So) → Rp G S9 H → va_S (gA G) s.heap H locs → Ex S S9 → Ok S9 this 11 → lv_has ls 8 [(0, .ref this), (1, .int a1), (3, .int x7), (4, .int x8)] → W p l e rX11_blow s m args below meth c H locs 0 0 (MQ below (Qn G S (some (.int ro)) So) args s 0 0 (gA G)) (F0 m 78 ls []) := by
      intro k
      induction k with
      | zero =>
        intro x7 x8 S9 H locs ls hf hR hS hE ok_this hl
        exact absurd hf (by rw [f_X11_blow_L78]; exact fun h => by cases h)
      | succ k ih =>
        intro x7 x8 S9 H locs ls hf hR hS hE ok_this hl
        rw [f_X11_blow_L78] at hf
        obtain ⟨rec78_6, erec78_6, hf⟩ := jn_of3 hf
        have hL78_5 : ∀ (x7 : Int32) (x8 : Int32) (S9 : MS) (H : Heap) (locs : List Loc) (ls : Array Slot), rec78_6 x7 x8 S9 = some (ro, So) → Rp G S9 H → va_S (gA G) s.heap H locs → Ex S S9 → Ok S9 this 11 → lv_has ls 8 [(0, .ref this), (1, .int a1), (3, .int x7), (4, .int x8)] → W p l e rX11_blow s m args below meth c H locs 0 0 (MQ below (Qn G S (some (.int ro)) So) args s 0 0 (gA G)) (F0 m 78 ls []) := by
          intro x7 x8 S9 H locs ls hf hR hS hE ok_this hl
          rw [erec78_6] at hf
          exact ih x7 x8 S9 _ _ _ hf hR hS hE ok_this hl
        refine lv_iload hx hb dX11_blow_78 (lv_at hl 3 rfl) ?_
        refine lv_aload_n hx hb dX11_blow_80 rfl (lv_at hl 0 rfl) ?_
        obtain ⟨x13, S10, hc11, hf⟩ := cl_of hf
        refine cl_RX11_316 (As := []) (rest := [.int x8]) hC hR hS (c_X11_bones l G n this S9 x13 S10 hc11 ok_this) ok_this rfl ⟨Nat.le_of_ble_eq_true rfl, Nat.le_of_ble_eq_true rfl⟩ hl.1 rfl (Nat.le_of_ble_eq_true rfl) dX11_blow_81 (Nat.zero_le _) (Nat.zero_le _) (fun H locs hR hS hE12 => ?_)
        have ok_this := hE12 _ _ ok_this
        have hE := hE.tr hE12
        refine lv_icmp_ge (tgt := 238) hx hb dX11_blow_84 (by decide) (fun hc => ?_) (fun hc => ?_)
        · replace hf := if_t hf hc
          refine lv_aload_n hx hb dX11_blow_238 rfl (lv_at hl 0 rfl) ?_
          obtain ⟨q14, hq15, ok_q14, hf⟩ := gR_of hf
          refine gf_RX11_7 hC hR ok_this hq15 dX11_blow_239 ?_
          refine lv_aload_n hx hb dX11_blow_242 rfl (lv_at hl 0 rfl) ?_
          refine gf_RX11_75 hC hR ok_this dX11_blow_243 ?_
          refine lv_iconst (v := 0) hx hb dX11_blow_246 (by decide) ?_
          refine lv_iadd hx hb dX11_blow_247 ?_
          refine lv_dup2_11 hx hb dX11_blow_248 rfl rfl ?_
          obtain ⟨hi16, hf⟩ := ck_of hf
          refine r_iald hC hR ok_q14 hi16 dX11_blow_249 ?_
          refine lv_iconst (v := 1) hx hb dX11_blow_250 (by decide) ?_
          refine lv_iadd hx hb dX11_blow_251 ?_
          obtain ⟨hi17, hf⟩ := ck_of hf
          refine rB_iast hC hR hS ok_q14 hi17 dX11_blow_252 hf (fun S18 H locs hf hR hS hE19 => ?_)
          have ok_this := hE19 _ _ ok_this
          have ok_q14 := hE19 _ _ ok_q14
          have hE := hE.tr hE19
          refine lv_iload_n hx hb dX11_blow_253 rfl (lv_at hl 2 rfl) ?_
          exact r_iret hC hR hS hE hf dX11_blow_254
        · replace hf := if_f hf hc
          refine lv_iconst (v := -1) hx hb dX11_blow_87 (by decide) ?_
          refine lv_istore (lv' := [(5, .int (-1 : Int32)), (0, .ref this), (1, .int a1), (3, .int x7), (4, .int x8)]) hx hb dX11_blow_88 hl (by decide) rfl (fun ls hl => ?_)
          refine lv_iconst (v := 0) hx hb dX11_blow_90 (by decide) ?_
          refine lv_istore (lv' := [(6, .int (0 : Int32)), (5, .int (-1 : Int32)), (0, .ref this), (1, .int a1), (3, .int x7), (4, .int x8)]) hx hb dX11_blow_91 hl (by decide) rfl (fun ls hl => ?_)
          obtain ⟨j144_21, ej144_21, hf⟩ := jn_of2 hf
          have hj144_20 : ∀ (x22 : Int32) (S23 : MS) (H : Heap) (locs : List Loc) (ls : Array Slot), j144_21 x22 S23 = some (ro, So) → Rp G S23 H → va_S (gA G) s.heap H locs → Ex S S23 → Ok S23 this 11 → lv_has ls 8 [(0, .ref this), (1, .int a1), (3, .int x7), (4, .int x8), (5, .int x22)] → W p l e rX11_blow s m args below meth c H locs 0 0 (MQ below (Qn G S (some (.int ro)) So) args s 0 0 (gA G)) (F0 m 144 ls []) := by
            intro x22 S23 H locs ls hf hR hS hE ok_this hl
            rw [ej144_21] at hf
            refine lv_aload_n hx hb dX11_blow_144 rfl (lv_at hl 0 rfl) ?_
            obtain ⟨q24, hq25, ok_q24, hf⟩ := gR_of hf
            refine gf_RX11_43 hC hR ok_this hq25 dX11_blow_145 ?_
            refine lv_iload hx hb dX11_blow_148 (lv_at hl 4 rfl) ?_
            refine lv_iconst (v := 1) hx hb dX11_blow_150 (by decide) ?_
            obtain ⟨hi26, hf⟩ := ck_of hf
            obtain ⟨hz27, hf⟩ := zb_of hf
            refine rB_zast hC hR hS ok_q24 hi26 hz27 dX11_blow_151 hf (fun S28 H locs hf hR hS hE29 => ?_)
            have ok_this := hE29 _ _ ok_this
            have ok_q24 := hE29 _ _ ok_q24
            have hE := hE.tr hE29
            refine lv_aload_n hx hb dX11_blow_152 rfl (lv_at hl 0 rfl) ?_
            refine lv_iload hx hb dX11_blow_153 (lv_at hl 4 rfl) ?_
            refine lv_iload_n hx hb dX11_blow_155 rfl (lv_at hl 1 rfl) ?_
            obtain ⟨x33, S30, hc31, hf⟩ := cl_of hf
            refine cl_RX11_319 (As := [.int x22, .int a1]) (rest := []) hC hR hS (c_X11_goes l G n this x22 a1 S28 x33 S30 hc31 ok_this) ok_this rfl ⟨Nat.le_of_ble_eq_true rfl, Nat.le_of_ble_eq_true rfl⟩ hl.1 rfl (Nat.le_of_ble_eq_true rfl) dX11_blow_156 (Nat.zero_le _) (Nat.zero_le _) (fun H locs hR hS hE32 => ?_)
            have ok_this := hE32 _ _ ok_this
            have ok_q24 := hE32 _ _ ok_q24
            have hE := hE.tr hE32
            refine lv_istore (lv' := [(6, .int x33), (0, .ref this), (1, .int a1), (3, .int x7), (4, .int x8), (5, .int x22)]) hx hb dX11_blow_159 hl (by decide) rfl (fun ls hl => ?_)
            refine lv_aload_n hx hb dX11_blow_161 rfl (lv_at hl 1 rfl) ?_
            refine gf_RX11_75 hC hR ok_this dX11_blow_162 ?_
            refine lv_bipush (v := 10) hx hb dX11_blow_165 (by decide) ?_
            refine lv_iadd hx hb dX11_blow_167 ?_
            refine lv_iconst (v := 3) hx hb dX11_blow_168 (by decide) ?_
            refine lv_iload hx hb dX11_blow_169 (lv_at hl 5 rfl) ?_
            refine lv_imul hx hb dX11_blow_171 ?_
            refine lv_iadd hx hb dX11_blow_172 ?_
            refine lv_iconst (v := 2) hx hb dX11_blow_173 (by decide) ?_
            refine lv_iadd hx hb dX11_blow_174 ?_
            refine bdi hf (fun x34 hf => ?_)
            refine lv_istore (lv' := [(7, .int x34), (6, .int x33), (0, .ref this), (1, .int a1), (3, .int x7), (4, .int x8), (5, .int x22)]) hx hb dX11_blow_175 hl (by decide) rfl (fun ls hl => ?_)
            refine lv_aload_n hx hb dX11_blow_177 rfl (lv_at hl 2 rfl) ?_
            obtain ⟨q35, hq36, ok_q35, hf⟩ := gR_of hf
            refine gf_RX11_7 hC hR ok_this hq36 dX11_blow_178 ?_
            refine lv_iload hx hb dX11_blow_181 (lv_at hl 0 rfl) ?_
            refine lv_iload hx hb dX11_blow_183 (lv_at hl 1 rfl) ?_
            obtain ⟨j218_38, ej218_38, hf⟩ := jn_of4 hf
            have hj218_37 : ∀ (q39 : Nat) (x40 : Int32) (x41 : Int32) (S42 : MS) (H : Heap) (locs : List Loc) (ls : Array Slot), j218_38 q39 x40 x41 S42 = some (ro, So) → Rp G S42 H → va_S (gA G) s.heap H locs → Ex S S42 → Ok S42 this 11 → Ok S42 q39 12 → lv_has ls 8 [(0, .ref this), (1, .int a1), (3, .int x7), (4, .int x8), (6, .int x33)] → W p l e rX11_blow s m args below meth c H locs 0 0 (MQ below (Qn G S (some (.int ro)) So) args s 0 0 (gA G)) (F0 m 218 ls [.int x41, .int x40, .ref q39]) := by
              intro q39 x40 x41 S42 H locs ls hf hR hS hE ok_this ok_q39 hl
              rw [ej218_38] at hf
              obtain ⟨hi43, hf⟩ := ck_of hf
              refine rB_iast hC hR hS ok_q39 hi43 dX11_blow_218 hf (fun S44 H locs hf hR hS hE45 => ?_)
              have ok_this := hE45 _ _ ok_this
              have ok_q39 := hE45 _ _ ok_q39
              have hE := hE.tr hE45
              refine lv_iload_n hx hb dX11_blow_219 rfl (lv_at hl 2 rfl) ?_
              refine lv_iload hx hb dX11_blow_220 (lv_at hl 4 rfl) ?_
              obtain ⟨j230_47, ej230_47, hf⟩ := jn_of3 hf
              have hj230_46 : ∀ (x48 : Int32) (x49 : Int32) (S50 : MS) (H : Heap) (locs : List Loc) (ls : Array Slot), j230_47 x48 x49 S50 = some (ro, So) → Rp G S50 H → va_S (gA G) s.heap H locs → Ex S S50 → Ok S50 this 11 → lv_has ls 8 [(0, .ref this), (1, .int a1), (4, .int x8)] → W p l e rX11_blow s m args below meth c H locs 0 0 (MQ below (Qn G S (some (.int ro)) So) args s 0 0 (gA G)) (F0 m 230 ls [.int x49, .int x48]) := by
                intro x48 x49 S50 H locs ls hf hR hS hE ok_this hl
                rw [ej230_47] at hf
                refine lv_iadd hx hb dX11_blow_230 ?_
                refine bdi hf (fun x51 hf => ?_)
                refine lv_istore_n (lv' := [(3, .int x51), (0, .ref this), (1, .int a1), (4, .int x8)]) hx hb dX11_blow_231 rfl hl (by decide) rfl (fun ls hl => ?_)
                refine r_iinc (n := 1) (z := 1) (lv' := fun x52 => [(4, .int x52), (3, .int x51), (0, .ref this), (1, .int a1)]) hx hb dX11_blow_232 hl (k := 3) rfl (by decide) (by decide) (fun _ => rfl) hf (fun x52 ls hf hl => ?_)
                refine lv_goto (tgt := 78) hx hb dX11_blow_235 (by decide) ?_
                exact hL78_5 x51 x52 S50 _ _ _ hf hR hS hE ok_this (lv_sub hl [2, 3, 1, 0] rfl)
              refine lv_if_eq (tgt := 229) hx hb dX11_blow_222 (by decide) (fun hc => ?_) (fun hc => ?_)
              · replace hf := if_t hf hc
                refine lv_iconst (v := 0) hx hb dX11_blow_229 (by decide) ?_
                exact hj230_46 x7 (0 : Int32) S44 _ _ _ hf hR hS hE ok_this (lv_sub hl [0, 1, 3] rfl)
              · replace hf := if_f hf hc
                refine lv_iconst (v := 1) hx hb dX11_blow_225 (by decide) ?_
                refine lv_goto (tgt := 230) hx hb dX11_blow_226 (by decide) ?_
                exact hj230_46 x7 (1 : Int32) S44 _ _ _ hf hR hS hE ok_this (lv_sub hl [0, 1, 3] rfl)
            refine lv_if_eq (tgt := 192) hx hb dX11_blow_185 (by decide) (fun hc => ?_) (fun hc => ?_)
            · replace hf := if_t hf hc
              refine lv_aload_n hx hb dX11_blow_192 rfl (lv_at hl 2 rfl) ?_
              obtain ⟨q56, hq57, ok_q56, hf⟩ := gR_of hf
              refine gf_RX11_7 hC hR ok_this hq57 dX11_blow_193 ?_
              refine lv_iload hx hb dX11_blow_196 (lv_at hl 0 rfl) ?_
              obtain ⟨hi58, hf⟩ := ck_of hf
              refine r_iald hC hR ok_q56 hi58 dX11_blow_198 ?_
              refine lv_bipush (v := 99) hx hb dX11_blow_199 (by decide) ?_
              refine lv_icmp_ge (tgt := 216) hx hb dX11_blow_201 (by decide) (fun hc => ?_) (fun hc => ?_)
              · replace hf := if_t hf hc
                refine lv_bipush (v := 99) hx hb dX11_blow_216 (by decide) ?_
                exact hj218_37 q35 x34 (99 : Int32) S30 _ _ _ hf hR hS hE ok_this ok_q35 (lv_sub hl [2, 3, 4, 5, 1] rfl)
              · replace hf := if_f hf hc
                refine lv_aload_n hx hb dX11_blow_204 rfl (lv_at hl 2 rfl) ?_
                obtain ⟨q59, hq60, ok_q59, hf⟩ := gR_of hf
                refine gf_RX11_7 hC hR ok_this hq60 dX11_blow_205 ?_
                refine lv_iload hx hb dX11_blow_208 (lv_at hl 0 rfl) ?_
                obtain ⟨hi61, hf⟩ := ck_of hf
                refine r_iald hC hR ok_q59 hi61 dX11_blow_210 ?_
                refine lv_iconst (v := 1) hx hb dX11_blow_211 (by decide) ?_
                refine lv_iadd hx hb dX11_blow_212 ?_
                refine lv_goto (tgt := 218) hx hb dX11_blow_213 (by decide) ?_
                exact hj218_37 q35 x34 ((mI S30 q59 x34.toNatClampNeg) + (1 : Int32)) S30 _ _ _ hf hR hS hE ok_this ok_q35 (lv_sub hl [2, 3, 4, 5, 1] rfl)
            · replace hf := if_f hf hc
              refine lv_iconst (v := 0) hx hb dX11_blow_188 (by decide) ?_
              refine lv_goto (tgt := 218) hx hb dX11_blow_189 (by decide) ?_
              exact hj218_37 q35 x34 (0 : Int32) S30 _ _ _ hf hR hS hE ok_this ok_q35 (lv_sub hl [2, 3, 4, 5, 1] rfl)
          have hh95 : ∀ k : Nat, ∀ (x68 : Int32) (x69 : Int32) (S70 : MS) (H : Heap) (locs : List Loc) (ls : Array Slot), f_X11_blow_L93 n this a1 x7 x8 j144_21 k x68 x69 S70 = some (ro, So) → Rp G S70 H → va_S (gA G) s.heap H locs → Ex S S70 → Ok S70 this 11 → lv_has ls 8 [(0, .ref this), (1, .int a1), (3, .int x7), (4, .int x8), (5, .int x68), (6, .int x69)] → W p l e rX11_blow s m args below meth c H locs 0 0 (MQ below (Qn G S (some (.int ro)) So) args s 0 0 (gA G)) (F0 m 93 ls []) := by
            intro k
            induction k with
            | zero =>
              intro x68 x69 S70 H locs ls hf hR hS hE ok_this hl
              exact absurd hf (by rw [f_X11_blow_L93]; exact fun h => by cases h)
            | succ k ih =>
              intro x68 x69 S70 H locs ls hf hR hS hE ok_this hl
              rw [f_X11_blow_L93] at hf
              obtain ⟨rec93_67, erec93_67, hf⟩ := jn_of3 hf
              have hL93_66 : ∀ (x68 : Int32) (x69 : Int32) (S70 : MS) (H : Heap) (locs : List Loc) (ls : Array Slot), rec93_67 x68 x69 S70 = some (ro, So) → Rp G S70 H → va_S (gA G) s.heap H locs → Ex S S70 → Ok S70 this 11 → lv_has ls 8 [(0, .ref this), (1, .int a1), (3, .int x7), (4, .int x8), (5, .int x68), (6, .int x69)] → W p l e rX11_blow s m args below meth c H locs 0 0 (MQ below (Qn G S (some (.int ro)) So) args s 0 0 (gA G)) (F0 m 93 ls []) := by
                intro x68 x69 S70 H locs ls hf hR hS hE ok_this hl
                rw [erec93_67] at hf
                exact ih x68 x69 S70 _ _ _ hf hR hS hE ok_this hl
              refine lv_iload hx hb dX11_blow_93 (lv_at hl 5 rfl) ?_
              refine lv_aload_n hx hb dX11_blow_95 rfl (lv_at hl 0 rfl) ?_
              obtain ⟨x74, S71, hc72, hf⟩ := cl_of hf
              refine cl_RX11_316 (As := []) (rest := [.int x69]) hC hR hS (c_X11_bones l G n this S70 x74 S71 hc72 ok_this) ok_this rfl ⟨Nat.le_of_ble_eq_true rfl, Nat.le_of_ble_eq_true rfl⟩ hl.1 rfl (Nat.le_of_ble_eq_true rfl) dX11_blow_96 (Nat.zero_le _) (Nat.zero_le _) (fun H locs hR hS hE73 => ?_)
              have ok_this := hE73 _ _ ok_this
              have hE := hE.tr hE73
              refine lv_icmp_ge (tgt := 144) hx hb dX11_blow_99 (by decide) (fun hc => ?_) (fun hc => ?_)
              · replace hf := if_t hf hc
                exact hj144_20 x68 S71 _ _ _ hf hR hS hE ok_this (lv_sub hl [0, 1, 2, 3, 4] rfl)
              · replace hf := if_f hf hc
                refine lv_aload_n hx hb dX11_blow_102 rfl (lv_at hl 0 rfl) ?_
                obtain ⟨q75, hq76, ok_q75, hf⟩ := gR_of hf
                refine gf_RX11_43 hC hR ok_this hq76 dX11_blow_103 ?_
                refine lv_iload hx hb dX11_blow_106 (lv_at hl 5 rfl) ?_
                obtain ⟨hi77, hf⟩ := ck_of hf
                refine r_zald hC hR ok_q75 hi77 dX11_blow_108 ?_
                obtain ⟨j138_79, ej138_79, hf⟩ := jn_of2 hf
                have hj138_78 : ∀ (x80 : Int32) (S81 : MS) (H : Heap) (locs : List Loc) (ls : Array Slot), j138_79 x80 S81 = some (ro, So) → Rp G S81 H → va_S (gA G) s.heap H locs → Ex S S81 → Ok S81 this 11 → lv_has ls 8 [(0, .ref this), (1, .int a1), (3, .int x7), (4, .int x8), (5, .int x80), (6, .int x69)] → W p l e rX11_blow s m args below meth c H locs 0 0 (MQ below (Qn G S (some (.int ro)) So) args s 0 0 (gA G)) (F0 m 138 ls []) := by
                  intro x80 S81 H locs ls hf hR hS hE ok_this hl
                  rw [ej138_79] at hf
                  refine r_iinc (n := 1) (z := 1) (lv' := fun x82 => [(6, .int x82), (0, .ref this), (1, .int a1), (3, .int x7), (4, .int x8), (5, .int x80)]) hx hb dX11_blow_138 hl (k := 5) rfl (by decide) (by decide) (fun _ => rfl) hf (fun x82 ls hf hl => ?_)
                  refine lv_goto (tgt := 93) hx hb dX11_blow_141 (by decide) ?_
                  exact hL93_66 x80 x82 S81 _ _ _ hf hR hS hE ok_this (lv_sub hl [1, 2, 3, 4, 5, 0] rfl)
                refine lv_if_ne (tgt := 138) hx hb dX11_blow_109 (by decide) (fun hc => ?_) (fun hc => ?_)
                · replace hf := if_f hf hc
                  exact hj138_78 x68 S71 _ _ _ hf hR hS hE ok_this (lv_sub hl [0, 1, 2, 3, 4, 5] rfl)
                · replace hf := if_t hf hc
                  refine lv_iload hx hb dX11_blow_112 (lv_at hl 4 rfl) ?_
                  obtain ⟨j134_84, ej134_84, hf⟩ := jn_of1 hf
                  have hj134_83 : ∀ (S85 : MS) (H : Heap) (locs : List Loc) (ls : Array Slot), j134_84 S85 = some (ro, So) → Rp G S85 H → va_S (gA G) s.heap H locs → Ex S S85 → Ok S85 this 11 → lv_has ls 8 [(0, .ref this), (1, .int a1), (3, .int x7), (4, .int x8), (6, .int x69)] → W p l e rX11_blow s m args below meth c H locs 0 0 (MQ below (Qn G S (some (.int ro)) So) args s 0 0 (gA G)) (F0 m 134 ls []) := by
                    intro S85 H locs ls hf hR hS hE ok_this hl
                    rw [ej134_84] at hf
                    refine lv_iload hx hb dX11_blow_134 (lv_at hl 4 rfl) ?_
                    refine lv_istore (lv' := [(5, .int x69), (0, .ref this), (1, .int a1), (3, .int x7), (4, .int x8), (6, .int x69)]) hx hb dX11_blow_136 hl (by decide) rfl (fun ls hl => ?_)
                    exact hj138_78 x69 S85 _ _ _ hf hR hS hE ok_this (lv_sub hl [1, 2, 3, 4, 0, 5] rfl)
                  refine lv_if_lt (tgt := 134) hx hb dX11_blow_114 (by decide) (fun hc => ?_) (fun hc => ?_)
                  · replace hf := if_t hf hc
                    exact hj134_83 S71 _ _ _ hf hR hS hE ok_this (lv_sub hl [0, 1, 2, 3, 5] rfl)
                  · replace hf := if_f hf hc
                    refine lv_aload_n hx hb dX11_blow_117 rfl (lv_at hl 0 rfl) ?_
                    obtain ⟨q86, hq87, ok_q86, hf⟩ := gR_of hf
                    refine gf_RX11_40 hC hR ok_this hq87 dX11_blow_118 ?_
                    refine lv_iload hx hb dX11_blow_121 (lv_at hl 5 rfl) ?_
                    obtain ⟨hi88, hf⟩ := ck_of hf
                    refine r_iald hC hR ok_q86 hi88 dX11_blow_123 ?_
                    refine lv_aload_n hx hb dX11_blow_124 rfl (lv_at hl 0 rfl) ?_
                    obtain ⟨q89, hq90, ok_q89, hf⟩ := gR_of hf
                    refine gf_RX11_40 hC hR ok_this hq90 dX11_blow_125 ?_
                    refine lv_iload hx hb dX11_blow_128 (lv_at hl 4 rfl) ?_
                    obtain ⟨hi91, hf⟩ := ck_of hf
                    refine r_iald hC hR ok_q89 hi91 dX11_blow_130 ?_
                    refine lv_icmp_le (tgt := 138) hx hb dX11_blow_131 (by decide) (fun hc => ?_) (fun hc => ?_)
                    · replace hf := if_t hf hc
                      exact hj138_78 x68 S71 _ _ _ hf hR hS hE ok_this (lv_sub hl [0, 1, 2, 3, 4, 5] rfl)
                    · replace hf := if_f hf hc
                      exact hj134_83 S71 _ _ _ hf hR hS hE ok_this (lv_sub hl [0, 1, 2, 3, 5] rfl)
          exact hh95 n (-1 : Int32) (0 : Int32) S10 _ _ _ hf hR hS hE ok_this (lv_sub hl [2, 3, 4, 5, 1, 0] rfl)
    exact hh98 n (0 : Int32) (0 : Int32) S4 _ _ _ hf hR hS hE ok_this (lv_sub hl [2, 3, 1, 0] rfl)
  have hh135 : ∀ k : Nat, ∀ (x101 : Int32) (S102 : MS) (H : Heap) (locs : List Loc) (ls : Array Slot), f_X11_blow_L9 n this a1 x1 j73_3 k x101 S102 = some (ro, So) → Rp G S102 H → va_S (gA G) s.heap H locs → Ex S S102 → Ok S102 this 11 → lv_has ls 8 [(0, .ref this), (1, .int a1), (2, .int x1), (3, .int x101)] → W p l e rX11_blow s m args below meth c H locs 0 0 (MQ below (Qn G S (some (.int ro)) So) args s 0 0 (gA G)) (F0 m 9 ls []) := by
    intro k
    induction k with
    | zero =>
      intro x101 S102 H locs ls hf hR hS hE ok_this hl
      exact absurd hf (by rw [f_X11_blow_L9]; exact fun h => by cases h)
    | succ k ih =>
      intro x101 S102 H locs ls hf hR hS hE ok_this hl
      rw [f_X11_blow_L9] at hf
      obtain ⟨rec9_100, erec9_100, hf⟩ := jn_of2 hf
      have hL9_99 : ∀ (x101 : Int32) (S102 : MS) (H : Heap) (locs : List Loc) (ls : Array Slot), rec9_100 x101 S102 = some (ro, So) → Rp G S102 H → va_S (gA G) s.heap H locs → Ex S S102 → Ok S102 this 11 → lv_has ls 8 [(0, .ref this), (1, .int a1), (2, .int x1), (3, .int x101)] → W p l e rX11_blow s m args below meth c H locs 0 0 (MQ below (Qn G S (some (.int ro)) So) args s 0 0 (gA G)) (F0 m 9 ls []) := by
        intro x101 S102 H locs ls hf hR hS hE ok_this hl
        rw [erec9_100] at hf
        exact ih x101 S102 _ _ _ hf hR hS hE ok_this hl
      refine lv_iload_n hx hb dX11_blow_9 rfl (lv_at hl 3 rfl) ?_
      refine lv_aload_n hx hb dX11_blow_10 rfl (lv_at hl 0 rfl) ?_
      obtain ⟨x106, S103, hc104, hf⟩ := cl_of hf
      refine cl_RX11_316 (As := []) (rest := [.int x101]) hC hR hS (c_X11_bones l G n this S102 x106 S103 hc104 ok_this) ok_this rfl ⟨Nat.le_of_ble_eq_true rfl, Nat.le_of_ble_eq_true rfl⟩ hl.1 rfl (Nat.le_of_ble_eq_true rfl) dX11_blow_11 (Nat.zero_le _) (Nat.zero_le _) (fun H locs hR hS hE105 => ?_)
      have ok_this := hE105 _ _ ok_this
      have hE := hE.tr hE105
      refine lv_icmp_ge (tgt := 73) hx hb dX11_blow_14 (by decide) (fun hc => ?_) (fun hc => ?_)
      · replace hf := if_t hf hc
        exact hj73_2 S103 _ _ _ hf hR hS hE ok_this (lv_sub hl [0, 1] rfl)
      · replace hf := if_f hf hc
        refine lv_aload_n hx hb dX11_blow_17 rfl (lv_at hl 0 rfl) ?_
        obtain ⟨q107, hq108, ok_q107, hf⟩ := gR_of hf
        refine gf_RX11_40 hC hR ok_this hq108 dX11_blow_18 ?_
        refine lv_iload_n hx hb dX11_blow_21 rfl (lv_at hl 3 rfl) ?_
        refine lv_aload_n hx hb dX11_blow_22 rfl (lv_at hl 0 rfl) ?_
        refine lv_iload_n hx hb dX11_blow_23 rfl (lv_at hl 3 rfl) ?_
        obtain ⟨x112, S109, hc110, hf⟩ := cl_of hf
        refine cl_RX11_291 (As := [.int x101]) (rest := [.int x101, .ref q107]) hC hR hS (c_X11_cellOf l G n this x101 S103 x112 S109 hc110 ok_this) ok_this rfl ⟨Nat.le_of_ble_eq_true rfl, Nat.le_of_ble_eq_true rfl⟩ hl.1 rfl (Nat.le_of_ble_eq_true rfl) dX11_blow_24 (Nat.zero_le _) (Nat.zero_le _) (fun H locs hR hS hE111 => ?_)
        have ok_this := hE111 _ _ ok_this
        have ok_q107 := hE111 _ _ ok_q107
        have hE := hE.tr hE111
        refine lv_aload_n hx hb dX11_blow_27 rfl (lv_at hl 0 rfl) ?_
        refine gf_RX11_58 hC hR ok_this dX11_blow_28 ?_
        obtain ⟨hn113, hf⟩ := dv_of hf
        refine lv_irem hx hb dX11_blow_31 hn113 ?_
        refine lv_aload_n hx hb dX11_blow_32 rfl (lv_at hl 0 rfl) ?_
        obtain ⟨q114, hq115, ok_q114, hf⟩ := gR_of hf
        refine gf_RX11_7 hC hR ok_this hq115 dX11_blow_33 ?_
        refine lv_iload_n hx hb dX11_blow_36 rfl (lv_at hl 2 rfl) ?_
        obtain ⟨hi116, hf⟩ := ck_of hf
        refine r_iald hC hR ok_q114 hi116 dX11_blow_37 ?_
        refine lv_imul hx hb dX11_blow_38 ?_
        refine lv_aload_n hx hb dX11_blow_39 rfl (lv_at hl 0 rfl) ?_
        refine lv_iload_n hx hb dX11_blow_40 rfl (lv_at hl 3 rfl) ?_
        obtain ⟨x120, S117, hc118, hf⟩ := cl_of hf
        refine cl_RX11_291 (As := [.int x101]) (rest := [.int ((x112 - x112 / (mI S109 this 1) * (mI S109 this 1)) * (mI S109 q114 x1.toNatClampNeg)), .int x101, .ref q107]) hC hR hS (c_X11_cellOf l G n this x101 S109 x120 S117 hc118 ok_this) ok_this rfl ⟨Nat.le_of_ble_eq_true rfl, Nat.le_of_ble_eq_true rfl⟩ hl.1 rfl (Nat.le_of_ble_eq_true rfl) dX11_blow_41 (Nat.zero_le _) (Nat.zero_le _) (fun H locs hR hS hE119 => ?_)
        have ok_this := hE119 _ _ ok_this
        have ok_q107 := hE119 _ _ ok_q107
        have ok_q114 := hE119 _ _ ok_q114
        have hE := hE.tr hE119
        refine lv_aload_n hx hb dX11_blow_44 rfl (lv_at hl 0 rfl) ?_
        refine gf_RX11_58 hC hR ok_this dX11_blow_45 ?_
        obtain ⟨hn121, hf⟩ := dv_of hf
        refine lv_idiv hx hb dX11_blow_48 hn121 ?_
        refine lv_aload_n hx hb dX11_blow_49 rfl (lv_at hl 0 rfl) ?_
        obtain ⟨q122, hq123, ok_q122, hf⟩ := gR_of hf
        refine gf_RX11_7 hC hR ok_this hq123 dX11_blow_50 ?_
        refine lv_iload_n hx hb dX11_blow_53 rfl (lv_at hl 2 rfl) ?_
        refine lv_iconst (v := 1) hx hb dX11_blow_54 (by decide) ?_
        refine lv_iadd hx hb dX11_blow_55 ?_
        obtain ⟨hi124, hf⟩ := ck_of hf
        refine r_iald hC hR ok_q122 hi124 dX11_blow_56 ?_
        refine lv_imul hx hb dX11_blow_57 ?_
        refine lv_iadd hx hb dX11_blow_58 ?_
        obtain ⟨hi125, hf⟩ := ck_of hf
        refine rB_iast hC hR hS ok_q107 hi125 dX11_blow_59 hf (fun S126 H locs hf hR hS hE127 => ?_)
        have ok_this := hE127 _ _ ok_this
        have ok_q107 := hE127 _ _ ok_q107
        have ok_q114 := hE127 _ _ ok_q114
        have ok_q122 := hE127 _ _ ok_q122
        have hE := hE.tr hE127
        refine lv_aload_n hx hb dX11_blow_60 rfl (lv_at hl 0 rfl) ?_
        obtain ⟨q128, hq129, ok_q128, hf⟩ := gR_of hf
        refine gf_RX11_43 hC hR ok_this hq129 dX11_blow_61 ?_
        refine lv_iload_n hx hb dX11_blow_64 rfl (lv_at hl 3 rfl) ?_
        refine lv_iconst (v := 0) hx hb dX11_blow_65 (by decide) ?_
        obtain ⟨hi130, hf⟩ := ck_of hf
        obtain ⟨hz131, hf⟩ := zb_of hf
        refine rB_zast hC hR hS ok_q128 hi130 hz131 dX11_blow_66 hf (fun S132 H locs hf hR hS hE133 => ?_)
        have ok_this := hE133 _ _ ok_this
        have ok_q107 := hE133 _ _ ok_q107
        have ok_q114 := hE133 _ _ ok_q114
        have ok_q122 := hE133 _ _ ok_q122
        have ok_q128 := hE133 _ _ ok_q128
        have hE := hE.tr hE133
        refine r_iinc (n := 1) (z := 1) (lv' := fun x134 => [(3, .int x134), (0, .ref this), (1, .int a1), (2, .int x1)]) hx hb dX11_blow_67 hl (k := 3) rfl (by decide) (by decide) (fun _ => rfl) hf (fun x134 ls hf hl => ?_)
        refine lv_goto (tgt := 9) hx hb dX11_blow_70 (by decide) ?_
        exact hL9_99 x134 S132 _ _ _ hf hR hS hE ok_this (lv_sub hl [1, 2, 3, 0] rfl)
  exact hh135 n (0 : Int32) S _ _ _ hf hR hS hE ok_this (lv_sub hl [2, 3, 1, 0] rfl)
