abbrev rX3_fieldAt : Room := { frames := 2, cells := 0, slots := 0, locals := 53 }
def f_X3_fieldAt (n : Nat) (this : Nat) (a1 : Int32) (S : MS) : Option (Int64 × MS) :=
  gR S (mR S this 0) 1 fun q1 => cl (f_X1_spread n q1 (lsh (1 : Int64) a1) ((mJ S this 10) ^^^ (-1 : Int64)) S) fun x6 S3 => some (x6, S3)
set_option maxRecDepth 100000 in
set_option maxHeartbeats 4000000 in
theorem c_X3_fieldAt (l : Launch) (G : Gx) (n : Nat) (this : Nat) (a1 : Int32) (S : MS) (ro : Int64) (So : MS) (hf : f_X3_fieldAt n this a1 S = some (ro, So)) (ok_this : Ok S this 3) : Cn G l yX3_fieldAt cX3_fieldAt 2 (some .long) rX3_fieldAt [.ref this, .int a1] S (some (.long ro)) So := by
  refine Cn.of (by decide) (Nat.le_of_ble_eq_true rfl) ?_
  intro p e s m args below meth c hC hname hR ls hl
  have hC : Cx G RX3 cX3_fieldAt 2 (some .long) p s m args meth c := hC
  have hl : lv_has ls 2 [(0, .ref this), (1, .int a1)] := hl
  have hx := hC.x
  have hb := hC.b
  have hS : va_S (gA G) s.heap s.heap [] := va_S.rf
  have hE : Ex S S := Ex.rf S
  unfold f_X3_fieldAt at hf
  refine lv_aload_n hx hb dX3_fieldAt_0 rfl (lv_at hl 0 rfl) ?_
  obtain ⟨q1, hq2, ok_q1, hf⟩ := gR_of hf
  refine gf_RX3_27 hC hR ok_this hq2 dX3_fieldAt_1 ?_
  refine lv_lconst (v := 1) hx hb dX3_fieldAt_4 (by decide) ?_
  refine lv_iload_n hx hb dX3_fieldAt_5 rfl (lv_at hl 1 rfl) ?_
  refine lv_lshl (v := (lsh (1 : Int64) a1)) hx hb dX3_fieldAt_6 rfl ?_
  refine lv_aload_n hx hb dX3_fieldAt_7 rfl (lv_at hl 0 rfl) ?_
  refine gf_RX3_67 hC hR ok_this dX3_fieldAt_8 ?_
  refine lv_ldc2 (v := -1) hx hb hC.ow (hC.ts _ (bg35 _ (List.mem_of_getElem? (i := 11) rfl))) dX3_fieldAt_11 ?_
  refine lv_lxor hx hb dX3_fieldAt_14 ?_
  obtain ⟨x6, S3, hc4, hf⟩ := cl_of hf
  refine cl_RX3_119 (As := [.long (lsh (1 : Int64) a1), .long ((mJ S this 10) ^^^ (-1 : Int64))]) (rest := []) hC hR hS (c_X1_spread l G n q1 (lsh (1 : Int64) a1) ((mJ S this 10) ^^^ (-1 : Int64)) S x6 S3 hc4 ok_q1) ok_q1 rfl ⟨Nat.le_of_ble_eq_true rfl, Nat.le_of_ble_eq_true rfl⟩ hl.1 rfl (Nat.le_of_ble_eq_true rfl) dX3_fieldAt_15 (Nat.zero_le _) (Nat.zero_le _) (fun H locs hR hS hE5 => ?_)
  have ok_this := hE5 _ _ ok_this
  have ok_q1 := hE5 _ _ ok_q1
  have hE := hE.tr hE5
  exact r_lret hC hR hS hE hf dX3_fieldAt_18
abbrev rX3_gates : Room := { frames := 0, cells := 0, slots := 0, locals := 0 }
def f_X3_gates_L21 (n : Nat) (this : Nat) (a1 : Int64) (x1 : Int64) : Nat → Int32 → Int32 → MS → Option (Int32 × MS)
  | 0, _, _, _ => none
  | k + 1, x4, x5, S6 => jn (f_X3_gates_L21 n this a1 x1 k) fun rec21_3 => (if (mI S6 this 7) ≤ x5 then some (x4, S6) else gR S6 (mR S6 this 0) 1 fun q7 => gR S6 (mR S6 q7 5) 13 fun q9 => gR S6 (mR S6 this 1) 12 fun q11 => ck (inb x5 (mN S6 q11)) (ck (inb (mI S6 q11 x5.toNatClampNeg) (mN S6 q9)) (bd (mJ S6 q9 (mI S6 q11 x5.toNatClampNeg).toNatClampNeg) fun x15 => jn (fun (x18 : Int32) (S19 : MS) => bd (x5 + (1 : Int32)) fun x20 => rec21_3 x18 x20 S19) fun j68_17 => (if (lg_cmp (x15 &&& a1) (0 : Int64)) = 0 then j68_17 x4 S6 else (if (lg_cmp (x15 &&& x1) (0 : Int64)) = 0 then j68_17 x4 S6 else bd (x4 + (1 : Int32)) fun x21 => j68_17 x21 S6)))))
def f_X3_gates (n : Nat) (this : Nat) (a1 : Int64) (S : MS) : Option (Int32 × MS) :=
  bd (((mJ S this 10) ^^^ (-1 : Int64)) &&& (a1 ^^^ (-1 : Int64))) fun x1 => f_X3_gates_L21 n this a1 x1 n (0 : Int32) (0 : Int32) S
set_option maxRecDepth 100000 in
set_option maxHeartbeats 4000000 in
theorem c_X3_gates (l : Launch) (G : Gx) (n : Nat) (this : Nat) (a1 : Int64) (S : MS) (ro : Int32) (So : MS) (hf : f_X3_gates n this a1 S = some (ro, So)) (ok_this : Ok S this 3) : Cn G l yX3_gates cX3_gates 9 (some .int) rX3_gates [.ref this, .long a1] S (some (.int ro)) So := by
  refine Cn.of (by decide) (Nat.le_of_ble_eq_true rfl) ?_
  intro p e s m args below meth c hC hname hR ls hl
  have hC : Cx G RX3 cX3_gates 9 (some .int) p s m args meth c := hC
  have hl : lv_has ls 9 [(0, .ref this), (1, .long a1)] := hl
  have hx := hC.x
  have hb := hC.b
  have hS : va_S (gA G) s.heap s.heap [] := va_S.rf
  have hE : Ex S S := Ex.rf S
  unfold f_X3_gates at hf
  refine lv_aload_n hx hb dX3_gates_0 rfl (lv_at hl 0 rfl) ?_
  refine gf_RX3_67 hC hR ok_this dX3_gates_1 ?_
  refine lv_ldc2 (v := -1) hx hb hC.ow (hC.ts _ (bg35 _ (List.mem_of_getElem? (i := 11) rfl))) dX3_gates_4 ?_
  refine lv_lxor hx hb dX3_gates_7 ?_
  refine lv_lload_n hx hb dX3_gates_8 rfl (lv_at hl 1 rfl) ?_
  refine lv_ldc2 (v := -1) hx hb hC.ow (hC.ts _ (bg35 _ (List.mem_of_getElem? (i := 11) rfl))) dX3_gates_9 ?_
  refine lv_lxor hx hb dX3_gates_12 ?_
  refine lv_land hx hb dX3_gates_13 ?_
  refine bdl hf (fun x1 hf => ?_)
  refine lv_lstore_n (lv' := [(3, .long x1), (0, .ref this), (1, .long a1)]) hx hb dX3_gates_14 rfl hl (by decide) rfl (fun ls hl => ?_)
  refine lv_iconst (v := 0) hx hb dX3_gates_15 (by decide) ?_
  refine lv_istore (lv' := [(5, .int (0 : Int32)), (3, .long x1), (0, .ref this), (1, .long a1)]) hx hb dX3_gates_16 hl (by decide) rfl (fun ls hl => ?_)
  refine lv_iconst (v := 0) hx hb dX3_gates_18 (by decide) ?_
  refine lv_istore (lv' := [(6, .int (0 : Int32)), (5, .int (0 : Int32)), (3, .long x1), (0, .ref this), (1, .long a1)]) hx hb dX3_gates_19 hl (by decide) rfl (fun ls hl => ?_)
  have hh24 : ∀ k : Nat, ∀ (x4 : Int32) (x5 : Int32) (S6 : MS) (H : Heap) (locs : List Loc) (ls : Array Slot), f_X3_gates_L21 n this a1 x1 k x4 x5 S6 = some (ro, So) → Rp G S6 H → va_S (gA G) s.heap H locs → Ex S S6 → Ok S6 this 3 → lv_has ls 9 [(0, .ref this), (1, .long a1), (3, .long x1), (5, .int x4), (6, .int x5)] → W p l e rX3_gates s m args below meth c H locs 0 0 (MQ below (Qn G S (some (.int ro)) So) args s 0 0 (gA G)) (F0 m 21 ls []) := by
    intro k
    induction k with
    | zero =>
      intro x4 x5 S6 H locs ls hf hR hS hE ok_this hl
      exact absurd hf (by rw [f_X3_gates_L21]; exact fun h => by cases h)
    | succ k ih =>
      intro x4 x5 S6 H locs ls hf hR hS hE ok_this hl
      rw [f_X3_gates_L21] at hf
      obtain ⟨rec21_3, erec21_3, hf⟩ := jn_of3 hf
      have hL21_2 : ∀ (x4 : Int32) (x5 : Int32) (S6 : MS) (H : Heap) (locs : List Loc) (ls : Array Slot), rec21_3 x4 x5 S6 = some (ro, So) → Rp G S6 H → va_S (gA G) s.heap H locs → Ex S S6 → Ok S6 this 3 → lv_has ls 9 [(0, .ref this), (1, .long a1), (3, .long x1), (5, .int x4), (6, .int x5)] → W p l e rX3_gates s m args below meth c H locs 0 0 (MQ below (Qn G S (some (.int ro)) So) args s 0 0 (gA G)) (F0 m 21 ls []) := by
        intro x4 x5 S6 H locs ls hf hR hS hE ok_this hl
        rw [erec21_3] at hf
        exact ih x4 x5 S6 _ _ _ hf hR hS hE ok_this hl
      refine lv_iload hx hb dX3_gates_21 (lv_at hl 4 rfl) ?_
      refine lv_aload_n hx hb dX3_gates_23 rfl (lv_at hl 0 rfl) ?_
      refine gf_RX3_57 hC hR ok_this dX3_gates_24 ?_
      refine lv_icmp_ge (tgt := 74) hx hb dX3_gates_27 (by decide) (fun hc => ?_) (fun hc => ?_)
      · replace hf := if_t hf hc
        refine lv_iload hx hb dX3_gates_74 (lv_at hl 3 rfl) ?_
        exact r_iret hC hR hS hE hf dX3_gates_76
      · replace hf := if_f hf hc
        refine lv_aload_n hx hb dX3_gates_30 rfl (lv_at hl 0 rfl) ?_
        obtain ⟨q7, hq8, ok_q7, hf⟩ := gR_of hf
        refine gf_RX3_27 hC hR ok_this hq8 dX3_gates_31 ?_
        obtain ⟨q9, hq10, ok_q9, hf⟩ := gR_of hf
        refine gf_RX3_141 hC hR ok_q7 hq10 dX3_gates_34 ?_
        refine lv_aload_n hx hb dX3_gates_37 rfl (lv_at hl 0 rfl) ?_
        obtain ⟨q11, hq12, ok_q11, hf⟩ := gR_of hf
        refine gf_RX3_9 hC hR ok_this hq12 dX3_gates_38 ?_
        refine lv_iload hx hb dX3_gates_41 (lv_at hl 4 rfl) ?_
        obtain ⟨hi13, hf⟩ := ck_of hf
        refine r_iald hC hR ok_q11 hi13 dX3_gates_43 ?_
        obtain ⟨hi14, hf⟩ := ck_of hf
        refine r_lald hC hR ok_q9 hi14 dX3_gates_44 ?_
        refine bdl hf (fun x15 hf => ?_)
        refine lv_lstore (lv' := [(7, .long x15), (0, .ref this), (1, .long a1), (3, .long x1), (5, .int x4), (6, .int x5)]) hx hb dX3_gates_45 hl (by decide) rfl (fun ls hl => ?_)
        refine lv_lload hx hb dX3_gates_47 (lv_at hl 0 rfl) ?_
        refine lv_lload_n hx hb dX3_gates_49 rfl (lv_at hl 2 rfl) ?_
        refine lv_land hx hb dX3_gates_50 ?_
        refine lv_lconst (v := 0) hx hb dX3_gates_51 (by decide) ?_
        refine W.lcmp hx hb dX3_gates_52 ?_
        obtain ⟨j68_17, ej68_17, hf⟩ := jn_of2 hf
        have hj68_16 : ∀ (x18 : Int32) (S19 : MS) (H : Heap) (locs : List Loc) (ls : Array Slot), j68_17 x18 S19 = some (ro, So) → Rp G S19 H → va_S (gA G) s.heap H locs → Ex S S19 → Ok S19 this 3 → lv_has ls 9 [(0, .ref this), (1, .long a1), (3, .long x1), (5, .int x18), (6, .int x5)] → W p l e rX3_gates s m args below meth c H locs 0 0 (MQ below (Qn G S (some (.int ro)) So) args s 0 0 (gA G)) (F0 m 68 ls []) := by
          intro x18 S19 H locs ls hf hR hS hE ok_this hl
          rw [ej68_17] at hf
          refine r_iinc (n := 1) (z := 1) (lv' := fun x20 => [(6, .int x20), (0, .ref this), (1, .long a1), (3, .long x1), (5, .int x18)]) hx hb dX3_gates_68 hl (k := 4) rfl (by decide) (by decide) (fun _ => rfl) hf (fun x20 ls hf hl => ?_)
          refine lv_goto (tgt := 21) hx hb dX3_gates_71 (by decide) ?_
          exact hL21_2 x18 x20 S19 _ _ _ hf hR hS hE ok_this (lv_sub hl [1, 2, 3, 4, 0] rfl)
        refine lv_if_eq (tgt := 68) hx hb dX3_gates_53 (by decide) (fun hc => ?_) (fun hc => ?_)
        · replace hf := if_t hf hc
          exact hj68_16 x4 S6 _ _ _ hf hR hS hE ok_this (lv_sub hl [1, 2, 3, 4, 5] rfl)
        · replace hf := if_f hf hc
          refine lv_lload hx hb dX3_gates_56 (lv_at hl 0 rfl) ?_
          refine lv_lload_n hx hb dX3_gates_58 rfl (lv_at hl 3 rfl) ?_
          refine lv_land hx hb dX3_gates_59 ?_
          refine lv_lconst (v := 0) hx hb dX3_gates_60 (by decide) ?_
          refine W.lcmp hx hb dX3_gates_61 ?_
          refine lv_if_eq (tgt := 68) hx hb dX3_gates_62 (by decide) (fun hc => ?_) (fun hc => ?_)
          · replace hf := if_t hf hc
            exact hj68_16 x4 S6 _ _ _ hf hR hS hE ok_this (lv_sub hl [1, 2, 3, 4, 5] rfl)
          · replace hf := if_f hf hc
            refine r_iinc (n := 1) (z := 1) (lv' := fun x21 => [(5, .int x21), (7, .long x15), (0, .ref this), (1, .long a1), (3, .long x1), (6, .int x5)]) hx hb dX3_gates_65 hl (k := 4) rfl (by decide) (by decide) (fun _ => rfl) hf (fun x21 ls hf hl => ?_)
            exact hj68_16 x21 S6 _ _ _ hf hR hS hE ok_this (lv_sub hl [2, 3, 4, 0, 5] rfl)
  exact hh24 n (0 : Int32) (0 : Int32) S _ _ _ hf hR hS hE ok_this (lv_sub hl [3, 4, 2, 1, 0] rfl)
abbrev rX3_fields : Room := { frames := 2, cells := 0, slots := 0, locals := 53 }
def f_X3_fields_L22 (n : Nat) (this : Nat) : Nat → Int64 → Int32 → Int32 → MS → Option (Int32 × MS)
  | 0, _, _, _, _ => none
  | k + 1, x6, x7, x8, S9 => jn (f_X3_fields_L22 n this k) fun rec22_5 => gR S9 (mR S9 this 0) 1 fun q10 => (if (mI S9 q10 2) ≤ x8 then some (x7, S9) else (if (lg_cmp x6 (0 : Int64)) = 0 then some (x7, S9) else gR S9 (mR S9 this 0) 1 fun q12 => cl (f_X1_spread n q12 (x6 &&& (-x6)) x6 S9) fun x17 S14 => bd (x6 &&& (x17 ^^^ (-1 : Int64))) fun x18 => bd (x7 + (1 : Int32)) fun x19 => bd (x8 + (1 : Int32)) fun x20 => rec22_5 x18 x19 x20 S14))
def f_X3_fields (n : Nat) (this : Nat) (S : MS) : Option (Int32 × MS) :=
  gR S (mR S this 0) 1 fun q1 => bd (((mJ S this 10) ^^^ (-1 : Int64)) &&& (mJ S q1 3)) fun x3 => f_X3_fields_L22 n this n x3 (0 : Int32) (0 : Int32) S
set_option maxRecDepth 100000 in
set_option maxHeartbeats 4000000 in
theorem c_X3_fields (l : Launch) (G : Gx) (n : Nat) (this : Nat) (S : MS) (ro : Int32) (So : MS) (hf : f_X3_fields n this S = some (ro, So)) (ok_this : Ok S this 3) : Cn G l yX3_fields cX3_fields 5 (some .int) rX3_fields [.ref this] S (some (.int ro)) So := by
  refine Cn.of (by decide) (Nat.le_of_ble_eq_true rfl) ?_
  intro p e s m args below meth c hC hname hR ls hl
  have hC : Cx G RX3 cX3_fields 5 (some .int) p s m args meth c := hC
  have hl : lv_has ls 5 [(0, .ref this)] := hl
  have hx := hC.x
  have hb := hC.b
  have hS : va_S (gA G) s.heap s.heap [] := va_S.rf
  have hE : Ex S S := Ex.rf S
  unfold f_X3_fields at hf
  refine lv_aload_n hx hb dX3_fields_0 rfl (lv_at hl 0 rfl) ?_
  refine gf_RX3_67 hC hR ok_this dX3_fields_1 ?_
  refine lv_ldc2 (v := -1) hx hb hC.ow (hC.ts _ (bg35 _ (List.mem_of_getElem? (i := 11) rfl))) dX3_fields_4 ?_
  refine lv_lxor hx hb dX3_fields_7 ?_
  refine lv_aload_n hx hb dX3_fields_8 rfl (lv_at hl 0 rfl) ?_
  obtain ⟨q1, hq2, ok_q1, hf⟩ := gR_of hf
  refine gf_RX3_27 hC hR ok_this hq2 dX3_fields_9 ?_
  refine gf_RX3_145 hC hR ok_q1 dX3_fields_12 ?_
  refine lv_land hx hb dX3_fields_15 ?_
  refine bdl hf (fun x3 hf => ?_)
  refine lv_lstore_n (lv' := [(1, .long x3), (0, .ref this)]) hx hb dX3_fields_16 rfl hl (by decide) rfl (fun ls hl => ?_)
  refine lv_iconst (v := 0) hx hb dX3_fields_17 (by decide) ?_
  refine lv_istore_n (lv' := [(3, .int (0 : Int32)), (1, .long x3), (0, .ref this)]) hx hb dX3_fields_18 rfl hl (by decide) rfl (fun ls hl => ?_)
  refine lv_iconst (v := 0) hx hb dX3_fields_19 (by decide) ?_
  refine lv_istore (lv' := [(4, .int (0 : Int32)), (3, .int (0 : Int32)), (1, .long x3), (0, .ref this)]) hx hb dX3_fields_20 hl (by decide) rfl (fun ls hl => ?_)
  have hh21 : ∀ k : Nat, ∀ (x6 : Int64) (x7 : Int32) (x8 : Int32) (S9 : MS) (H : Heap) (locs : List Loc) (ls : Array Slot), f_X3_fields_L22 n this k x6 x7 x8 S9 = some (ro, So) → Rp G S9 H → va_S (gA G) s.heap H locs → Ex S S9 → Ok S9 this 3 → lv_has ls 5 [(0, .ref this), (1, .long x6), (3, .int x7), (4, .int x8)] → W p l e rX3_fields s m args below meth c H locs 0 0 (MQ below (Qn G S (some (.int ro)) So) args s 0 0 (gA G)) (F0 m 22 ls []) := by
    intro k
    induction k with
    | zero =>
      intro x6 x7 x8 S9 H locs ls hf hR hS hE ok_this hl
      exact absurd hf (by rw [f_X3_fields_L22]; exact fun h => by cases h)
    | succ k ih =>
      intro x6 x7 x8 S9 H locs ls hf hR hS hE ok_this hl
      rw [f_X3_fields_L22] at hf
      obtain ⟨rec22_5, erec22_5, hf⟩ := jn_of4 hf
      have hL22_4 : ∀ (x6 : Int64) (x7 : Int32) (x8 : Int32) (S9 : MS) (H : Heap) (locs : List Loc) (ls : Array Slot), rec22_5 x6 x7 x8 S9 = some (ro, So) → Rp G S9 H → va_S (gA G) s.heap H locs → Ex S S9 → Ok S9 this 3 → lv_has ls 5 [(0, .ref this), (1, .long x6), (3, .int x7), (4, .int x8)] → W p l e rX3_fields s m args below meth c H locs 0 0 (MQ below (Qn G S (some (.int ro)) So) args s 0 0 (gA G)) (F0 m 22 ls []) := by
        intro x6 x7 x8 S9 H locs ls hf hR hS hE ok_this hl
        rw [erec22_5] at hf
        exact ih x6 x7 x8 S9 _ _ _ hf hR hS hE ok_this hl
      refine lv_iload hx hb dX3_fields_22 (lv_at hl 3 rfl) ?_
      refine lv_aload_n hx hb dX3_fields_24 rfl (lv_at hl 0 rfl) ?_
      obtain ⟨q10, hq11, ok_q10, hf⟩ := gR_of hf
      refine gf_RX3_27 hC hR ok_this hq11 dX3_fields_25 ?_
      refine gf_RX3_31 hC hR ok_q10 dX3_fields_28 ?_
      refine lv_icmp_ge (tgt := 68) hx hb dX3_fields_31 (by decide) (fun hc => ?_) (fun hc => ?_)
      · replace hf := if_t hf hc
        refine lv_iload_n hx hb dX3_fields_68 rfl (lv_at hl 2 rfl) ?_
        exact r_iret hC hR hS hE hf dX3_fields_69
      · replace hf := if_f hf hc
        refine lv_lload_n hx hb dX3_fields_34 rfl (lv_at hl 1 rfl) ?_
        refine lv_lconst (v := 0) hx hb dX3_fields_35 (by decide) ?_
        refine W.lcmp hx hb dX3_fields_36 ?_
        refine lv_if_eq (tgt := 68) hx hb dX3_fields_37 (by decide) (fun hc => ?_) (fun hc => ?_)
        · replace hf := if_t hf hc
          refine lv_iload_n hx hb dX3_fields_68 rfl (lv_at hl 2 rfl) ?_
          exact r_iret hC hR hS hE hf dX3_fields_69
        · replace hf := if_f hf hc
          refine lv_lload_n hx hb dX3_fields_40 rfl (lv_at hl 1 rfl) ?_
          refine lv_aload_n hx hb dX3_fields_41 rfl (lv_at hl 0 rfl) ?_
          obtain ⟨q12, hq13, ok_q12, hf⟩ := gR_of hf
          refine gf_RX3_27 hC hR ok_this hq13 dX3_fields_42 ?_
          refine lv_lload_n hx hb dX3_fields_45 rfl (lv_at hl 1 rfl) ?_
          refine lv_lload_n hx hb dX3_fields_46 rfl (lv_at hl 1 rfl) ?_
          refine lv_lneg hx hb dX3_fields_47 ?_
          refine lv_land hx hb dX3_fields_48 ?_
          refine lv_lload_n hx hb dX3_fields_49 rfl (lv_at hl 1 rfl) ?_
          obtain ⟨x17, S14, hc15, hf⟩ := cl_of hf
          refine cl_RX3_119 (As := [.long (x6 &&& (-x6)), .long x6]) (rest := [.long x6]) hC hR hS (c_X1_spread l G n q12 (x6 &&& (-x6)) x6 S9 x17 S14 hc15 ok_q12) ok_q12 rfl ⟨Nat.le_of_ble_eq_true rfl, Nat.le_of_ble_eq_true rfl⟩ hl.1 rfl (Nat.le_of_ble_eq_true rfl) dX3_fields_50 (Nat.zero_le _) (Nat.zero_le _) (fun H locs hR hS hE16 => ?_)
          have ok_this := hE16 _ _ ok_this
          have ok_q10 := hE16 _ _ ok_q10
          have ok_q12 := hE16 _ _ ok_q12
          have hE := hE.tr hE16
          refine lv_ldc2 (v := -1) hx hb hC.ow (hC.ts _ (bg35 _ (List.mem_of_getElem? (i := 11) rfl))) dX3_fields_53 ?_
          refine lv_lxor hx hb dX3_fields_56 ?_
          refine lv_land hx hb dX3_fields_57 ?_
          refine bdl hf (fun x18 hf => ?_)
          refine lv_lstore_n (lv' := [(1, .long x18), (0, .ref this), (3, .int x7), (4, .int x8)]) hx hb dX3_fields_58 rfl hl (by decide) rfl (fun ls hl => ?_)
          refine r_iinc (n := 1) (z := 1) (lv' := fun x19 => [(3, .int x19), (1, .long x18), (0, .ref this), (4, .int x8)]) hx hb dX3_fields_59 hl (k := 2) rfl (by decide) (by decide) (fun _ => rfl) hf (fun x19 ls hf hl => ?_)
          refine r_iinc (n := 1) (z := 1) (lv' := fun x20 => [(4, .int x20), (3, .int x19), (1, .long x18), (0, .ref this)]) hx hb dX3_fields_62 hl (k := 3) rfl (by decide) (by decide) (fun _ => rfl) hf (fun x20 ls hf hl => ?_)
          refine lv_goto (tgt := 22) hx hb dX3_fields_65 (by decide) ?_
          exact hL22_4 x18 x19 x20 S14 _ _ _ hf hR hS hE ok_this (lv_sub hl [3, 2, 1, 0] rfl)
  exact hh21 n x3 (0 : Int32) (0 : Int32) S _ _ _ hf hR hS hE ok_this (lv_sub hl [3, 2, 1, 0] rfl)
abbrev rX3_sown : Room := { frames := 0, cells := 0, slots := 0, locals := 0 }
def f_X3_sown_L4 (n : Nat) (this : Nat) : Nat → Int32 → Int32 → MS → Option (Int32 × MS)
  | 0, _, _, _ => none
  | k + 1, x3, x4, S5 => jn (f_X3_sown_L4 n this k) fun rec4_2 => gR S5 (mR S5 this 6) 12 fun q6 => (if (Int32.ofNat (mN S5 q6)) ≤ x4 then some (x3, S5) else gR S5 (mR S5 this 6) 12 fun q8 => ck (inb x4 (mN S5 q8)) (jn (fun (x13 : Int32) (x14 : Int32) (S15 : MS) => bd (x13 + x14) fun x16 => bd (x4 + (1 : Int32)) fun x17 => rec4_2 x16 x17 S15) fun j29_12 => (if (mI S5 q8 x4.toNatClampNeg) = (-1 : Int32) then j29_12 x3 (0 : Int32) S5 else j29_12 x3 (1 : Int32) S5)))
def f_X3_sown (n : Nat) (this : Nat) (S : MS) : Option (Int32 × MS) :=
  f_X3_sown_L4 n this n (0 : Int32) (0 : Int32) S
set_option maxRecDepth 100000 in
set_option maxHeartbeats 4000000 in
theorem c_X3_sown (l : Launch) (G : Gx) (n : Nat) (this : Nat) (S : MS) (ro : Int32) (So : MS) (hf : f_X3_sown n this S = some (ro, So)) (ok_this : Ok S this 3) : Cn G l yX3_sown cX3_sown 3 (some .int) rX3_sown [.ref this] S (some (.int ro)) So := by
  refine Cn.of (by decide) (Nat.le_of_ble_eq_true rfl) ?_
  intro p e s m args below meth c hC hname hR ls hl
  have hC : Cx G RX3 cX3_sown 3 (some .int) p s m args meth c := hC
  have hl : lv_has ls 3 [(0, .ref this)] := hl
  have hx := hC.x
  have hb := hC.b
  have hS : va_S (gA G) s.heap s.heap [] := va_S.rf
  have hE : Ex S S := Ex.rf S
  unfold f_X3_sown at hf
  refine lv_iconst (v := 0) hx hb dX3_sown_0 (by decide) ?_
  refine lv_istore_n (lv' := [(1, .int (0 : Int32)), (0, .ref this)]) hx hb dX3_sown_1 rfl hl (by decide) rfl (fun ls hl => ?_)
  refine lv_iconst (v := 0) hx hb dX3_sown_2 (by decide) ?_
  refine lv_istore_n (lv' := [(2, .int (0 : Int32)), (1, .int (0 : Int32)), (0, .ref this)]) hx hb dX3_sown_3 rfl hl (by decide) rfl (fun ls hl => ?_)
  have hh21 : ∀ k : Nat, ∀ (x3 : Int32) (x4 : Int32) (S5 : MS) (H : Heap) (locs : List Loc) (ls : Array Slot), f_X3_sown_L4 n this k x3 x4 S5 = some (ro, So) → Rp G S5 H → va_S (gA G) s.heap H locs → Ex S S5 → Ok S5 this 3 → lv_has ls 3 [(0, .ref this), (1, .int x3), (2, .int x4)] → W p l e rX3_sown s m args below meth c H locs 0 0 (MQ below (Qn G S (some (.int ro)) So) args s 0 0 (gA G)) (F0 m 4 ls []) := by
    intro k
    induction k with
    | zero =>
      intro x3 x4 S5 H locs ls hf hR hS hE ok_this hl
      exact absurd hf (by rw [f_X3_sown_L4]; exact fun h => by cases h)
    | succ k ih =>
      intro x3 x4 S5 H locs ls hf hR hS hE ok_this hl
      rw [f_X3_sown_L4] at hf
      obtain ⟨rec4_2, erec4_2, hf⟩ := jn_of3 hf
      have hL4_1 : ∀ (x3 : Int32) (x4 : Int32) (S5 : MS) (H : Heap) (locs : List Loc) (ls : Array Slot), rec4_2 x3 x4 S5 = some (ro, So) → Rp G S5 H → va_S (gA G) s.heap H locs → Ex S S5 → Ok S5 this 3 → lv_has ls 3 [(0, .ref this), (1, .int x3), (2, .int x4)] → W p l e rX3_sown s m args below meth c H locs 0 0 (MQ below (Qn G S (some (.int ro)) So) args s 0 0 (gA G)) (F0 m 4 ls []) := by
        intro x3 x4 S5 H locs ls hf hR hS hE ok_this hl
        rw [erec4_2] at hf
        exact ih x3 x4 S5 _ _ _ hf hR hS hE ok_this hl
      refine lv_iload_n hx hb dX3_sown_4 rfl (lv_at hl 2 rfl) ?_
      refine lv_aload_n hx hb dX3_sown_5 rfl (lv_at hl 0 rfl) ?_
      obtain ⟨q6, hq7, ok_q6, hf⟩ := gR_of hf
      refine gf_RX3_36 hC hR ok_this hq7 dX3_sown_6 ?_
      refine r_alenI hC hR ok_q6 dX3_sown_9 ?_
      refine lv_icmp_ge (tgt := 37) hx hb dX3_sown_10 (by decide) (fun hc => ?_) (fun hc => ?_)
      · replace hf := if_t hf hc
        refine lv_iload_n hx hb dX3_sown_37 rfl (lv_at hl 1 rfl) ?_
        exact r_iret hC hR hS hE hf dX3_sown_38
      · replace hf := if_f hf hc
        refine lv_iload_n hx hb dX3_sown_13 rfl (lv_at hl 1 rfl) ?_
        refine lv_aload_n hx hb dX3_sown_14 rfl (lv_at hl 0 rfl) ?_
        obtain ⟨q8, hq9, ok_q8, hf⟩ := gR_of hf
        refine gf_RX3_36 hC hR ok_this hq9 dX3_sown_15 ?_
        refine lv_iload_n hx hb dX3_sown_18 rfl (lv_at hl 2 rfl) ?_
        obtain ⟨hi10, hf⟩ := ck_of hf
        refine r_iald hC hR ok_q8 hi10 dX3_sown_19 ?_
        refine lv_iconst (v := -1) hx hb dX3_sown_20 (by decide) ?_
        obtain ⟨j29_12, ej29_12, hf⟩ := jn_of3 hf
        have hj29_11 : ∀ (x13 : Int32) (x14 : Int32) (S15 : MS) (H : Heap) (locs : List Loc) (ls : Array Slot), j29_12 x13 x14 S15 = some (ro, So) → Rp G S15 H → va_S (gA G) s.heap H locs → Ex S S15 → Ok S15 this 3 → lv_has ls 3 [(0, .ref this), (2, .int x4)] → W p l e rX3_sown s m args below meth c H locs 0 0 (MQ below (Qn G S (some (.int ro)) So) args s 0 0 (gA G)) (F0 m 29 ls [.int x14, .int x13]) := by
          intro x13 x14 S15 H locs ls hf hR hS hE ok_this hl
          rw [ej29_12] at hf
          refine lv_iadd hx hb dX3_sown_29 ?_
          refine bdi hf (fun x16 hf => ?_)
          refine lv_istore_n (lv' := [(1, .int x16), (0, .ref this), (2, .int x4)]) hx hb dX3_sown_30 rfl hl (by decide) rfl (fun ls hl => ?_)
          refine r_iinc (n := 1) (z := 1) (lv' := fun x17 => [(2, .int x17), (1, .int x16), (0, .ref this)]) hx hb dX3_sown_31 hl (k := 2) rfl (by decide) (by decide) (fun _ => rfl) hf (fun x17 ls hf hl => ?_)
          refine lv_goto (tgt := 4) hx hb dX3_sown_34 (by decide) ?_
          exact hL4_1 x16 x17 S15 _ _ _ hf hR hS hE ok_this (lv_sub hl [2, 1, 0] rfl)
        refine lv_icmp_ne (tgt := 28) hx hb dX3_sown_21 (by decide) (fun hc => ?_) (fun hc => ?_)
        · replace hf := if_f hf hc
          refine lv_iconst (v := 1) hx hb dX3_sown_28 (by decide) ?_
          exact hj29_11 x3 (1 : Int32) S5 _ _ _ hf hR hS hE ok_this (lv_sub hl [0, 2] rfl)
        · replace hf := if_t hf hc
          refine lv_iconst (v := 0) hx hb dX3_sown_24 (by decide) ?_
          refine lv_goto (tgt := 29) hx hb dX3_sown_25 (by decide) ?_
          exact hj29_11 x3 (0 : Int32) S5 _ _ _ hf hR hS hE ok_this (lv_sub hl [0, 2] rfl)
  exact hh21 n (0 : Int32) (0 : Int32) S _ _ _ hf hR hS hE ok_this (lv_sub hl [2, 1, 0] rfl)
abbrev rX4_init : Room := { frames := 2, cells := 4, slots := 907, locals := 60 }
def f_X4_init (n : Nat) (z : Nat) (this : Nat) (S : MS) : Option (MS) :=
  bd (sI S this 0 (-1 : Int32)) fun S1 => bd (sI S1 this 1 (-1 : Int32)) fun S3 => jn (z + (mL S3).length) fun q5 => bd (nw S3 q5 0 0) fun S6 => cv (f_X0_init n z q5 S6) fun S8 => bd (sR S8 this 2 (some q5)) fun S11 => some S11
set_option maxRecDepth 100000 in
set_option maxHeartbeats 4000000 in
theorem c_X4_init (l : Launch) (G : Gx) (n : Nat) (this : Nat) (S : MS) (So : MS) (hf : f_X4_init n G.2.2 this S = some So) (ok_this : Ok S this 4) : Cn G l yX4_init cX4_init 1 none rX4_init [.ref this] S none So := by
  refine Cn.of (by decide) (Nat.le_of_ble_eq_true rfl) ?_
  intro p e s m args below meth c hC hname hR ls hl
  have hC : Cx G RX4 cX4_init 1 none p s m args meth c := hC
  have hl : lv_has ls 1 [(0, .ref this)] := hl
  have hx := hC.x
  have hb := hC.b
  have hS : va_S (gA G) s.heap s.heap [] := va_S.rf
  have hE : Ex S S := Ex.rf S
  unfold f_X4_init at hf
  refine lv_aload_n hx hb dX4_init_0 rfl (lv_at hl 0 rfl) ?_
  refine r_obj hC hl.1 (bg4 _ (List.mem_of_getElem? (i := 9) rfl)) (bg1 _ (List.mem_of_getElem? (i := 14) rfl)) (bg1 _ (List.mem_of_getElem? (i := 15) rfl)) (Nat.le_of_ble_eq_true rfl) (Nat.le_of_ble_eq_true rfl) dX4_init_1 ?_
  refine lv_aload_n hx hb dX4_init_4 rfl (lv_at hl 0 rfl) ?_
  refine lv_iconst (v := -1) hx hb dX4_init_5 (by decide) ?_
  refine pf_RX4_9 hC hR hS ok_this dX4_init_6 hf (fun S1 H locs hf hR hS hE2 => ?_)
  have ok_this := hE2 _ _ ok_this
  have hE := hE.tr hE2
  refine lv_aload_n hx hb dX4_init_9 rfl (lv_at hl 0 rfl) ?_
  refine lv_iconst (v := -1) hx hb dX4_init_10 (by decide) ?_
  refine pf_RX4_15 hC hR hS ok_this dX4_init_11 hf (fun S3 H locs hf hR hS hE4 => ?_)
  have ok_this := hE4 _ _ ok_this
  have hE := hE.tr hE4
  refine lv_aload_n hx hb dX4_init_14 rfl (lv_at hl 0 rfl) ?_
  obtain ⟨q5, eq5, hf⟩ := jn_of hf
  refine r_new (ci := 0) rfl (by decide) inlX0 rfl (by decide +kernel) (by decide +kernel) (bg4 _ (List.mem_of_getElem? (i := 12) rfl)) (bg4 _ (List.mem_of_getElem? (i := 13) rfl)) (bg4 _ (List.mem_of_getElem? (i := 14) rfl)) hC hR hS (Nat.le_of_ble_eq_true rfl) (Nat.le_of_ble_eq_true rfl) dX4_init_15 eq5 hf (fun S6 H hf hR hS hE7 ok_q5 => ?_)
  have ok_this := hE7 _ _ ok_this
  have hE := hE.tr hE7
  refine lv_dup hx hb dX4_init_18 rfl ?_
  obtain ⟨S8, hc9, hf⟩ := cv_of hf
  refine cl_RX4_20 (As := []) (rest := [.ref q5, .ref this]) hC hR hS (c_X0_init l G n q5 S6 S8 hc9 ok_q5) rfl ⟨Nat.le_of_ble_eq_true rfl, Nat.le_of_ble_eq_true rfl⟩ hl.1 rfl (Nat.le_of_ble_eq_true rfl) dX4_init_19 (Nat.le_of_ble_eq_true rfl) (Nat.le_of_ble_eq_true rfl) (fun H locs hR hS hE10 => ?_)
  have ok_this := hE10 _ _ ok_this
  have ok_q5 := hE10 _ _ ok_q5
  have hE := hE.tr hE10
  refine pf_RX4_21 hC hR hS ok_this hname dX4_init_22 hf (fun S11 H locs hf hR hS hE12 => ?_)
  have ok_this := hE12 _ _ ok_this
  have ok_q5 := hE12 _ _ ok_q5
  have hE := hE.tr hE12
  refine W.widen (k := 4) (n := 907) (Nat.le_of_ble_eq_true rfl) (Nat.le_of_ble_eq_true rfl) ?_
  exact r_vret hC hR hS hE hf dX4_init_25
abbrev rX7_empty : Room := { frames := 0, cells := 0, slots := 0, locals := 0 }
def f_X7_empty (_n : Nat) (this : Nat) (S : MS) : Option (MS) :=
  bd (sI S this 5 (0 : Int32)) fun S1 => bd (sI S1 this 6 (0 : Int32)) fun S3 => bd (sI S3 this 7 (-1 : Int32)) fun S5 => bd (sI S5 this 8 (-1 : Int32)) fun S7 => bd (sI S7 this 9 (-1 : Int32)) fun S9 => some S9
set_option maxRecDepth 100000 in
set_option maxHeartbeats 4000000 in
theorem c_X7_empty (l : Launch) (G : Gx) (n : Nat) (this : Nat) (S : MS) (So : MS) (hf : f_X7_empty n this S = some So) (ok_this : Ok S this 7) : Cn G l yX7_empty cX7_empty 1 none rX7_empty [.ref this] S none So := by
  refine Cn.of (by decide) (Nat.le_of_ble_eq_true rfl) ?_
  intro p e s m args below meth c hC hname hR ls hl
  have hC : Cx G RX7 cX7_empty 1 none p s m args meth c := hC
  have hl : lv_has ls 1 [(0, .ref this)] := hl
  have hx := hC.x
  have hb := hC.b
  have hS : va_S (gA G) s.heap s.heap [] := va_S.rf
  have hE : Ex S S := Ex.rf S
  unfold f_X7_empty at hf
  refine lv_aload_n hx hb dX7_empty_0 rfl (lv_at hl 0 rfl) ?_
  refine lv_iconst (v := 0) hx hb dX7_empty_1 (by decide) ?_
  refine pf_RX7_27 hC hR hS ok_this dX7_empty_2 hf (fun S1 H locs hf hR hS hE2 => ?_)
  have ok_this := hE2 _ _ ok_this
  have hE := hE.tr hE2
  refine lv_aload_n hx hb dX7_empty_5 rfl (lv_at hl 0 rfl) ?_
  refine lv_iconst (v := 0) hx hb dX7_empty_6 (by decide) ?_
  refine pf_RX7_31 hC hR hS ok_this dX7_empty_7 hf (fun S3 H locs hf hR hS hE4 => ?_)
  have ok_this := hE4 _ _ ok_this
  have hE := hE.tr hE4
  refine lv_aload_n hx hb dX7_empty_10 rfl (lv_at hl 0 rfl) ?_
  refine lv_iconst (v := -1) hx hb dX7_empty_11 (by decide) ?_
  refine pf_RX7_34 hC hR hS ok_this dX7_empty_12 hf (fun S5 H locs hf hR hS hE6 => ?_)
  have ok_this := hE6 _ _ ok_this
  have hE := hE.tr hE6
  refine lv_aload_n hx hb dX7_empty_15 rfl (lv_at hl 0 rfl) ?_
  refine lv_iconst (v := -1) hx hb dX7_empty_16 (by decide) ?_
  refine pf_RX7_37 hC hR hS ok_this dX7_empty_17 hf (fun S7 H locs hf hR hS hE8 => ?_)
  have ok_this := hE8 _ _ ok_this
  have hE := hE.tr hE8
  refine lv_aload_n hx hb dX7_empty_20 rfl (lv_at hl 0 rfl) ?_
  refine lv_iconst (v := -1) hx hb dX7_empty_21 (by decide) ?_
  refine pf_RX7_40 hC hR hS ok_this dX7_empty_22 hf (fun S9 H locs hf hR hS hE10 => ?_)
  have ok_this := hE10 _ _ ok_this
  have hE := hE.tr hE10
  exact r_vret hC hR hS hE hf dX7_empty_25
abbrev rX4_begin : Room := { frames := 7, cells := 0, slots := 0, locals := 214 }
def f_X4_begin (n : Nat) (this : Nat) (a1 : Nat) (a2 : Option Nat) (S : MS) : Option (MS) :=
  bd (sI S this 0 (0 : Int32)) fun S1 => bd (sI S1 this 1 (-1 : Int32)) fun S3 => bd (sR S3 this 3 a2) fun S5 => gR S5 (mR S5 this 3) 7 fun q7 => cv (f_X7_empty n q7 S5) fun S9 => gR S9 (mR S9 this 2) 0 fun q12 => cv (f_X0_cut n q12 a1 S9) fun S14 => bd (sI S14 this 4 (0 : Int32)) fun S17 => gR S17 (mR S17 this 2) 0 fun q19 => gR S17 (mR S17 q19 0) 12 fun q21 => ck (inb (0 : Int32) (mN S17 q21)) (bd (sI S17 this 5 (mI S17 q21 (0 : Int32).toNatClampNeg)) fun S24 => some S24)
set_option maxRecDepth 100000 in
set_option maxHeartbeats 4000000 in
theorem c_X4_begin (l : Launch) (G : Gx) (n : Nat) (this : Nat) (a1 : Nat) (a2 : Option Nat) (S : MS) (So : MS) (hf : f_X4_begin n this a1 a2 S = some So) (ok_this : Ok S this 4) (ok_a1 : Ok S a1 6) (ok_a2 : ∀ q, a2 = some q → Ok S q 7) : Cn G l yX4_begin cX4_begin 3 none rX4_begin [.ref this, .ref a1, va_rf a2] S none So := by
  refine Cn.of (by decide) (by cases a2 <;> exact Nat.le_of_ble_eq_true rfl) ?_
  intro p e s m args below meth c hC hname hR ls hl
  have hC : Cx G RX4 cX4_begin 3 none p s m args meth c := hC
  have hl : lv_has ls 3 [(0, .ref this), (1, .ref a1), (2, va_rf a2)] := by cases a2 <;> exact hl
  have hx := hC.x
  have hb := hC.b
  have hS : va_S (gA G) s.heap s.heap [] := va_S.rf
  have hE : Ex S S := Ex.rf S
  unfold f_X4_begin at hf
  refine lv_aload_n hx hb dX4_begin_0 rfl (lv_at hl 0 rfl) ?_
  refine lv_iconst (v := 0) hx hb dX4_begin_1 (by decide) ?_
  refine pf_RX4_9 hC hR hS ok_this dX4_begin_2 hf (fun S1 H locs hf hR hS hE2 => ?_)
  have ok_this := hE2 _ _ ok_this
  have ok_a1 := hE2 _ _ ok_a1
  have ok_a2 := fun q h => hE2 _ _ (ok_a2 q h)
  have hE := hE.tr hE2
  refine lv_aload_n hx hb dX4_begin_5 rfl (lv_at hl 0 rfl) ?_
  refine lv_iconst (v := -1) hx hb dX4_begin_6 (by decide) ?_
  refine pf_RX4_15 hC hR hS ok_this dX4_begin_7 hf (fun S3 H locs hf hR hS hE4 => ?_)
  have ok_this := hE4 _ _ ok_this
  have ok_a1 := hE4 _ _ ok_a1
  have ok_a2 := fun q h => hE4 _ _ (ok_a2 q h)
  have hE := hE.tr hE4
  refine lv_aload_n hx hb dX4_begin_10 rfl (lv_at hl 0 rfl) ?_
  refine r_aload_nO hx hb dX4_begin_11 rfl (lv_at hl 2 rfl) ?_
  refine pf_RX4_25 hC hR hS ok_this dX4_begin_12 hf (fun S5 H locs hf hR hS hE6 => ?_)
  have ok_this := hE6 _ _ ok_this
  have ok_a1 := hE6 _ _ ok_a1
  have ok_a2 := fun q h => hE6 _ _ (ok_a2 q h)
  have hE := hE.tr hE6
  refine lv_aload_n hx hb dX4_begin_15 rfl (lv_at hl 0 rfl) ?_
  obtain ⟨q7, hq8, ok_q7, hf⟩ := gR_of hf
  refine gf_RX4_25 hC hR ok_this hq8 dX4_begin_16 ?_
  obtain ⟨S9, hc10, hf⟩ := cv_of hf
  refine cl_RX4_29 (As := []) (rest := []) hC hR hS (c_X7_empty l G n q7 S5 S9 hc10 ok_q7) ok_q7 rfl ⟨Nat.le_of_ble_eq_true rfl, Nat.le_of_ble_eq_true rfl⟩ hl.1 rfl (Nat.le_of_ble_eq_true rfl) dX4_begin_19 (Nat.zero_le _) (Nat.zero_le _) (fun H locs hR hS hE11 => ?_)
  have ok_this := hE11 _ _ ok_this
  have ok_a1 := hE11 _ _ ok_a1
  have ok_a2 := fun q h => hE11 _ _ (ok_a2 q h)
  have ok_q7 := hE11 _ _ ok_q7
  have hE := hE.tr hE11
  refine lv_aload_n hx hb dX4_begin_22 rfl (lv_at hl 0 rfl) ?_
  obtain ⟨q12, hq13, ok_q12, hf⟩ := gR_of hf
  refine gf_RX4_21 hC hR ok_this hq13 dX4_begin_23 ?_
  refine lv_aload_n hx hb dX4_begin_26 rfl (lv_at hl 1 rfl) ?_
  obtain ⟨S14, hc15, hf⟩ := cv_of hf
  refine cl_RX4_34 (As := [.ref a1]) (rest := []) hC hR hS (c_X0_cut l G n q12 a1 S9 S14 hc15 ok_q12 ok_a1) ok_q12 rfl ⟨Nat.le_of_ble_eq_true rfl, Nat.le_of_ble_eq_true rfl⟩ hl.1 rfl (Nat.le_of_ble_eq_true rfl) dX4_begin_27 (Nat.zero_le _) (Nat.zero_le _) (fun H locs hR hS hE16 => ?_)
  have ok_this := hE16 _ _ ok_this
  have ok_a1 := hE16 _ _ ok_a1
  have ok_a2 := fun q h => hE16 _ _ (ok_a2 q h)
  have ok_q7 := hE16 _ _ ok_q7
  have ok_q12 := hE16 _ _ ok_q12
  have hE := hE.tr hE16
  refine lv_aload_n hx hb dX4_begin_30 rfl (lv_at hl 0 rfl) ?_
  refine lv_iconst (v := 0) hx hb dX4_begin_31 (by decide) ?_
  refine pf_RX4_38 hC hR hS ok_this dX4_begin_32 hf (fun S17 H locs hf hR hS hE18 => ?_)
  have ok_this := hE18 _ _ ok_this
  have ok_a1 := hE18 _ _ ok_a1
  have ok_a2 := fun q h => hE18 _ _ (ok_a2 q h)
  have ok_q7 := hE18 _ _ ok_q7
  have ok_q12 := hE18 _ _ ok_q12
  have hE := hE.tr hE18
  refine lv_aload_n hx hb dX4_begin_35 rfl (lv_at hl 0 rfl) ?_
  refine lv_aload_n hx hb dX4_begin_36 rfl (lv_at hl 0 rfl) ?_
  obtain ⟨q19, hq20, ok_q19, hf⟩ := gR_of hf
  refine gf_RX4_21 hC hR ok_this hq20 dX4_begin_37 ?_
  obtain ⟨q21, hq22, ok_q21, hf⟩ := gR_of hf
  refine gf_RX4_41 hC hR ok_q19 hq22 dX4_begin_40 ?_
  refine lv_iconst (v := 0) hx hb dX4_begin_43 (by decide) ?_
  obtain ⟨hi23, hf⟩ := ck_of hf
  refine r_iald hC hR ok_q21 hi23 dX4_begin_44 ?_
  refine pf_RX4_45 hC hR hS ok_this dX4_begin_45 hf (fun S24 H locs hf hR hS hE25 => ?_)
  have ok_this := hE25 _ _ ok_this
  have ok_a1 := hE25 _ _ ok_a1
  have ok_a2 := fun q h => hE25 _ _ (ok_a2 q h)
  have ok_q7 := hE25 _ _ ok_q7
  have ok_q12 := hE25 _ _ ok_q12
  have ok_q19 := hE25 _ _ ok_q19
  have ok_q21 := hE25 _ _ ok_q21
  have hE := hE.tr hE25
  exact r_vret hC hR hS hE hf dX4_begin_48
abbrev rX4_goesOn : Room := { frames := 0, cells := 0, slots := 0, locals := 0 }
def f_X4_goesOn (_n : Nat) (this : Nat) (S : MS) : Option (Int32 × MS) :=
  (if (mI S this 5) = (39 : Int32) then zb (0 : Int32) (some ((0 : Int32), S)) else zb (1 : Int32) (some ((1 : Int32), S)))
set_option maxRecDepth 100000 in
set_option maxHeartbeats 4000000 in
theorem c_X4_goesOn (l : Launch) (G : Gx) (n : Nat) (this : Nat) (S : MS) (ro : Int32) (So : MS) (hf : f_X4_goesOn n this S = some (ro, So)) (ok_this : Ok S this 4) : Cn G l yX4_goesOn cX4_goesOn 1 (some .boolean) rX4_goesOn [.ref this] S (some (.int ro)) So := by
  refine Cn.of (by decide) (Nat.le_of_ble_eq_true rfl) ?_
  intro p e s m args below meth c hC hname hR ls hl
  have hC : Cx G RX4 cX4_goesOn 1 (some .boolean) p s m args meth c := hC
  have hl : lv_has ls 1 [(0, .ref this)] := hl
  have hx := hC.x
  have hb := hC.b
  have hS : va_S (gA G) s.heap s.heap [] := va_S.rf
  have hE : Ex S S := Ex.rf S
  unfold f_X4_goesOn at hf
  refine lv_aload_n hx hb dX4_goesOn_0 rfl (lv_at hl 0 rfl) ?_
  refine gf_RX4_45 hC hR ok_this dX4_goesOn_1 ?_
  refine lv_bipush (v := 39) hx hb dX4_goesOn_4 (by decide) ?_
  refine lv_icmp_eq (tgt := 13) hx hb dX4_goesOn_6 (by decide) (fun hc => ?_) (fun hc => ?_)
  · replace hf := if_t hf hc
    refine lv_iconst (v := 0) hx hb dX4_goesOn_13 (by decide) ?_
    exact r_zret hC hR hS hE hf dX4_goesOn_14
  · replace hf := if_f hf hc
    refine lv_iconst (v := 1) hx hb dX4_goesOn_9 (by decide) ?_
    refine lv_goto (tgt := 14) hx hb dX4_goesOn_10 (by decide) ?_
    exact r_zret hC hR hS hE hf dX4_goesOn_14
abbrev rX4_complain : Room := { frames := 0, cells := 0, slots := 0, locals := 0 }
def f_X4_complain (_n : Nat) (this : Nat) (a1 : Int32) (S : MS) : Option (MS) :=
  (if (mI S this 0) = 0 then bd (sI S this 0 a1) fun S1 => gR S1 (mR S1 this 2) 0 fun q3 => gR S1 (mR S1 q3 1) 12 fun q5 => ck (inb (mI S1 this 4) (mN S1 q5)) (bd (sI S1 this 1 (mI S1 q5 (mI S1 this 4).toNatClampNeg)) fun S8 => bd (sI S8 this 5 (39 : Int32)) fun S10 => some S10) else some S)
set_option maxRecDepth 100000 in
set_option maxHeartbeats 4000000 in
theorem c_X4_complain (l : Launch) (G : Gx) (n : Nat) (this : Nat) (a1 : Int32) (S : MS) (So : MS) (hf : f_X4_complain n this a1 S = some So) (ok_this : Ok S this 4) : Cn G l yX4_complain cX4_complain 2 none rX4_complain [.ref this, .int a1] S none So := by
  refine Cn.of (by decide) (Nat.le_of_ble_eq_true rfl) ?_
  intro p e s m args below meth c hC hname hR ls hl
  have hC : Cx G RX4 cX4_complain 2 none p s m args meth c := hC
  have hl : lv_has ls 2 [(0, .ref this), (1, .int a1)] := hl
  have hx := hC.x
  have hb := hC.b
  have hS : va_S (gA G) s.heap s.heap [] := va_S.rf
  have hE : Ex S S := Ex.rf S
  unfold f_X4_complain at hf
  refine lv_aload_n hx hb dX4_complain_0 rfl (lv_at hl 0 rfl) ?_
  refine gf_RX4_9 hC hR ok_this dX4_complain_1 ?_
  refine lv_if_ne (tgt := 34) hx hb dX4_complain_4 (by decide) (fun hc => ?_) (fun hc => ?_)
  · replace hf := if_f hf hc
    exact r_vret hC hR hS hE hf dX4_complain_34
  · replace hf := if_t hf hc
    refine lv_aload_n hx hb dX4_complain_7 rfl (lv_at hl 0 rfl) ?_
    refine lv_iload_n hx hb dX4_complain_8 rfl (lv_at hl 1 rfl) ?_
    refine pf_RX4_9 hC hR hS ok_this dX4_complain_9 hf (fun S1 H locs hf hR hS hE2 => ?_)
    have ok_this := hE2 _ _ ok_this
    have hE := hE.tr hE2
    refine lv_aload_n hx hb dX4_complain_12 rfl (lv_at hl 0 rfl) ?_
    refine lv_aload_n hx hb dX4_complain_13 rfl (lv_at hl 0 rfl) ?_
    obtain ⟨q3, hq4, ok_q3, hf⟩ := gR_of hf
    refine gf_RX4_21 hC hR ok_this hq4 dX4_complain_14 ?_
    obtain ⟨q5, hq6, ok_q5, hf⟩ := gR_of hf
    refine gf_RX4_48 hC hR ok_q3 hq6 dX4_complain_17 ?_
    refine lv_aload_n hx hb dX4_complain_20 rfl (lv_at hl 0 rfl) ?_
    refine gf_RX4_38 hC hR ok_this dX4_complain_21 ?_
    obtain ⟨hi7, hf⟩ := ck_of hf
    refine r_iald hC hR ok_q5 hi7 dX4_complain_24 ?_
    refine pf_RX4_15 hC hR hS ok_this dX4_complain_25 hf (fun S8 H locs hf hR hS hE9 => ?_)
    have ok_this := hE9 _ _ ok_this
    have ok_q3 := hE9 _ _ ok_q3
    have ok_q5 := hE9 _ _ ok_q5
    have hE := hE.tr hE9
    refine lv_aload_n hx hb dX4_complain_28 rfl (lv_at hl 0 rfl) ?_
    refine lv_bipush (v := 39) hx hb dX4_complain_29 (by decide) ?_
    refine pf_RX4_45 hC hR hS ok_this dX4_complain_31 hf (fun S10 H locs hf hR hS hE11 => ?_)
    have ok_this := hE11 _ _ ok_this
    have ok_q3 := hE11 _ _ ok_q3
    have ok_q5 := hE11 _ _ ok_q5
    have hE := hE.tr hE11
    exact r_vret hC hR hS hE hf dX4_complain_34
abbrev rX4_advance : Room := { frames := 0, cells := 0, slots := 0, locals := 0 }
def f_X4_advance (_n : Nat) (this : Nat) (S : MS) : Option (MS) :=
  (if (mI S this 0) = 0 then (if (mI S this 5) = (39 : Int32) then some S else gR S (mR S this 2) 0 fun q1 => gR S (mR S q1 0) 12 fun q3 => (if (Int32.ofNat (mN S q3)) ≤ ((mI S this 4) + (1 : Int32)) then some S else bd (sI S this 4 ((mI S this 4) + (1 : Int32))) fun S5 => gR S5 (mR S5 this 2) 0 fun q7 => gR S5 (mR S5 q7 0) 12 fun q9 => ck (inb (mI S5 this 4) (mN S5 q9)) (bd (sI S5 this 5 (mI S5 q9 (mI S5 this 4).toNatClampNeg)) fun S12 => some S12))) else some S)
set_option maxRecDepth 100000 in
set_option maxHeartbeats 4000000 in
theorem c_X4_advance (l : Launch) (G : Gx) (n : Nat) (this : Nat) (S : MS) (So : MS) (hf : f_X4_advance n this S = some So) (ok_this : Ok S this 4) : Cn G l yX4_advance cX4_advance 1 none rX4_advance [.ref this] S none So := by
  refine Cn.of (by decide) (Nat.le_of_ble_eq_true rfl) ?_
  intro p e s m args below meth c hC hname hR ls hl
  have hC : Cx G RX4 cX4_advance 1 none p s m args meth c := hC
  have hl : lv_has ls 1 [(0, .ref this)] := hl
  have hx := hC.x
  have hb := hC.b
  have hS : va_S (gA G) s.heap s.heap [] := va_S.rf
  have hE : Ex S S := Ex.rf S
  unfold f_X4_advance at hf
  refine lv_aload_n hx hb dX4_advance_0 rfl (lv_at hl 0 rfl) ?_
  refine gf_RX4_9 hC hR ok_this dX4_advance_1 ?_
  refine lv_if_ne (tgt := 59) hx hb dX4_advance_4 (by decide) (fun hc => ?_) (fun hc => ?_)
  · replace hf := if_f hf hc
    exact r_vret hC hR hS hE hf dX4_advance_59
  · replace hf := if_t hf hc
    refine lv_aload_n hx hb dX4_advance_7 rfl (lv_at hl 0 rfl) ?_
    refine gf_RX4_45 hC hR ok_this dX4_advance_8 ?_
    refine lv_bipush (v := 39) hx hb dX4_advance_11 (by decide) ?_
    refine lv_icmp_eq (tgt := 59) hx hb dX4_advance_13 (by decide) (fun hc => ?_) (fun hc => ?_)
    · replace hf := if_t hf hc
      exact r_vret hC hR hS hE hf dX4_advance_59
    · replace hf := if_f hf hc
      refine lv_aload_n hx hb dX4_advance_16 rfl (lv_at hl 0 rfl) ?_
      refine gf_RX4_38 hC hR ok_this dX4_advance_17 ?_
      refine lv_iconst (v := 1) hx hb dX4_advance_20 (by decide) ?_
      refine lv_iadd hx hb dX4_advance_21 ?_
      refine lv_aload_n hx hb dX4_advance_22 rfl (lv_at hl 0 rfl) ?_
      obtain ⟨q1, hq2, ok_q1, hf⟩ := gR_of hf
      refine gf_RX4_21 hC hR ok_this hq2 dX4_advance_23 ?_
      obtain ⟨q3, hq4, ok_q3, hf⟩ := gR_of hf
      refine gf_RX4_41 hC hR ok_q1 hq4 dX4_advance_26 ?_
      refine r_alenI hC hR ok_q3 dX4_advance_29 ?_
      refine lv_icmp_ge (tgt := 59) hx hb dX4_advance_30 (by decide) (fun hc => ?_) (fun hc => ?_)
      · replace hf := if_t hf hc
        exact r_vret hC hR hS hE hf dX4_advance_59
      · replace hf := if_f hf hc
        refine lv_aload_n hx hb dX4_advance_33 rfl (lv_at hl 0 rfl) ?_
        refine lv_dup hx hb dX4_advance_34 rfl ?_
        refine gf_RX4_38 hC hR ok_this dX4_advance_35 ?_
        refine lv_iconst (v := 1) hx hb dX4_advance_38 (by decide) ?_
        refine lv_iadd hx hb dX4_advance_39 ?_
        refine pf_RX4_38 hC hR hS ok_this dX4_advance_40 hf (fun S5 H locs hf hR hS hE6 => ?_)
        have ok_this := hE6 _ _ ok_this
        have ok_q1 := hE6 _ _ ok_q1
        have ok_q3 := hE6 _ _ ok_q3
        have hE := hE.tr hE6
        refine lv_aload_n hx hb dX4_advance_43 rfl (lv_at hl 0 rfl) ?_
        refine lv_aload_n hx hb dX4_advance_44 rfl (lv_at hl 0 rfl) ?_
        obtain ⟨q7, hq8, ok_q7, hf⟩ := gR_of hf
        refine gf_RX4_21 hC hR ok_this hq8 dX4_advance_45 ?_
        obtain ⟨q9, hq10, ok_q9, hf⟩ := gR_of hf
        refine gf_RX4_41 hC hR ok_q7 hq10 dX4_advance_48 ?_
        refine lv_aload_n hx hb dX4_advance_51 rfl (lv_at hl 0 rfl) ?_
        refine gf_RX4_38 hC hR ok_this dX4_advance_52 ?_
        obtain ⟨hi11, hf⟩ := ck_of hf
        refine r_iald hC hR ok_q9 hi11 dX4_advance_55 ?_
        refine pf_RX4_45 hC hR hS ok_this dX4_advance_56 hf (fun S12 H locs hf hR hS hE13 => ?_)
        have ok_this := hE13 _ _ ok_this
        have ok_q1 := hE13 _ _ ok_q1
        have ok_q3 := hE13 _ _ ok_q3
        have ok_q7 := hE13 _ _ ok_q7
        have ok_q9 := hE13 _ _ ok_q9
        have hE := hE.tr hE13
        exact r_vret hC hR hS hE hf dX4_advance_59
abbrev rX4_expect : Room := { frames := 1, cells := 0, slots := 0, locals := 21 }
def f_X4_expect (n : Nat) (this : Nat) (a1 : Int32) (S : MS) : Option (MS) :=
  (if (mI S this 5) = a1 then cv (f_X4_advance n this S) fun S4 => some S4 else cv (f_X4_complain n this (1 : Int32) S) fun S1 => some S1)
set_option maxRecDepth 100000 in
set_option maxHeartbeats 4000000 in
theorem c_X4_expect (l : Launch) (G : Gx) (n : Nat) (this : Nat) (a1 : Int32) (S : MS) (So : MS) (hf : f_X4_expect n this a1 S = some So) (ok_this : Ok S this 4) : Cn G l yX4_expect cX4_expect 2 none rX4_expect [.ref this, .int a1] S none So := by
  refine Cn.of (by decide) (Nat.le_of_ble_eq_true rfl) ?_
  intro p e s m args below meth c hC hname hR ls hl
  have hC : Cx G RX4 cX4_expect 2 none p s m args meth c := hC
  have hl : lv_has ls 2 [(0, .ref this), (1, .int a1)] := hl
  have hx := hC.x
  have hb := hC.b
  have hS : va_S (gA G) s.heap s.heap [] := va_S.rf
  have hE : Ex S S := Ex.rf S
  unfold f_X4_expect at hf
  refine lv_aload_n hx hb dX4_expect_0 rfl (lv_at hl 0 rfl) ?_
  refine gf_RX4_45 hC hR ok_this dX4_expect_1 ?_
  refine lv_iload_n hx hb dX4_expect_4 rfl (lv_at hl 1 rfl) ?_
  refine lv_icmp_ne (tgt := 15) hx hb dX4_expect_5 (by decide) (fun hc => ?_) (fun hc => ?_)
  · replace hf := if_f hf hc
    refine lv_aload_n hx hb dX4_expect_15 rfl (lv_at hl 0 rfl) ?_
    refine lv_iconst (v := 1) hx hb dX4_expect_16 (by decide) ?_
    obtain ⟨S1, hc2, hf⟩ := cv_of hf
    refine cl_RX4_54 (As := [.int (1 : Int32)]) (rest := []) hC hR hS (c_X4_complain l G n this (1 : Int32) S S1 hc2 ok_this) ok_this rfl ⟨Nat.le_of_ble_eq_true rfl, Nat.le_of_ble_eq_true rfl⟩ hl.1 rfl (Nat.le_of_ble_eq_true rfl) dX4_expect_17 (Nat.zero_le _) (Nat.zero_le _) (fun H locs hR hS hE3 => ?_)
    have ok_this := hE3 _ _ ok_this
    have hE := hE.tr hE3
    exact r_vret hC hR hS hE hf dX4_expect_20
  · replace hf := if_t hf hc
    refine lv_aload_n hx hb dX4_expect_8 rfl (lv_at hl 0 rfl) ?_
    obtain ⟨S4, hc5, hf⟩ := cv_of hf
    refine cl_RX4_51 (As := []) (rest := []) hC hR hS (c_X4_advance l G n this S S4 hc5 ok_this) ok_this rfl ⟨Nat.le_of_ble_eq_true rfl, Nat.le_of_ble_eq_true rfl⟩ hl.1 rfl (Nat.le_of_ble_eq_true rfl) dX4_expect_9 (Nat.zero_le _) (Nat.zero_le _) (fun H locs hR hS hE6 => ?_)
    have ok_this := hE6 _ _ ok_this
    have hE := hE.tr hE6
    refine lv_goto (tgt := 20) hx hb dX4_expect_12 (by decide) ?_
    exact r_vret hC hR hS hE hf dX4_expect_20
abbrev rX4_namesOf : Room := { frames := 0, cells := 0, slots := 0, locals := 0 }
def f_X4_namesOf (_n : Nat) (a1 : Int32) (S : MS) : Option (Int32 × MS) :=
  (if a1 = (20 : Int32) then some ((3608 : Int32), S) else (if a1 = (19 : Int32) then some ((((63 : Int32) ||| (64 : Int32)) ||| (128 : Int32)), S) else (if a1 = (21 : Int32) then some (((63 : Int32) ||| (256 : Int32)), S) else some ((63 : Int32), S))))
set_option maxRecDepth 100000 in
set_option maxHeartbeats 4000000 in
theorem c_X4_namesOf (l : Launch) (G : Gx) (n : Nat) (a1 : Int32) (S : MS) (ro : Int32) (So : MS) (hf : f_X4_namesOf n a1 S = some (ro, So)) : Cn G l yX4_namesOf cX4_namesOf 2 (some .int) rX4_namesOf [.int a1] S (some (.int ro)) So := by
  refine Cn.of (by decide) (Nat.le_of_ble_eq_true rfl) ?_
  intro p e s m args below meth c hC hname hR ls hl
  have hC : Cx G RX4 cX4_namesOf 2 (some .int) p s m args meth c := hC
  have hl : lv_has ls 2 [(0, .int a1)] := hl
  have hx := hC.x
  have hb := hC.b
  have hS : va_S (gA G) s.heap s.heap [] := va_S.rf
  have hE : Ex S S := Ex.rf S
  unfold f_X4_namesOf at hf
  refine lv_iload_n hx hb dX4_namesOf_0 rfl (lv_at hl 0 rfl) ?_
  refine lv_bipush (v := 20) hx hb dX4_namesOf_1 (by decide) ?_
  refine lv_icmp_ne (tgt := 10) hx hb dX4_namesOf_3 (by decide) (fun hc => ?_) (fun hc => ?_)
  · replace hf := if_f hf hc
    refine lv_bipush (v := 63) hx hb dX4_namesOf_10 (by decide) ?_
    refine lv_istore_n (lv' := [(1, .int (63 : Int32)), (0, .int a1)]) hx hb dX4_namesOf_12 rfl hl (by decide) rfl (fun ls hl => ?_)
    refine lv_iload_n hx hb dX4_namesOf_13 rfl (lv_at hl 1 rfl) ?_
    refine lv_bipush (v := 19) hx hb dX4_namesOf_14 (by decide) ?_
    refine lv_icmp_ne (tgt := 28) hx hb dX4_namesOf_16 (by decide) (fun hc => ?_) (fun hc => ?_)
    · replace hf := if_f hf hc
      refine lv_iload_n hx hb dX4_namesOf_28 rfl (lv_at hl 1 rfl) ?_
      refine lv_bipush (v := 21) hx hb dX4_namesOf_29 (by decide) ?_
      refine lv_icmp_ne (tgt := 42) hx hb dX4_namesOf_31 (by decide) (fun hc => ?_) (fun hc => ?_)
      · replace hf := if_f hf hc
        refine lv_iload_n hx hb dX4_namesOf_42 rfl (lv_at hl 0 rfl) ?_
        exact r_iret hC hR hS hE hf dX4_namesOf_43
      · replace hf := if_t hf hc
        refine lv_iload_n hx hb dX4_namesOf_34 rfl (lv_at hl 0 rfl) ?_
        refine lv_sipush (v := 256) hx hb dX4_namesOf_35 (by decide) ?_
        refine lv_ior hx hb dX4_namesOf_38 ?_
        refine lv_goto (tgt := 43) hx hb dX4_namesOf_39 (by decide) ?_
        exact r_iret hC hR hS hE hf dX4_namesOf_43
    · replace hf := if_t hf hc
      refine lv_iload_n hx hb dX4_namesOf_19 rfl (lv_at hl 0 rfl) ?_
      refine lv_bipush (v := 64) hx hb dX4_namesOf_20 (by decide) ?_
      refine lv_ior hx hb dX4_namesOf_22 ?_
      refine lv_sipush (v := 128) hx hb dX4_namesOf_23 (by decide) ?_
      refine lv_ior hx hb dX4_namesOf_26 ?_
      exact r_iret hC hR hS hE hf dX4_namesOf_27
  · replace hf := if_t hf hc
    refine lv_sipush (v := 3608) hx hb dX4_namesOf_6 (by decide) ?_
    exact r_iret hC hR hS hE hf dX4_namesOf_9
abbrev rX4_isOpened : Room := { frames := 1, cells := 0, slots := 0, locals := 21 }
def f_X4_isOpened (n : Nat) (this : Nat) (a1 : Int32) (S : MS) : Option (Int32 × MS) :=
  jn (fun (S3 : MS) => (if (mI S3 this 0) = 0 then zb (1 : Int32) (some ((1 : Int32), S3)) else zb (0 : Int32) (some ((0 : Int32), S3)))) fun j35_2 => (if (mI S this 5) = (32 : Int32) then (if a1 < (8 : Int32) then cv (f_X4_advance n this S) fun S4 => j35_2 S4 else cv (f_X4_complain n this (3 : Int32) S) fun S7 => j35_2 S7) else cv (f_X4_complain n this (1 : Int32) S) fun S10 => j35_2 S10)
set_option maxRecDepth 100000 in
set_option maxHeartbeats 4000000 in
theorem c_X4_isOpened (l : Launch) (G : Gx) (n : Nat) (this : Nat) (a1 : Int32) (S : MS) (ro : Int32) (So : MS) (hf : f_X4_isOpened n this a1 S = some (ro, So)) (ok_this : Ok S this 4) : Cn G l yX4_isOpened cX4_isOpened 2 (some .boolean) rX4_isOpened [.ref this, .int a1] S (some (.int ro)) So := by
  refine Cn.of (by decide) (Nat.le_of_ble_eq_true rfl) ?_
  intro p e s m args below meth c hC hname hR ls hl
  have hC : Cx G RX4 cX4_isOpened 2 (some .boolean) p s m args meth c := hC
  have hl : lv_has ls 2 [(0, .ref this), (1, .int a1)] := hl
  have hx := hC.x
  have hb := hC.b
  have hS : va_S (gA G) s.heap s.heap [] := va_S.rf
  have hE : Ex S S := Ex.rf S
  unfold f_X4_isOpened at hf
  refine lv_aload_n hx hb dX4_isOpened_0 rfl (lv_at hl 0 rfl) ?_
  refine gf_RX4_45 hC hR ok_this dX4_isOpened_1 ?_
  refine lv_bipush (v := 32) hx hb dX4_isOpened_4 (by decide) ?_
  obtain ⟨j35_2, ej35_2, hf⟩ := jn_of1 hf
  have hj35_1 : ∀ (S3 : MS) (H : Heap) (locs : List Loc) (ls : Array Slot), j35_2 S3 = some (ro, So) → Rp G S3 H → va_S (gA G) s.heap H locs → Ex S S3 → Ok S3 this 4 → lv_has ls 2 [(0, .ref this)] → W p l e rX4_isOpened s m args below meth c H locs 0 0 (MQ below (Qn G S (some (.int ro)) So) args s 0 0 (gA G)) (F0 m 35 ls []) := by
    intro S3 H locs ls hf hR hS hE ok_this hl
    rw [ej35_2] at hf
    refine lv_aload_n hx hb dX4_isOpened_35 rfl (lv_at hl 0 rfl) ?_
    refine gf_RX4_9 hC hR ok_this dX4_isOpened_36 ?_
    refine lv_if_ne (tgt := 46) hx hb dX4_isOpened_39 (by decide) (fun hc => ?_) (fun hc => ?_)
    · replace hf := if_f hf hc
      refine lv_iconst (v := 0) hx hb dX4_isOpened_46 (by decide) ?_
      exact r_zret hC hR hS hE hf dX4_isOpened_47
    · replace hf := if_t hf hc
      refine lv_iconst (v := 1) hx hb dX4_isOpened_42 (by decide) ?_
      refine lv_goto (tgt := 47) hx hb dX4_isOpened_43 (by decide) ?_
      exact r_zret hC hR hS hE hf dX4_isOpened_47
  refine lv_icmp_eq (tgt := 17) hx hb dX4_isOpened_6 (by decide) (fun hc => ?_) (fun hc => ?_)
  · replace hf := if_t hf hc
    refine lv_iload_n hx hb dX4_isOpened_17 rfl (lv_at hl 1 rfl) ?_
    refine lv_bipush (v := 8) hx hb dX4_isOpened_18 (by decide) ?_
    refine lv_icmp_lt (tgt := 31) hx hb dX4_isOpened_20 (by decide) (fun hc => ?_) (fun hc => ?_)
    · replace hf := if_t hf hc
      refine lv_aload_n hx hb dX4_isOpened_31 rfl (lv_at hl 0 rfl) ?_
      obtain ⟨S4, hc5, hf⟩ := cv_of hf
      refine cl_RX4_51 (As := []) (rest := []) hC hR hS (c_X4_advance l G n this S S4 hc5 ok_this) ok_this rfl ⟨Nat.le_of_ble_eq_true rfl, Nat.le_of_ble_eq_true rfl⟩ hl.1 rfl (Nat.le_of_ble_eq_true rfl) dX4_isOpened_32 (Nat.zero_le _) (Nat.zero_le _) (fun H locs hR hS hE6 => ?_)
      have ok_this := hE6 _ _ ok_this
      have hE := hE.tr hE6
      exact hj35_1 S4 _ _ _ hf hR hS hE ok_this (lv_sub hl [0] rfl)
    · replace hf := if_f hf hc
      refine lv_aload_n hx hb dX4_isOpened_23 rfl (lv_at hl 0 rfl) ?_
      refine lv_iconst (v := 3) hx hb dX4_isOpened_24 (by decide) ?_
      obtain ⟨S7, hc8, hf⟩ := cv_of hf
      refine cl_RX4_54 (As := [.int (3 : Int32)]) (rest := []) hC hR hS (c_X4_complain l G n this (3 : Int32) S S7 hc8 ok_this) ok_this rfl ⟨Nat.le_of_ble_eq_true rfl, Nat.le_of_ble_eq_true rfl⟩ hl.1 rfl (Nat.le_of_ble_eq_true rfl) dX4_isOpened_25 (Nat.zero_le _) (Nat.zero_le _) (fun H locs hR hS hE9 => ?_)
      have ok_this := hE9 _ _ ok_this
      have hE := hE.tr hE9
      refine lv_goto (tgt := 35) hx hb dX4_isOpened_28 (by decide) ?_
      exact hj35_1 S7 _ _ _ hf hR hS hE ok_this (lv_sub hl [0] rfl)
  · replace hf := if_f hf hc
    refine lv_aload_n hx hb dX4_isOpened_9 rfl (lv_at hl 0 rfl) ?_
    refine lv_iconst (v := 1) hx hb dX4_isOpened_10 (by decide) ?_
    obtain ⟨S10, hc11, hf⟩ := cv_of hf
    refine cl_RX4_54 (As := [.int (1 : Int32)]) (rest := []) hC hR hS (c_X4_complain l G n this (1 : Int32) S S10 hc11 ok_this) ok_this rfl ⟨Nat.le_of_ble_eq_true rfl, Nat.le_of_ble_eq_true rfl⟩ hl.1 rfl (Nat.le_of_ble_eq_true rfl) dX4_isOpened_11 (Nat.zero_le _) (Nat.zero_le _) (fun H locs hR hS hE12 => ?_)
    have ok_this := hE12 _ _ ok_this
    have hE := hE.tr hE12
    refine lv_goto (tgt := 35) hx hb dX4_isOpened_14 (by decide) ?_
    exact hj35_1 S10 _ _ _ hf hR hS hE ok_this (lv_sub hl [0] rfl)
abbrev rX7_put : Room := { frames := 0, cells := 0, slots := 0, locals := 0 }
def f_X7_put (_n : Nat) (this : Nat) (a1 : Int32) (a2 : Int32) (S : MS) : Option (MS) :=
  (if (300 : Int32) ≤ (mI S this 6) then some S else gR S (mR S this 4) 12 fun q1 => ck (inb (mI S this 6) (mN S q1)) (bd (sI S q1 (mI S this 6).toNatClampNeg ((a2 <<< ((6 : Int32) &&& 31)) ||| a1)) fun S4 => bd (sI S4 this 6 ((mI S4 this 6) + (1 : Int32))) fun S6 => some S6))
set_option maxRecDepth 100000 in
set_option maxHeartbeats 4000000 in
theorem c_X7_put (l : Launch) (G : Gx) (n : Nat) (this : Nat) (a1 : Int32) (a2 : Int32) (S : MS) (So : MS) (hf : f_X7_put n this a1 a2 S = some So) (ok_this : Ok S this 7) : Cn G l yX7_put cX7_put 3 none rX7_put [.ref this, .int a1, .int a2] S none So := by
  refine Cn.of (by decide) (Nat.le_of_ble_eq_true rfl) ?_
  intro p e s m args below meth c hC hname hR ls hl
  have hC : Cx G RX7 cX7_put 3 none p s m args meth c := hC
  have hl : lv_has ls 3 [(0, .ref this), (1, .int a1), (2, .int a2)] := hl
  have hx := hC.x
  have hb := hC.b
  have hS : va_S (gA G) s.heap s.heap [] := va_S.rf
  have hE : Ex S S := Ex.rf S
  unfold f_X7_put at hf
  refine lv_aload_n hx hb dX7_put_0 rfl (lv_at hl 0 rfl) ?_
  refine gf_RX7_31 hC hR ok_this dX7_put_1 ?_
  refine lv_sipush (v := 300) hx hb dX7_put_4 (by decide) ?_
  refine lv_icmp_ge (tgt := 35) hx hb dX7_put_7 (by decide) (fun hc => ?_) (fun hc => ?_)
  · replace hf := if_t hf hc
    exact r_vret hC hR hS hE hf dX7_put_35
  · replace hf := if_f hf hc
    refine lv_aload_n hx hb dX7_put_10 rfl (lv_at hl 0 rfl) ?_
    obtain ⟨q1, hq2, ok_q1, hf⟩ := gR_of hf
    refine gf_RX7_24 hC hR ok_this hq2 dX7_put_11 ?_
    refine lv_aload_n hx hb dX7_put_14 rfl (lv_at hl 0 rfl) ?_
    refine gf_RX7_31 hC hR ok_this dX7_put_15 ?_
    refine lv_iload_n hx hb dX7_put_18 rfl (lv_at hl 2 rfl) ?_
    refine lv_bipush (v := 6) hx hb dX7_put_19 (by decide) ?_
    refine lv_ishl hx hb dX7_put_21 ?_
    refine lv_iload_n hx hb dX7_put_22 rfl (lv_at hl 1 rfl) ?_
    refine lv_ior hx hb dX7_put_23 ?_
    obtain ⟨hi3, hf⟩ := ck_of hf
    refine rB_iast hC hR hS ok_q1 hi3 dX7_put_24 hf (fun S4 H locs hf hR hS hE5 => ?_)
    have ok_this := hE5 _ _ ok_this
    have ok_q1 := hE5 _ _ ok_q1
    have hE := hE.tr hE5
    refine lv_aload_n hx hb dX7_put_25 rfl (lv_at hl 0 rfl) ?_
    refine lv_dup hx hb dX7_put_26 rfl ?_
    refine gf_RX7_31 hC hR ok_this dX7_put_27 ?_
    refine lv_iconst (v := 1) hx hb dX7_put_30 (by decide) ?_
    refine lv_iadd hx hb dX7_put_31 ?_
    refine pf_RX7_31 hC hR hS ok_this dX7_put_32 hf (fun S6 H locs hf hR hS hE7 => ?_)
    have ok_this := hE7 _ _ ok_this
    have ok_q1 := hE7 _ _ ok_q1
    have hE := hE.tr hE7
    exact r_vret hC hR hS hE hf dX7_put_35
abbrev rX4_readName : Room := { frames := 1, cells := 0, slots := 0, locals := 22 }
def f_X4_readName (n : Nat) (this : Nat) (S : MS) : Option (MS) :=
  (if ((iush (mI S this 6) (mI S this 5)) &&& (1 : Int32)) = 0 then cv (f_X4_complain n this (5 : Int32) S) fun S9 => some S9 else gR S (mR S this 3) 7 fun q1 => cv (f_X7_put n q1 (41 : Int32) (mI S this 5) S) fun S3 => cv (f_X4_advance n this S3) fun S6 => some S6)
set_option maxRecDepth 100000 in
set_option maxHeartbeats 4000000 in
theorem c_X4_readName (l : Launch) (G : Gx) (n : Nat) (this : Nat) (S : MS) (So : MS) (hf : f_X4_readName n this S = some So) (ok_this : Ok S this 4) : Cn G l yX4_readName cX4_readName 1 none rX4_readName [.ref this] S none So := by
  refine Cn.of (by decide) (Nat.le_of_ble_eq_true rfl) ?_
  intro p e s m args below meth c hC hname hR ls hl
  have hC : Cx G RX4 cX4_readName 1 none p s m args meth c := hC
  have hl : lv_has ls 1 [(0, .ref this)] := hl
  have hx := hC.x
  have hb := hC.b
  have hS : va_S (gA G) s.heap s.heap [] := va_S.rf
  have hE : Ex S S := Ex.rf S
  unfold f_X4_readName at hf
  refine lv_aload_n hx hb dX4_readName_0 rfl (lv_at hl 0 rfl) ?_
  refine gf_RX4_72 hC hR ok_this dX4_readName_1 ?_
  refine lv_aload_n hx hb dX4_readName_4 rfl (lv_at hl 0 rfl) ?_
  refine gf_RX4_45 hC hR ok_this dX4_readName_5 ?_
  refine lv_iushr (v := (iush (mI S this 6) (mI S this 5))) hx hb dX4_readName_8 rfl ?_
  refine lv_iconst (v := 1) hx hb dX4_readName_9 (by decide) ?_
  refine lv_iand hx hb dX4_readName_10 ?_
  refine lv_if_ne (tgt := 22) hx hb dX4_readName_11 (by decide) (fun hc => ?_) (fun hc => ?_)
  · replace hf := if_f hf hc
    refine lv_aload_n hx hb dX4_readName_22 rfl (lv_at hl 0 rfl) ?_
    obtain ⟨q1, hq2, ok_q1, hf⟩ := gR_of hf
    refine gf_RX4_25 hC hR ok_this hq2 dX4_readName_23 ?_
    refine lv_bipush (v := 41) hx hb dX4_readName_26 (by decide) ?_
    refine lv_aload_n hx hb dX4_readName_28 rfl (lv_at hl 0 rfl) ?_
    refine gf_RX4_45 hC hR ok_this dX4_readName_29 ?_
    obtain ⟨S3, hc4, hf⟩ := cv_of hf
    refine cl_RX4_110 (As := [.int (41 : Int32), .int (mI S this 5)]) (rest := []) hC hR hS (c_X7_put l G n q1 (41 : Int32) (mI S this 5) S S3 hc4 ok_q1) ok_q1 rfl ⟨Nat.le_of_ble_eq_true rfl, Nat.le_of_ble_eq_true rfl⟩ hl.1 rfl (Nat.le_of_ble_eq_true rfl) dX4_readName_32 (Nat.zero_le _) (Nat.zero_le _) (fun H locs hR hS hE5 => ?_)
    have ok_this := hE5 _ _ ok_this
    have ok_q1 := hE5 _ _ ok_q1
    have hE := hE.tr hE5
    refine lv_aload_n hx hb dX4_readName_35 rfl (lv_at hl 0 rfl) ?_
    obtain ⟨S6, hc7, hf⟩ := cv_of hf
    refine cl_RX4_51 (As := []) (rest := []) hC hR hS (c_X4_advance l G n this S3 S6 hc7 ok_this) ok_this rfl ⟨Nat.le_of_ble_eq_true rfl, Nat.le_of_ble_eq_true rfl⟩ hl.1 rfl (Nat.le_of_ble_eq_true rfl) dX4_readName_36 (Nat.zero_le _) (Nat.zero_le _) (fun H locs hR hS hE8 => ?_)
    have ok_this := hE8 _ _ ok_this
    have ok_q1 := hE8 _ _ ok_q1
    have hE := hE.tr hE8
    exact r_vret hC hR hS hE hf dX4_readName_39
  · replace hf := if_t hf hc
    refine lv_aload_n hx hb dX4_readName_14 rfl (lv_at hl 0 rfl) ?_
    refine lv_iconst (v := 5) hx hb dX4_readName_15 (by decide) ?_
    obtain ⟨S9, hc10, hf⟩ := cv_of hf
    refine cl_RX4_54 (As := [.int (5 : Int32)]) (rest := []) hC hR hS (c_X4_complain l G n this (5 : Int32) S S9 hc10 ok_this) ok_this rfl ⟨Nat.le_of_ble_eq_true rfl, Nat.le_of_ble_eq_true rfl⟩ hl.1 rfl (Nat.le_of_ble_eq_true rfl) dX4_readName_16 (Nat.zero_le _) (Nat.zero_le _) (fun H locs hR hS hE11 => ?_)
    have ok_this := hE11 _ _ ok_this
    have hE := hE.tr hE11
    refine lv_goto (tgt := 39) hx hb dX4_readName_19 (by decide) ?_
    exact r_vret hC hR hS hE hf dX4_readName_39
abbrev rX4_readNumber : Room := { frames := 1, cells := 0, slots := 0, locals := 21 }
def f_X4_readNumber (n : Nat) (this : Nat) (a1 : Int32) (a2 : Int32) (S : MS) : Option (Int32 × MS) :=
  gR S (mR S this 2) 0 fun q1 => gR S (mR S q1 2) 12 fun q3 => ck (inb (mI S this 4) (mN S q3)) (bd (mI S q3 (mI S this 4).toNatClampNeg) fun x6 => (if (mI S this 5) = (38 : Int32) then (if x6 < a1 then cv (f_X4_complain n this (2 : Int32) S) fun S7 => cv (f_X4_advance n this S7) fun S10 => some (x6, S10) else (if x6 ≤ a2 then cv (f_X4_advance n this S) fun S13 => some (x6, S13) else cv (f_X4_complain n this (2 : Int32) S) fun S16 => cv (f_X4_advance n this S16) fun S19 => some (x6, S19))) else cv (f_X4_complain n this (1 : Int32) S) fun S22 => cv (f_X4_advance n this S22) fun S25 => some (x6, S25)))
set_option maxRecDepth 100000 in
set_option maxHeartbeats 4000000 in
theorem c_X4_readNumber (l : Launch) (G : Gx) (n : Nat) (this : Nat) (a1 : Int32) (a2 : Int32) (S : MS) (ro : Int32) (So : MS) (hf : f_X4_readNumber n this a1 a2 S = some (ro, So)) (ok_this : Ok S this 4) : Cn G l yX4_readNumber cX4_readNumber 4 (some .int) rX4_readNumber [.ref this, .int a1, .int a2] S (some (.int ro)) So := by
  refine Cn.of (by decide) (Nat.le_of_ble_eq_true rfl) ?_
  intro p e s m args below meth c hC hname hR ls hl
  have hC : Cx G RX4 cX4_readNumber 4 (some .int) p s m args meth c := hC
  have hl : lv_has ls 4 [(0, .ref this), (1, .int a1), (2, .int a2)] := hl
  have hx := hC.x
  have hb := hC.b
  have hS : va_S (gA G) s.heap s.heap [] := va_S.rf
  have hE : Ex S S := Ex.rf S
  unfold f_X4_readNumber at hf
  refine lv_aload_n hx hb dX4_readNumber_0 rfl (lv_at hl 0 rfl) ?_
  obtain ⟨q1, hq2, ok_q1, hf⟩ := gR_of hf
  refine gf_RX4_21 hC hR ok_this hq2 dX4_readNumber_1 ?_
  obtain ⟨q3, hq4, ok_q3, hf⟩ := gR_of hf
  refine gf_RX4_104 hC hR ok_q1 hq4 dX4_readNumber_4 ?_
  refine lv_aload_n hx hb dX4_readNumber_7 rfl (lv_at hl 0 rfl) ?_
  refine gf_RX4_38 hC hR ok_this dX4_readNumber_8 ?_
  obtain ⟨hi5, hf⟩ := ck_of hf
  refine r_iald hC hR ok_q3 hi5 dX4_readNumber_11 ?_
  refine bdi hf (fun x6 hf => ?_)
  refine lv_istore_n (lv' := [(3, .int x6), (0, .ref this), (1, .int a1), (2, .int a2)]) hx hb dX4_readNumber_12 rfl hl (by decide) rfl (fun ls hl => ?_)
  refine lv_aload_n hx hb dX4_readNumber_13 rfl (lv_at hl 1 rfl) ?_
  refine gf_RX4_45 hC hR ok_this dX4_readNumber_14 ?_
  refine lv_bipush (v := 38) hx hb dX4_readNumber_17 (by decide) ?_
  refine lv_icmp_eq (tgt := 30) hx hb dX4_readNumber_19 (by decide) (fun hc => ?_) (fun hc => ?_)
  · replace hf := if_t hf hc
    refine lv_iload_n hx hb dX4_readNumber_30 rfl (lv_at hl 0 rfl) ?_
    refine lv_iload_n hx hb dX4_readNumber_31 rfl (lv_at hl 2 rfl) ?_
    refine lv_icmp_lt (tgt := 40) hx hb dX4_readNumber_32 (by decide) (fun hc => ?_) (fun hc => ?_)
    · replace hf := if_t hf hc
      refine lv_aload_n hx hb dX4_readNumber_40 rfl (lv_at hl 1 rfl) ?_
      refine lv_iconst (v := 2) hx hb dX4_readNumber_41 (by decide) ?_
      obtain ⟨S7, hc8, hf⟩ := cv_of hf
      refine cl_RX4_54 (As := [.int (2 : Int32)]) (rest := []) hC hR hS (c_X4_complain l G n this (2 : Int32) S S7 hc8 ok_this) ok_this rfl ⟨Nat.le_of_ble_eq_true rfl, Nat.le_of_ble_eq_true rfl⟩ hl.1 rfl (Nat.le_of_ble_eq_true rfl) dX4_readNumber_42 (Nat.zero_le _) (Nat.zero_le _) (fun H locs hR hS hE9 => ?_)
      have ok_this := hE9 _ _ ok_this
      have ok_q1 := hE9 _ _ ok_q1
      have ok_q3 := hE9 _ _ ok_q3
      have hE := hE.tr hE9
      refine lv_aload_n hx hb dX4_readNumber_45 rfl (lv_at hl 1 rfl) ?_
      obtain ⟨S10, hc11, hf⟩ := cv_of hf
      refine cl_RX4_51 (As := []) (rest := []) hC hR hS (c_X4_advance l G n this S7 S10 hc11 ok_this) ok_this rfl ⟨Nat.le_of_ble_eq_true rfl, Nat.le_of_ble_eq_true rfl⟩ hl.1 rfl (Nat.le_of_ble_eq_true rfl) dX4_readNumber_46 (Nat.zero_le _) (Nat.zero_le _) (fun H locs hR hS hE12 => ?_)
      have ok_this := hE12 _ _ ok_this
      have ok_q1 := hE12 _ _ ok_q1
      have ok_q3 := hE12 _ _ ok_q3
      have hE := hE.tr hE12
      refine lv_iload_n hx hb dX4_readNumber_49 rfl (lv_at hl 0 rfl) ?_
      exact r_iret hC hR hS hE hf dX4_readNumber_50
    · replace hf := if_f hf hc
      refine lv_iload_n hx hb dX4_readNumber_35 rfl (lv_at hl 0 rfl) ?_
      refine lv_iload_n hx hb dX4_readNumber_36 rfl (lv_at hl 3 rfl) ?_
      refine lv_icmp_le (tgt := 45) hx hb dX4_readNumber_37 (by decide) (fun hc => ?_) (fun hc => ?_)
      · replace hf := if_t hf hc
        refine lv_aload_n hx hb dX4_readNumber_45 rfl (lv_at hl 1 rfl) ?_
        obtain ⟨S13, hc14, hf⟩ := cv_of hf
        refine cl_RX4_51 (As := []) (rest := []) hC hR hS (c_X4_advance l G n this S S13 hc14 ok_this) ok_this rfl ⟨Nat.le_of_ble_eq_true rfl, Nat.le_of_ble_eq_true rfl⟩ hl.1 rfl (Nat.le_of_ble_eq_true rfl) dX4_readNumber_46 (Nat.zero_le _) (Nat.zero_le _) (fun H locs hR hS hE15 => ?_)
        have ok_this := hE15 _ _ ok_this
        have ok_q1 := hE15 _ _ ok_q1
        have ok_q3 := hE15 _ _ ok_q3
        have hE := hE.tr hE15
        refine lv_iload_n hx hb dX4_readNumber_49 rfl (lv_at hl 0 rfl) ?_
        exact r_iret hC hR hS hE hf dX4_readNumber_50
      · replace hf := if_f hf hc
        refine lv_aload_n hx hb dX4_readNumber_40 rfl (lv_at hl 1 rfl) ?_
        refine lv_iconst (v := 2) hx hb dX4_readNumber_41 (by decide) ?_
        obtain ⟨S16, hc17, hf⟩ := cv_of hf
        refine cl_RX4_54 (As := [.int (2 : Int32)]) (rest := []) hC hR hS (c_X4_complain l G n this (2 : Int32) S S16 hc17 ok_this) ok_this rfl ⟨Nat.le_of_ble_eq_true rfl, Nat.le_of_ble_eq_true rfl⟩ hl.1 rfl (Nat.le_of_ble_eq_true rfl) dX4_readNumber_42 (Nat.zero_le _) (Nat.zero_le _) (fun H locs hR hS hE18 => ?_)
        have ok_this := hE18 _ _ ok_this
        have ok_q1 := hE18 _ _ ok_q1
        have ok_q3 := hE18 _ _ ok_q3
        have hE := hE.tr hE18
        refine lv_aload_n hx hb dX4_readNumber_45 rfl (lv_at hl 1 rfl) ?_
        obtain ⟨S19, hc20, hf⟩ := cv_of hf
        refine cl_RX4_51 (As := []) (rest := []) hC hR hS (c_X4_advance l G n this S16 S19 hc20 ok_this) ok_this rfl ⟨Nat.le_of_ble_eq_true rfl, Nat.le_of_ble_eq_true rfl⟩ hl.1 rfl (Nat.le_of_ble_eq_true rfl) dX4_readNumber_46 (Nat.zero_le _) (Nat.zero_le _) (fun H locs hR hS hE21 => ?_)
        have ok_this := hE21 _ _ ok_this
        have ok_q1 := hE21 _ _ ok_q1
        have ok_q3 := hE21 _ _ ok_q3
        have hE := hE.tr hE21
        refine lv_iload_n hx hb dX4_readNumber_49 rfl (lv_at hl 0 rfl) ?_
        exact r_iret hC hR hS hE hf dX4_readNumber_50
  · replace hf := if_f hf hc
    refine lv_aload_n hx hb dX4_readNumber_22 rfl (lv_at hl 1 rfl) ?_
    refine lv_iconst (v := 1) hx hb dX4_readNumber_23 (by decide) ?_
    obtain ⟨S22, hc23, hf⟩ := cv_of hf
    refine cl_RX4_54 (As := [.int (1 : Int32)]) (rest := []) hC hR hS (c_X4_complain l G n this (1 : Int32) S S22 hc23 ok_this) ok_this rfl ⟨Nat.le_of_ble_eq_true rfl, Nat.le_of_ble_eq_true rfl⟩ hl.1 rfl (Nat.le_of_ble_eq_true rfl) dX4_readNumber_24 (Nat.zero_le _) (Nat.zero_le _) (fun H locs hR hS hE24 => ?_)
    have ok_this := hE24 _ _ ok_this
    have ok_q1 := hE24 _ _ ok_q1
    have ok_q3 := hE24 _ _ ok_q3
    have hE := hE.tr hE24
    refine lv_goto (tgt := 45) hx hb dX4_readNumber_27 (by decide) ?_
    refine lv_aload_n hx hb dX4_readNumber_45 rfl (lv_at hl 1 rfl) ?_
    obtain ⟨S25, hc26, hf⟩ := cv_of hf
    refine cl_RX4_51 (As := []) (rest := []) hC hR hS (c_X4_advance l G n this S22 S25 hc26 ok_this) ok_this rfl ⟨Nat.le_of_ble_eq_true rfl, Nat.le_of_ble_eq_true rfl⟩ hl.1 rfl (Nat.le_of_ble_eq_true rfl) dX4_readNumber_46 (Nat.zero_le _) (Nat.zero_le _) (fun H locs hR hS hE27 => ?_)
    have ok_this := hE27 _ _ ok_this
    have ok_q1 := hE27 _ _ ok_q1
    have ok_q3 := hE27 _ _ ok_q3
    have hE := hE.tr hE27
    refine lv_iload_n hx hb dX4_readNumber_49 rfl (lv_at hl 0 rfl) ?_
    exact r_iret hC hR hS hE hf dX4_readNumber_50
abbrev rX4_readOne (fr lo : Nat) : Room := { frames := fr + 2, cells := 0, slots := 0, locals := lo + 44 }
def f_X4_readOne_L169 (n : Nat) (this : Nat) (x3 : Int32) : Nat → Int32 → MS → Option (MS)
  | 0, _, _ => none
  | k + 1, x11, S12 => jn (f_X4_readOne_L169 n this x3 k) fun rec169_10 => (if x3 ≤ x11 then some S12 else gR S12 (mR S12 this 3) 7 fun q13 => cv (f_X7_put n q13 (42 : Int32) (0 : Int32) S12) fun S15 => bd (x11 + (1 : Int32)) fun x18 => rec169_10 x18 S15)
def f_X4_readOne_L2 (n : Nat) (this : Nat) (a1 : Int32) (j27_2 : Int32 → MS → Option (MS)) : Nat → Int32 → MS → Option (MS)
  | 0, _, _ => none
  | k + 1, x82, S83 => jn (f_X4_readOne_L2 n this a1 j27_2 k) fun rec2_81 => (if (8 : Int32) ≤ x82 then j27_2 x82 S83 else (if (mI S83 this 5) = (29 : Int32) then bd (x82 + (1 : Int32)) fun x84 => cv (f_X4_advance n this S83) fun S85 => rec2_81 x84 S85 else j27_2 x82 S83))
def B_X4_readOne (n : Nat) (rec : Nat → Int32 → MS → Option (MS)) (this : Nat) (a1 : Int32) (S : MS) : Option (MS) :=
  jn (fun (x3 : Int32) (S4 : MS) => bd (mI S4 this 5) fun x5 => jn (fun (S8 : MS) => f_X4_readOne_L169 n this x3 n a1 S8) fun j166_7 => (if x5 = (38 : Int32) then gR S4 (mR S4 this 3) 7 fun q70 => cl (f_X4_readNumber n this (0 : Int32) (9999 : Int32) S4) fun x75 S72 => cv (f_X7_put n q70 (38 : Int32) x75 S72) fun S76 => j166_7 S76 else (if (12 : Int32) ≤ x5 then jn (fun (S22 : MS) => jn (fun (S25 : MS) => cl (f_X4_isOpened n this x3 S25) fun x29 S26 => (if x29 = 0 then j166_7 S26 else cv (rec this (x3 + (1 : Int32)) S26) fun S30 => jn (fun (S35 : MS) => cv (f_X4_expect n this (33 : Int32) S35) fun S36 => j166_7 S36) fun j142_34 => (if x5 = (32 : Int32) then j142_34 S30 else cv (f_X4_expect n this (34 : Int32) S30) fun S39 => cv (rec this (x3 + (1 : Int32)) S39) fun S42 => gR S42 (mR S42 this 3) 7 fun q45 => cv (f_X7_put n q45 x5 (0 : Int32) S42) fun S47 => j142_34 S47))) fun j99_24 => (if x5 = (32 : Int32) then j99_24 S22 else cv (f_X4_advance n this S22) fun S51 => j99_24 S51)) fun j89_21 => (if x5 = (32 : Int32) then j89_21 S4 else (if x5 = (12 : Int32) then j89_21 S4 else (if x5 = (13 : Int32) then j89_21 S4 else jn (fun (q57 : Nat) (x58 : Int32) (S59 : MS) => cv (f_X4_complain n q57 x58 S59) fun S60 => j166_7 S60) fun j163_56 => (if x5 = (29 : Int32) then j163_56 this (3 : Int32) S4 else j163_56 this (1 : Int32) S4)))) else cv (f_X4_readName n this S4) fun S67 => j166_7 S67))) fun j27_2 => f_X4_readOne_L2 n this a1 j27_2 n a1 S
set_option maxRecDepth 100000 in
set_option maxHeartbeats 4000000 in
theorem o_X4_readOne (l : Launch) (G : Gx) (n fr lo : Nat) (rec : Nat → Int32 → MS → Option (MS)) (hrec : ∀ (this : Nat) (b1 : Int32) (S : MS) (So : MS), rec this b1 S = some So → Ok S this 4 → Cn G l yX4_readSum cX4_readSum 6 none { frames := fr, cells := 0, slots := 0, locals := lo } [.ref this, .int b1] S none So) (this : Nat) (a1 : Int32) (S : MS) (So : MS) (hf : B_X4_readOne n rec this a1 S = some So) (ok_this : Ok S this 4) : Cn G l yX4_readOne cX4_readOne 5 none (rX4_readOne fr lo) [.ref this, .int a1] S none So := by
  refine Cn.of (by decide) (Nat.le_of_ble_eq_true rfl) ?_
  intro p e s m args below meth c hC hname hR ls hl
  have hC : Cx G RX4 cX4_readOne 5 none p s m args meth c := hC
  have hl : lv_has ls 5 [(0, .ref this), (1, .int a1)] := hl
  have hx := hC.x
  have hb := hC.b
  have hS : va_S (gA G) s.heap s.heap [] := va_S.rf
  have hE : Ex S S := Ex.rf S
  unfold B_X4_readOne at hf
  refine lv_iload_n hx hb dX4_readOne_0 rfl (lv_at hl 1 rfl) ?_
  refine lv_istore_n (lv' := [(2, .int a1), (0, .ref this), (1, .int a1)]) hx hb dX4_readOne_1 rfl hl (by decide) rfl (fun ls hl => ?_)
  obtain ⟨j27_2, ej27_2, hf⟩ := jn_of2 hf
  have hj27_1 : ∀ (x3 : Int32) (S4 : MS) (H : Heap) (locs : List Loc) (ls : Array Slot), j27_2 x3 S4 = some So → Rp G S4 H → va_S (gA G) s.heap H locs → Ex S S4 → Ok S4 this 4 → lv_has ls 5 [(0, .ref this), (1, .int a1), (2, .int x3)] → W p l e (rX4_readOne fr lo) s m args below meth c H locs 0 0 (MQ below (Qn G S none So) args s 0 0 (gA G)) (F0 m 27 ls []) := by
    intro x3 S4 H locs ls hf hR hS hE ok_this hl
    rw [ej27_2] at hf
    refine lv_aload_n hx hb dX4_readOne_27 rfl (lv_at hl 0 rfl) ?_
    refine gf_RX4_45 hC hR ok_this dX4_readOne_28 ?_
    refine bdi hf (fun x5 hf => ?_)
    refine lv_istore_n (lv' := [(3, .int x5), (0, .ref this), (1, .int a1), (2, .int x3)]) hx hb dX4_readOne_31 rfl hl (by decide) rfl (fun ls hl => ?_)
    refine lv_iload_n hx hb dX4_readOne_32 rfl (lv_at hl 0 rfl) ?_
    refine lv_bipush (v := 38) hx hb dX4_readOne_33 (by decide) ?_
    obtain ⟨j166_7, ej166_7, hf⟩ := jn_of1 hf
    have hj166_6 : ∀ (S8 : MS) (H : Heap) (locs : List Loc) (ls : Array Slot), j166_7 S8 = some So → Rp G S8 H → va_S (gA G) s.heap H locs → Ex S S8 → Ok S8 this 4 → lv_has ls 5 [(0, .ref this), (1, .int a1), (2, .int x3)] → W p l e (rX4_readOne fr lo) s m args below meth c H locs 0 0 (MQ below (Qn G S none So) args s 0 0 (gA G)) (F0 m 166 ls []) := by
      intro S8 H locs ls hf hR hS hE ok_this hl
      rw [ej166_7] at hf
      refine lv_iload_n hx hb dX4_readOne_166 rfl (lv_at hl 1 rfl) ?_
      refine lv_istore (lv' := [(4, .int a1), (0, .ref this), (1, .int a1), (2, .int x3)]) hx hb dX4_readOne_167 hl (by decide) rfl (fun ls hl => ?_)
      have hh19 : ∀ k : Nat, ∀ (x11 : Int32) (S12 : MS) (H : Heap) (locs : List Loc) (ls : Array Slot), f_X4_readOne_L169 n this x3 k x11 S12 = some So → Rp G S12 H → va_S (gA G) s.heap H locs → Ex S S12 → Ok S12 this 4 → lv_has ls 5 [(0, .ref this), (2, .int x3), (4, .int x11)] → W p l e (rX4_readOne fr lo) s m args below meth c H locs 0 0 (MQ below (Qn G S none So) args s 0 0 (gA G)) (F0 m 169 ls []) := by
        intro k
        induction k with
        | zero =>
          intro x11 S12 H locs ls hf hR hS hE ok_this hl
          exact absurd hf (by rw [f_X4_readOne_L169]; exact fun h => by cases h)
        | succ k ih =>
          intro x11 S12 H locs ls hf hR hS hE ok_this hl
          rw [f_X4_readOne_L169] at hf
          obtain ⟨rec169_10, erec169_10, hf⟩ := jn_of2 hf
          have hL169_9 : ∀ (x11 : Int32) (S12 : MS) (H : Heap) (locs : List Loc) (ls : Array Slot), rec169_10 x11 S12 = some So → Rp G S12 H → va_S (gA G) s.heap H locs → Ex S S12 → Ok S12 this 4 → lv_has ls 5 [(0, .ref this), (2, .int x3), (4, .int x11)] → W p l e (rX4_readOne fr lo) s m args below meth c H locs 0 0 (MQ below (Qn G S none So) args s 0 0 (gA G)) (F0 m 169 ls []) := by
            intro x11 S12 H locs ls hf hR hS hE ok_this hl
            rw [erec169_10] at hf
            exact ih x11 S12 _ _ _ hf hR hS hE ok_this hl
          refine lv_iload hx hb dX4_readOne_169 (lv_at hl 2 rfl) ?_
          refine lv_iload_n hx hb dX4_readOne_171 rfl (lv_at hl 1 rfl) ?_
          refine lv_icmp_ge (tgt := 191) hx hb dX4_readOne_172 (by decide) (fun hc => ?_) (fun hc => ?_)
          · replace hf := if_t hf hc
            exact r_vret hC hR hS hE hf dX4_readOne_191
          · replace hf := if_f hf hc
            refine lv_aload_n hx hb dX4_readOne_175 rfl (lv_at hl 0 rfl) ?_
            obtain ⟨q13, hq14, ok_q13, hf⟩ := gR_of hf
            refine gf_RX4_25 hC hR ok_this hq14 dX4_readOne_176 ?_
            refine lv_bipush (v := 42) hx hb dX4_readOne_179 (by decide) ?_
            refine lv_iconst (v := 0) hx hb dX4_readOne_181 (by decide) ?_
            obtain ⟨S15, hc16, hf⟩ := cv_of hf
            refine cl_RX4_110 (As := [.int (42 : Int32), .int (0 : Int32)]) (rest := []) hC hR hS (c_X7_put l G n q13 (42 : Int32) (0 : Int32) S12 S15 hc16 ok_q13) ok_q13 rfl ⟨Nat.le_trans (show rX7_put.frames + 1 ≤ 2 by decide) (Nat.le_add_left _ _), Nat.le_trans (show 8 + (3 + 11) + rX7_put.locals ≤ 44 by decide) (Nat.le_add_left _ _)⟩ hl.1 rfl (Nat.le_of_ble_eq_true rfl) dX4_readOne_182 (Nat.zero_le _) (Nat.zero_le _) (fun H locs hR hS hE17 => ?_)
            have ok_this := hE17 _ _ ok_this
            have ok_q13 := hE17 _ _ ok_q13
            have hE := hE.tr hE17
            refine r_iinc (n := 1) (z := 1) (lv' := fun x18 => [(4, .int x18), (0, .ref this), (2, .int x3)]) hx hb dX4_readOne_185 hl (k := 2) rfl (by decide) (by decide) (fun _ => rfl) hf (fun x18 ls hf hl => ?_)
            refine lv_goto (tgt := 169) hx hb dX4_readOne_188 (by decide) ?_
            exact hL169_9 x18 S15 _ _ _ hf hR hS hE ok_this (lv_sub hl [1, 2, 0] rfl)
      exact hh19 n a1 S8 _ _ _ hf hR hS hE ok_this (lv_sub hl [1, 3, 0] rfl)
    refine lv_icmp_ne (tgt := 58) hx hb dX4_readOne_35 (by decide) (fun hc => ?_) (fun hc => ?_)
    · replace hf := if_f hf hc
      refine lv_iload_n hx hb dX4_readOne_58 rfl (lv_at hl 0 rfl) ?_
      refine lv_bipush (v := 12) hx hb dX4_readOne_59 (by decide) ?_
      refine lv_icmp_ge (tgt := 71) hx hb dX4_readOne_61 (by decide) (fun hc => ?_) (fun hc => ?_)
      · replace hf := if_t hf hc
        refine lv_iload_n hx hb dX4_readOne_71 rfl (lv_at hl 0 rfl) ?_
        refine lv_bipush (v := 32) hx hb dX4_readOne_72 (by decide) ?_
        obtain ⟨j89_21, ej89_21, hf⟩ := jn_of1 hf
        have hj89_20 : ∀ (S22 : MS) (H : Heap) (locs : List Loc) (ls : Array Slot), j89_21 S22 = some So → Rp G S22 H → va_S (gA G) s.heap H locs → Ex S S22 → Ok S22 this 4 → lv_has ls 5 [(0, .ref this), (1, .int a1), (2, .int x3), (3, .int x5)] → W p l e (rX4_readOne fr lo) s m args below meth c H locs 0 0 (MQ below (Qn G S none So) args s 0 0 (gA G)) (F0 m 89 ls []) := by
          intro S22 H locs ls hf hR hS hE ok_this hl
          rw [ej89_21] at hf
          refine lv_iload_n hx hb dX4_readOne_89 rfl (lv_at hl 3 rfl) ?_
          refine lv_bipush (v := 32) hx hb dX4_readOne_90 (by decide) ?_
          obtain ⟨j99_24, ej99_24, hf⟩ := jn_of1 hf
          have hj99_23 : ∀ (S25 : MS) (H : Heap) (locs : List Loc) (ls : Array Slot), j99_24 S25 = some So → Rp G S25 H → va_S (gA G) s.heap H locs → Ex S S25 → Ok S25 this 4 → lv_has ls 5 [(0, .ref this), (1, .int a1), (2, .int x3), (3, .int x5)] → W p l e (rX4_readOne fr lo) s m args below meth c H locs 0 0 (MQ below (Qn G S none So) args s 0 0 (gA G)) (F0 m 99 ls []) := by
            intro S25 H locs ls hf hR hS hE ok_this hl
            rw [ej99_24] at hf
            refine lv_aload_n hx hb dX4_readOne_99 rfl (lv_at hl 0 rfl) ?_
            refine lv_iload_n hx hb dX4_readOne_100 rfl (lv_at hl 2 rfl) ?_
            obtain ⟨x29, S26, hc27, hf⟩ := cl_of hf
            refine cl_RX4_119 (As := [.int x3]) (rest := []) hC hR hS (c_X4_isOpened l G n this x3 S25 x29 S26 hc27 ok_this) ok_this rfl ⟨Nat.le_trans (show rX4_isOpened.frames + 1 ≤ 2 by decide) (Nat.le_add_left _ _), Nat.le_trans (show 8 + (2 + 11) + rX4_isOpened.locals ≤ 44 by decide) (Nat.le_add_left _ _)⟩ hl.1 rfl (Nat.le_of_ble_eq_true rfl) dX4_readOne_101 (Nat.zero_le _) (Nat.zero_le _) (fun H locs hR hS hE28 => ?_)
            have ok_this := hE28 _ _ ok_this
            have hE := hE.tr hE28
            refine lv_if_eq (tgt := 166) hx hb dX4_readOne_104 (by decide) (fun hc => ?_) (fun hc => ?_)
            · replace hf := if_t hf hc
              exact hj166_6 S26 _ _ _ hf hR hS hE ok_this (lv_sub hl [0, 1, 2] rfl)
            · replace hf := if_f hf hc
              refine lv_aload_n hx hb dX4_readOne_107 rfl (lv_at hl 0 rfl) ?_
              refine lv_iload_n hx hb dX4_readOne_108 rfl (lv_at hl 2 rfl) ?_
              refine lv_iconst (v := 1) hx hb dX4_readOne_109 (by decide) ?_
              refine lv_iadd hx hb dX4_readOne_110 ?_
              obtain ⟨S30, hc31, hf⟩ := cv_of hf
              refine cl_RX4_88 (As := [.int (x3 + (1 : Int32))]) (rest := []) hC hR hS (hrec this (x3 + (1 : Int32)) S26 S30 hc31 ok_this) ok_this rfl ⟨Nat.add_le_add_left (Nat.le_of_ble_eq_true rfl) _, (by show 8 + (6 + 11) + lo ≤ lo + 44; omega)⟩ hl.1 rfl (Nat.le_of_ble_eq_true rfl) dX4_readOne_111 (Nat.zero_le _) (Nat.zero_le _) (fun H locs hR hS hE32 => ?_)
              have ok_this := hE32 _ _ ok_this
              have hE := hE.tr hE32
              refine lv_iload_n hx hb dX4_readOne_114 rfl (lv_at hl 3 rfl) ?_
              refine lv_bipush (v := 32) hx hb dX4_readOne_115 (by decide) ?_
              obtain ⟨j142_34, ej142_34, hf⟩ := jn_of1 hf
              have hj142_33 : ∀ (S35 : MS) (H : Heap) (locs : List Loc) (ls : Array Slot), j142_34 S35 = some So → Rp G S35 H → va_S (gA G) s.heap H locs → Ex S S35 → Ok S35 this 4 → lv_has ls 5 [(0, .ref this), (1, .int a1), (2, .int x3)] → W p l e (rX4_readOne fr lo) s m args below meth c H locs 0 0 (MQ below (Qn G S none So) args s 0 0 (gA G)) (F0 m 142 ls []) := by
                intro S35 H locs ls hf hR hS hE ok_this hl
                rw [ej142_34] at hf
                refine lv_aload_n hx hb dX4_readOne_142 rfl (lv_at hl 0 rfl) ?_
                refine lv_bipush (v := 33) hx hb dX4_readOne_143 (by decide) ?_
                obtain ⟨S36, hc37, hf⟩ := cv_of hf
                refine cl_RX4_94 (As := [.int (33 : Int32)]) (rest := []) hC hR hS (c_X4_expect l G n this (33 : Int32) S35 S36 hc37 ok_this) ok_this rfl ⟨Nat.le_trans (show rX4_expect.frames + 1 ≤ 2 by decide) (Nat.le_add_left _ _), Nat.le_trans (show 8 + (2 + 11) + rX4_expect.locals ≤ 44 by decide) (Nat.le_add_left _ _)⟩ hl.1 rfl (Nat.le_of_ble_eq_true rfl) dX4_readOne_145 (Nat.zero_le _) (Nat.zero_le _) (fun H locs hR hS hE38 => ?_)
                have ok_this := hE38 _ _ ok_this
                have hE := hE.tr hE38
                refine lv_goto (tgt := 166) hx hb dX4_readOne_148 (by decide) ?_
                exact hj166_6 S36 _ _ _ hf hR hS hE ok_this (lv_sub hl [0, 1, 2] rfl)
              refine lv_icmp_eq (tgt := 142) hx hb dX4_readOne_117 (by decide) (fun hc => ?_) (fun hc => ?_)
              · replace hf := if_t hf hc
                exact hj142_33 S30 _ _ _ hf hR hS hE ok_this (lv_sub hl [0, 1, 2] rfl)
              · replace hf := if_f hf hc
                refine lv_aload_n hx hb dX4_readOne_120 rfl (lv_at hl 0 rfl) ?_
                refine lv_bipush (v := 34) hx hb dX4_readOne_121 (by decide) ?_
                obtain ⟨S39, hc40, hf⟩ := cv_of hf
                refine cl_RX4_94 (As := [.int (34 : Int32)]) (rest := []) hC hR hS (c_X4_expect l G n this (34 : Int32) S30 S39 hc40 ok_this) ok_this rfl ⟨Nat.le_trans (show rX4_expect.frames + 1 ≤ 2 by decide) (Nat.le_add_left _ _), Nat.le_trans (show 8 + (2 + 11) + rX4_expect.locals ≤ 44 by decide) (Nat.le_add_left _ _)⟩ hl.1 rfl (Nat.le_of_ble_eq_true rfl) dX4_readOne_123 (Nat.zero_le _) (Nat.zero_le _) (fun H locs hR hS hE41 => ?_)
                have ok_this := hE41 _ _ ok_this
                have hE := hE.tr hE41
                refine lv_aload_n hx hb dX4_readOne_126 rfl (lv_at hl 0 rfl) ?_
                refine lv_iload_n hx hb dX4_readOne_127 rfl (lv_at hl 2 rfl) ?_
                refine lv_iconst (v := 1) hx hb dX4_readOne_128 (by decide) ?_
                refine lv_iadd hx hb dX4_readOne_129 ?_
                obtain ⟨S42, hc43, hf⟩ := cv_of hf
                refine cl_RX4_88 (As := [.int (x3 + (1 : Int32))]) (rest := []) hC hR hS (hrec this (x3 + (1 : Int32)) S39 S42 hc43 ok_this) ok_this rfl ⟨Nat.add_le_add_left (Nat.le_of_ble_eq_true rfl) _, (by show 8 + (6 + 11) + lo ≤ lo + 44; omega)⟩ hl.1 rfl (Nat.le_of_ble_eq_true rfl) dX4_readOne_130 (Nat.zero_le _) (Nat.zero_le _) (fun H locs hR hS hE44 => ?_)
                have ok_this := hE44 _ _ ok_this
                have hE := hE.tr hE44
                refine lv_aload_n hx hb dX4_readOne_133 rfl (lv_at hl 0 rfl) ?_
                obtain ⟨q45, hq46, ok_q45, hf⟩ := gR_of hf
                refine gf_RX4_25 hC hR ok_this hq46 dX4_readOne_134 ?_
                refine lv_iload_n hx hb dX4_readOne_137 rfl (lv_at hl 3 rfl) ?_
                refine lv_iconst (v := 0) hx hb dX4_readOne_138 (by decide) ?_
                obtain ⟨S47, hc48, hf⟩ := cv_of hf
                refine cl_RX4_110 (As := [.int x5, .int (0 : Int32)]) (rest := []) hC hR hS (c_X7_put l G n q45 x5 (0 : Int32) S42 S47 hc48 ok_q45) ok_q45 rfl ⟨Nat.le_trans (show rX7_put.frames + 1 ≤ 2 by decide) (Nat.le_add_left _ _), Nat.le_trans (show 8 + (3 + 11) + rX7_put.locals ≤ 44 by decide) (Nat.le_add_left _ _)⟩ hl.1 rfl (Nat.le_of_ble_eq_true rfl) dX4_readOne_139 (Nat.zero_le _) (Nat.zero_le _) (fun H locs hR hS hE49 => ?_)
                have ok_this := hE49 _ _ ok_this
                have ok_q45 := hE49 _ _ ok_q45
                have hE := hE.tr hE49
                exact hj142_33 S47 _ _ _ hf hR hS hE ok_this (lv_sub hl [0, 1, 2] rfl)
          refine lv_icmp_eq (tgt := 99) hx hb dX4_readOne_92 (by decide) (fun hc => ?_) (fun hc => ?_)
          · replace hf := if_t hf hc
            exact hj99_23 S22 _ _ _ hf hR hS hE ok_this (lv_sub hl [0, 1, 2, 3] rfl)
          · replace hf := if_f hf hc
            refine lv_aload_n hx hb dX4_readOne_95 rfl (lv_at hl 0 rfl) ?_
            obtain ⟨S51, hc52, hf⟩ := cv_of hf
            refine cl_RX4_51 (As := []) (rest := []) hC hR hS (c_X4_advance l G n this S22 S51 hc52 ok_this) ok_this rfl ⟨Nat.le_trans (show rX4_advance.frames + 1 ≤ 2 by decide) (Nat.le_add_left _ _), Nat.le_trans (show 8 + (1 + 11) + rX4_advance.locals ≤ 44 by decide) (Nat.le_add_left _ _)⟩ hl.1 rfl (Nat.le_of_ble_eq_true rfl) dX4_readOne_96 (Nat.zero_le _) (Nat.zero_le _) (fun H locs hR hS hE53 => ?_)
            have ok_this := hE53 _ _ ok_this
            have hE := hE.tr hE53
            exact hj99_23 S51 _ _ _ hf hR hS hE ok_this (lv_sub hl [0, 1, 2, 3] rfl)
        refine lv_icmp_eq (tgt := 89) hx hb dX4_readOne_74 (by decide) (fun hc => ?_) (fun hc => ?_)
        · replace hf := if_t hf hc
          exact hj89_20 S4 _ _ _ hf hR hS hE ok_this (lv_sub hl [1, 2, 3, 0] rfl)
        · replace hf := if_f hf hc
          refine lv_iload_n hx hb dX4_readOne_77 rfl (lv_at hl 0 rfl) ?_
          refine lv_bipush (v := 12) hx hb dX4_readOne_78 (by decide) ?_
          refine lv_icmp_eq (tgt := 89) hx hb dX4_readOne_80 (by decide) (fun hc => ?_) (fun hc => ?_)
          · replace hf := if_t hf hc
            exact hj89_20 S4 _ _ _ hf hR hS hE ok_this (lv_sub hl [1, 2, 3, 0] rfl)
          · replace hf := if_f hf hc
            refine lv_iload_n hx hb dX4_readOne_83 rfl (lv_at hl 0 rfl) ?_
            refine lv_bipush (v := 13) hx hb dX4_readOne_84 (by decide) ?_
            refine lv_icmp_ne (tgt := 151) hx hb dX4_readOne_86 (by decide) (fun hc => ?_) (fun hc => ?_)
            · replace hf := if_f hf hc
              refine lv_aload_n hx hb dX4_readOne_151 rfl (lv_at hl 1 rfl) ?_
              refine lv_iload_n hx hb dX4_readOne_152 rfl (lv_at hl 0 rfl) ?_
              refine lv_bipush (v := 29) hx hb dX4_readOne_153 (by decide) ?_
              obtain ⟨j163_56, ej163_56, hf⟩ := jn_of3 hf
              have hj163_55 : ∀ (q57 : Nat) (x58 : Int32) (S59 : MS) (H : Heap) (locs : List Loc) (ls : Array Slot), j163_56 q57 x58 S59 = some So → Rp G S59 H → va_S (gA G) s.heap H locs → Ex S S59 → Ok S59 this 4 → Ok S59 q57 4 → lv_has ls 5 [(0, .ref this), (1, .int a1), (2, .int x3)] → W p l e (rX4_readOne fr lo) s m args below meth c H locs 0 0 (MQ below (Qn G S none So) args s 0 0 (gA G)) (F0 m 163 ls [.int x58, .ref q57]) := by
                intro q57 x58 S59 H locs ls hf hR hS hE ok_this ok_q57 hl
                rw [ej163_56] at hf
                obtain ⟨S60, hc61, hf⟩ := cv_of hf
                refine cl_RX4_54 (As := [.int x58]) (rest := []) hC hR hS (c_X4_complain l G n q57 x58 S59 S60 hc61 ok_q57) ok_q57 rfl ⟨Nat.le_trans (show rX4_complain.frames + 1 ≤ 2 by decide) (Nat.le_add_left _ _), Nat.le_trans (show 8 + (2 + 11) + rX4_complain.locals ≤ 44 by decide) (Nat.le_add_left _ _)⟩ hl.1 rfl (Nat.le_of_ble_eq_true rfl) dX4_readOne_163 (Nat.zero_le _) (Nat.zero_le _) (fun H locs hR hS hE62 => ?_)
                have ok_this := hE62 _ _ ok_this
                have ok_q57 := hE62 _ _ ok_q57
                have hE := hE.tr hE62
                exact hj166_6 S60 _ _ _ hf hR hS hE ok_this (lv_sub hl [0, 1, 2] rfl)
              refine lv_icmp_ne (tgt := 162) hx hb dX4_readOne_155 (by decide) (fun hc => ?_) (fun hc => ?_)
              · replace hf := if_f hf hc
                refine lv_iconst (v := 1) hx hb dX4_readOne_162 (by decide) ?_
                exact hj163_55 this (1 : Int32) S4 _ _ _ hf hR hS hE ok_this ok_this (lv_sub hl [1, 2, 3] rfl)
              · replace hf := if_t hf hc
                refine lv_iconst (v := 3) hx hb dX4_readOne_158 (by decide) ?_
                refine lv_goto (tgt := 163) hx hb dX4_readOne_159 (by decide) ?_
                exact hj163_55 this (3 : Int32) S4 _ _ _ hf hR hS hE ok_this ok_this (lv_sub hl [1, 2, 3] rfl)
            · replace hf := if_t hf hc
              exact hj89_20 S4 _ _ _ hf hR hS hE ok_this (lv_sub hl [1, 2, 3, 0] rfl)
      · replace hf := if_f hf hc
        refine lv_aload_n hx hb dX4_readOne_64 rfl (lv_at hl 1 rfl) ?_
        obtain ⟨S67, hc68, hf⟩ := cv_of hf
        refine cl_RX4_116 (As := []) (rest := []) hC hR hS (c_X4_readName l G n this S4 S67 hc68 ok_this) ok_this rfl ⟨Nat.le_trans (show rX4_readName.frames + 1 ≤ 2 by decide) (Nat.le_add_left _ _), Nat.le_trans (show 8 + (1 + 11) + rX4_readName.locals ≤ 44 by decide) (Nat.le_add_left _ _)⟩ hl.1 rfl (Nat.le_of_ble_eq_true rfl) dX4_readOne_65 (Nat.zero_le _) (Nat.zero_le _) (fun H locs hR hS hE69 => ?_)
        have ok_this := hE69 _ _ ok_this
        have hE := hE.tr hE69
        refine lv_goto (tgt := 166) hx hb dX4_readOne_68 (by decide) ?_
        exact hj166_6 S67 _ _ _ hf hR hS hE ok_this (lv_sub hl [1, 2, 3] rfl)
    · replace hf := if_t hf hc
      refine lv_aload_n hx hb dX4_readOne_38 rfl (lv_at hl 1 rfl) ?_
      obtain ⟨q70, hq71, ok_q70, hf⟩ := gR_of hf
      refine gf_RX4_25 hC hR ok_this hq71 dX4_readOne_39 ?_
      refine lv_bipush (v := 38) hx hb dX4_readOne_42 (by decide) ?_
      refine lv_aload_n hx hb dX4_readOne_44 rfl (lv_at hl 1 rfl) ?_
      refine lv_iconst (v := 0) hx hb dX4_readOne_45 (by decide) ?_
      refine lv_sipush (v := 9999) hx hb dX4_readOne_46 (by decide) ?_
      obtain ⟨x75, S72, hc73, hf⟩ := cl_of hf
      refine cl_RX4_97 (As := [.int (0 : Int32), .int (9999 : Int32)]) (rest := [.int (38 : Int32), .ref q70]) hC hR hS (c_X4_readNumber l G n this (0 : Int32) (9999 : Int32) S4 x75 S72 hc73 ok_this) ok_this rfl ⟨Nat.le_trans (show rX4_readNumber.frames + 1 ≤ 2 by decide) (Nat.le_add_left _ _), Nat.le_trans (show 8 + (4 + 11) + rX4_readNumber.locals ≤ 44 by decide) (Nat.le_add_left _ _)⟩ hl.1 rfl (Nat.le_of_ble_eq_true rfl) dX4_readOne_49 (Nat.zero_le _) (Nat.zero_le _) (fun H locs hR hS hE74 => ?_)
      have ok_this := hE74 _ _ ok_this
      have ok_q70 := hE74 _ _ ok_q70
      have hE := hE.tr hE74
      obtain ⟨S76, hc77, hf⟩ := cv_of hf
      refine cl_RX4_110 (As := [.int (38 : Int32), .int x75]) (rest := []) hC hR hS (c_X7_put l G n q70 (38 : Int32) x75 S72 S76 hc77 ok_q70) ok_q70 rfl ⟨Nat.le_trans (show rX7_put.frames + 1 ≤ 2 by decide) (Nat.le_add_left _ _), Nat.le_trans (show 8 + (3 + 11) + rX7_put.locals ≤ 44 by decide) (Nat.le_add_left _ _)⟩ hl.1 rfl (Nat.le_of_ble_eq_true rfl) dX4_readOne_52 (Nat.zero_le _) (Nat.zero_le _) (fun H locs hR hS hE78 => ?_)
      have ok_this := hE78 _ _ ok_this
      have ok_q70 := hE78 _ _ ok_q70
      have hE := hE.tr hE78
      refine lv_goto (tgt := 166) hx hb dX4_readOne_55 (by decide) ?_
      exact hj166_6 S76 _ _ _ hf hR hS hE ok_this (lv_sub hl [1, 2, 3] rfl)
  have hh88 : ∀ k : Nat, ∀ (x82 : Int32) (S83 : MS) (H : Heap) (locs : List Loc) (ls : Array Slot), f_X4_readOne_L2 n this a1 j27_2 k x82 S83 = some So → Rp G S83 H → va_S (gA G) s.heap H locs → Ex S S83 → Ok S83 this 4 → lv_has ls 5 [(0, .ref this), (1, .int a1), (2, .int x82)] → W p l e (rX4_readOne fr lo) s m args below meth c H locs 0 0 (MQ below (Qn G S none So) args s 0 0 (gA G)) (F0 m 2 ls []) := by
    intro k
    induction k with
    | zero =>
      intro x82 S83 H locs ls hf hR hS hE ok_this hl
      exact absurd hf (by rw [f_X4_readOne_L2]; exact fun h => by cases h)
    | succ k ih =>
      intro x82 S83 H locs ls hf hR hS hE ok_this hl
      rw [f_X4_readOne_L2] at hf
      obtain ⟨rec2_81, erec2_81, hf⟩ := jn_of2 hf
      have hL2_80 : ∀ (x82 : Int32) (S83 : MS) (H : Heap) (locs : List Loc) (ls : Array Slot), rec2_81 x82 S83 = some So → Rp G S83 H → va_S (gA G) s.heap H locs → Ex S S83 → Ok S83 this 4 → lv_has ls 5 [(0, .ref this), (1, .int a1), (2, .int x82)] → W p l e (rX4_readOne fr lo) s m args below meth c H locs 0 0 (MQ below (Qn G S none So) args s 0 0 (gA G)) (F0 m 2 ls []) := by
        intro x82 S83 H locs ls hf hR hS hE ok_this hl
        rw [erec2_81] at hf
        exact ih x82 S83 _ _ _ hf hR hS hE ok_this hl
      refine lv_iload_n hx hb dX4_readOne_2 rfl (lv_at hl 2 rfl) ?_
      refine lv_bipush (v := 8) hx hb dX4_readOne_3 (by decide) ?_
      refine lv_icmp_ge (tgt := 27) hx hb dX4_readOne_5 (by decide) (fun hc => ?_) (fun hc => ?_)
      · replace hf := if_t hf hc
        exact hj27_1 x82 S83 _ _ _ hf hR hS hE ok_this (lv_sub hl [0, 1, 2] rfl)
      · replace hf := if_f hf hc
        refine lv_aload_n hx hb dX4_readOne_8 rfl (lv_at hl 0 rfl) ?_
        refine gf_RX4_45 hC hR ok_this dX4_readOne_9 ?_
        refine lv_bipush (v := 29) hx hb dX4_readOne_12 (by decide) ?_
        refine lv_icmp_ne (tgt := 27) hx hb dX4_readOne_14 (by decide) (fun hc => ?_) (fun hc => ?_)
        · replace hf := if_f hf hc
          exact hj27_1 x82 S83 _ _ _ hf hR hS hE ok_this (lv_sub hl [0, 1, 2] rfl)
        · replace hf := if_t hf hc
          refine r_iinc (n := 1) (z := 1) (lv' := fun x84 => [(2, .int x84), (0, .ref this), (1, .int a1)]) hx hb dX4_readOne_17 hl (k := 2) rfl (by decide) (by decide) (fun _ => rfl) hf (fun x84 ls hf hl => ?_)
          refine lv_aload_n hx hb dX4_readOne_20 rfl (lv_at hl 1 rfl) ?_
          obtain ⟨S85, hc86, hf⟩ := cv_of hf
          refine cl_RX4_51 (As := []) (rest := []) hC hR hS (c_X4_advance l G n this S83 S85 hc86 ok_this) ok_this rfl ⟨Nat.le_trans (show rX4_advance.frames + 1 ≤ 2 by decide) (Nat.le_add_left _ _), Nat.le_trans (show 8 + (1 + 11) + rX4_advance.locals ≤ 44 by decide) (Nat.le_add_left _ _)⟩ hl.1 rfl (Nat.le_of_ble_eq_true rfl) dX4_readOne_21 (Nat.zero_le _) (Nat.zero_le _) (fun H locs hR hS hE87 => ?_)
          have ok_this := hE87 _ _ ok_this
          have hE := hE.tr hE87
          refine lv_goto (tgt := 2) hx hb dX4_readOne_24 (by decide) ?_
          exact hL2_80 x84 S85 _ _ _ hf hR hS hE ok_this (lv_sub hl [1, 2, 0] rfl)
  exact hh88 n a1 S _ _ _ hf hR hS hE ok_this (lv_sub hl [1, 2, 0] rfl)
abbrev rX4_readSum (fr lo : Nat) : Room := { frames := fr + 1, cells := 0, slots := 0, locals := lo + 24 }
def f_X4_readSum_L9 (n : Nat) (this : Nat) (a1 : Int32) (rec : Nat → Int32 → MS → Option (MS)) (j122_5 : Int32 → MS → Option (MS)) : Nat → Int32 → Int32 → MS → Option (MS)
  | 0, _, _, _ => none
  | k + 1, x15, x16, S17 => jn (f_X4_readSum_L9 n this a1 rec j122_5 k) fun rec9_14 => (if (300 : Int32) ≤ x16 then j122_5 x15 S17 else (if (mI S17 this 5) < (28 : Int32) then j122_5 x15 S17 else (if (31 : Int32) < (mI S17 this 5) then j122_5 x15 S17 else bd (mI S17 this 5) fun x18 => jn (fun (x21 : Int32) (S22 : MS) => jn (fun (S25 : MS) => jn (fun (x28 : Int32) (S29 : MS) => cv (f_X4_advance n this S29) fun S30 => cv (rec this a1 S30) fun S33 => jn (fun (S38 : MS) => bd (x16 + (1 : Int32)) fun x39 => rec9_14 x28 x39 S38) fun j116_37 => (if x21 = 0 then j116_37 S33 else gR S33 (mR S33 this 3) 7 fun q40 => cv (f_X7_put n q40 x18 (0 : Int32) S33) fun S42 => j116_37 S42)) fun j91_27 => (if x21 = 0 then j91_27 x18 S25 else j91_27 x15 S25)) fun j80_24 => (if x21 = 0 then (if x15 = (-1 : Int32) then j80_24 S22 else gR S22 (mR S22 this 3) 7 fun q48 => cv (f_X7_put n q48 x15 (0 : Int32) S22) fun S50 => j80_24 S50) else j80_24 S22)) fun j59_20 => jn (fun (S56 : MS) => j59_20 (1 : Int32) S56) fun j54_55 => (if x18 = (30 : Int32) then j54_55 S17 else (if x18 = (31 : Int32) then j54_55 S17 else j59_20 (0 : Int32) S17)))))
def B_X4_readSum (n : Nat) (rec : Nat → Int32 → MS → Option (MS)) (this : Nat) (a1 : Int32) (S : MS) : Option (MS) :=
  cv (rec this a1 S) fun S1 => jn (fun (x6 : Int32) (S7 : MS) => (if x6 = (-1 : Int32) then some S7 else gR S7 (mR S7 this 3) 7 fun q8 => cv (f_X7_put n q8 x6 (0 : Int32) S7) fun S10 => some S10)) fun j122_5 => f_X4_readSum_L9 n this a1 rec j122_5 n (-1 : Int32) (0 : Int32) S1
set_option maxRecDepth 100000 in
set_option maxHeartbeats 4000000 in
theorem o_X4_readSum (l : Launch) (G : Gx) (n fr lo : Nat) (rec : Nat → Int32 → MS → Option (MS)) (hrec : ∀ (this : Nat) (b1 : Int32) (S : MS) (So : MS), rec this b1 S = some So → Ok S this 4 → Cn G l yX4_readOne cX4_readOne 5 none { frames := fr, cells := 0, slots := 0, locals := lo } [.ref this, .int b1] S none So) (this : Nat) (a1 : Int32) (S : MS) (So : MS) (hf : B_X4_readSum n rec this a1 S = some So) (ok_this : Ok S this 4) : Cn G l yX4_readSum cX4_readSum 6 none (rX4_readSum fr lo) [.ref this, .int a1] S none So := by
  refine Cn.of (by decide) (Nat.le_of_ble_eq_true rfl) ?_
  intro p e s m args below meth c hC hname hR ls hl
  have hC : Cx G RX4 cX4_readSum 6 none p s m args meth c := hC
  have hl : lv_has ls 6 [(0, .ref this), (1, .int a1)] := hl
  have hx := hC.x
  have hb := hC.b
  have hS : va_S (gA G) s.heap s.heap [] := va_S.rf
  have hE : Ex S S := Ex.rf S
  unfold B_X4_readSum at hf
  refine lv_iconst (v := -1) hx hb dX4_readSum_0 (by decide) ?_
  refine lv_istore_n (lv' := [(2, .int (-1 : Int32)), (0, .ref this), (1, .int a1)]) hx hb dX4_readSum_1 rfl hl (by decide) rfl (fun ls hl => ?_)
  refine lv_aload_n hx hb dX4_readSum_2 rfl (lv_at hl 1 rfl) ?_
  refine lv_iload_n hx hb dX4_readSum_3 rfl (lv_at hl 2 rfl) ?_
  obtain ⟨S1, hc2, hf⟩ := cv_of hf
  refine cl_RX4_113 (As := [.int a1]) (rest := []) hC hR hS (hrec this a1 S S1 hc2 ok_this) ok_this rfl ⟨Nat.add_le_add_left (Nat.le_of_ble_eq_true rfl) _, (by show 8 + (5 + 11) + lo ≤ lo + 24; omega)⟩ hl.1 rfl (Nat.le_of_ble_eq_true rfl) dX4_readSum_4 (Nat.zero_le _) (Nat.zero_le _) (fun H locs hR hS hE3 => ?_)
  have ok_this := hE3 _ _ ok_this
  have hE := hE.tr hE3
  refine lv_iconst (v := 0) hx hb dX4_readSum_7 (by decide) ?_
  refine lv_istore_n (lv' := [(3, .int (0 : Int32)), (2, .int (-1 : Int32)), (0, .ref this), (1, .int a1)]) hx hb dX4_readSum_8 rfl hl (by decide) rfl (fun ls hl => ?_)
  obtain ⟨j122_5, ej122_5, hf⟩ := jn_of2 hf
  have hj122_4 : ∀ (x6 : Int32) (S7 : MS) (H : Heap) (locs : List Loc) (ls : Array Slot), j122_5 x6 S7 = some So → Rp G S7 H → va_S (gA G) s.heap H locs → Ex S S7 → Ok S7 this 4 → lv_has ls 6 [(0, .ref this), (2, .int x6)] → W p l e (rX4_readSum fr lo) s m args below meth c H locs 0 0 (MQ below (Qn G S none So) args s 0 0 (gA G)) (F0 m 122 ls []) := by
    intro x6 S7 H locs ls hf hR hS hE ok_this hl
    rw [ej122_5] at hf
    refine lv_iload_n hx hb dX4_readSum_122 rfl (lv_at hl 1 rfl) ?_
    refine lv_iconst (v := -1) hx hb dX4_readSum_123 (by decide) ?_
    refine lv_icmp_eq (tgt := 136) hx hb dX4_readSum_124 (by decide) (fun hc => ?_) (fun hc => ?_)
    · replace hf := if_t hf hc
      exact r_vret hC hR hS hE hf dX4_readSum_136
    · replace hf := if_f hf hc
      refine lv_aload_n hx hb dX4_readSum_127 rfl (lv_at hl 0 rfl) ?_
      obtain ⟨q8, hq9, ok_q8, hf⟩ := gR_of hf
      refine gf_RX4_25 hC hR ok_this hq9 dX4_readSum_128 ?_
      refine lv_iload_n hx hb dX4_readSum_131 rfl (lv_at hl 1 rfl) ?_
      refine lv_iconst (v := 0) hx hb dX4_readSum_132 (by decide) ?_
      obtain ⟨S10, hc11, hf⟩ := cv_of hf
      refine cl_RX4_110 (As := [.int x6, .int (0 : Int32)]) (rest := []) hC hR hS (c_X7_put l G n q8 x6 (0 : Int32) S7 S10 hc11 ok_q8) ok_q8 rfl ⟨Nat.le_trans (show rX7_put.frames + 1 ≤ 1 by decide) (Nat.le_add_left _ _), Nat.le_trans (show 8 + (3 + 11) + rX7_put.locals ≤ 24 by decide) (Nat.le_add_left _ _)⟩ hl.1 rfl (Nat.le_of_ble_eq_true rfl) dX4_readSum_133 (Nat.zero_le _) (Nat.zero_le _) (fun H locs hR hS hE12 => ?_)
      have ok_this := hE12 _ _ ok_this
      have ok_q8 := hE12 _ _ ok_q8
      have hE := hE.tr hE12
      exact r_vret hC hR hS hE hf dX4_readSum_136
  have hh60 : ∀ k : Nat, ∀ (x15 : Int32) (x16 : Int32) (S17 : MS) (H : Heap) (locs : List Loc) (ls : Array Slot), f_X4_readSum_L9 n this a1 rec j122_5 k x15 x16 S17 = some So → Rp G S17 H → va_S (gA G) s.heap H locs → Ex S S17 → Ok S17 this 4 → lv_has ls 6 [(0, .ref this), (1, .int a1), (2, .int x15), (3, .int x16)] → W p l e (rX4_readSum fr lo) s m args below meth c H locs 0 0 (MQ below (Qn G S none So) args s 0 0 (gA G)) (F0 m 9 ls []) := by
    intro k
    induction k with
    | zero =>
      intro x15 x16 S17 H locs ls hf hR hS hE ok_this hl
      exact absurd hf (by rw [f_X4_readSum_L9]; exact fun h => by cases h)
    | succ k ih =>
      intro x15 x16 S17 H locs ls hf hR hS hE ok_this hl
      rw [f_X4_readSum_L9] at hf
      obtain ⟨rec9_14, erec9_14, hf⟩ := jn_of3 hf
      have hL9_13 : ∀ (x15 : Int32) (x16 : Int32) (S17 : MS) (H : Heap) (locs : List Loc) (ls : Array Slot), rec9_14 x15 x16 S17 = some So → Rp G S17 H → va_S (gA G) s.heap H locs → Ex S S17 → Ok S17 this 4 → lv_has ls 6 [(0, .ref this), (1, .int a1), (2, .int x15), (3, .int x16)] → W p l e (rX4_readSum fr lo) s m args below meth c H locs 0 0 (MQ below (Qn G S none So) args s 0 0 (gA G)) (F0 m 9 ls []) := by
        intro x15 x16 S17 H locs ls hf hR hS hE ok_this hl
        rw [erec9_14] at hf
        exact ih x15 x16 S17 _ _ _ hf hR hS hE ok_this hl
      refine lv_iload_n hx hb dX4_readSum_9 rfl (lv_at hl 3 rfl) ?_
      refine lv_sipush (v := 300) hx hb dX4_readSum_10 (by decide) ?_
      refine lv_icmp_ge (tgt := 122) hx hb dX4_readSum_13 (by decide) (fun hc => ?_) (fun hc => ?_)
      · replace hf := if_t hf hc
        exact hj122_4 x15 S17 _ _ _ hf hR hS hE ok_this (lv_sub hl [0, 2] rfl)
      · replace hf := if_f hf hc
        refine lv_aload_n hx hb dX4_readSum_16 rfl (lv_at hl 0 rfl) ?_
        refine gf_RX4_45 hC hR ok_this dX4_readSum_17 ?_
        refine lv_bipush (v := 28) hx hb dX4_readSum_20 (by decide) ?_
        refine lv_icmp_lt (tgt := 122) hx hb dX4_readSum_22 (by decide) (fun hc => ?_) (fun hc => ?_)
        · replace hf := if_t hf hc
          exact hj122_4 x15 S17 _ _ _ hf hR hS hE ok_this (lv_sub hl [0, 2] rfl)
        · replace hf := if_f hf hc
          refine lv_aload_n hx hb dX4_readSum_25 rfl (lv_at hl 0 rfl) ?_
          refine gf_RX4_45 hC hR ok_this dX4_readSum_26 ?_
          refine lv_bipush (v := 31) hx hb dX4_readSum_29 (by decide) ?_
          refine lv_icmp_gt (tgt := 122) hx hb dX4_readSum_31 (by decide) (fun hc => ?_) (fun hc => ?_)
          · replace hf := if_t hf hc
            exact hj122_4 x15 S17 _ _ _ hf hR hS hE ok_this (lv_sub hl [0, 2] rfl)
          · replace hf := if_f hf hc
            refine lv_aload_n hx hb dX4_readSum_34 rfl (lv_at hl 0 rfl) ?_
            refine gf_RX4_45 hC hR ok_this dX4_readSum_35 ?_
            refine bdi hf (fun x18 hf => ?_)
            refine lv_istore (lv' := [(4, .int x18), (0, .ref this), (1, .int a1), (2, .int x15), (3, .int x16)]) hx hb dX4_readSum_38 hl (by decide) rfl (fun ls hl => ?_)
            refine lv_iload hx hb dX4_readSum_40 (lv_at hl 0 rfl) ?_
            refine lv_bipush (v := 30) hx hb dX4_readSum_42 (by decide) ?_
            obtain ⟨j59_20, ej59_20, hf⟩ := jn_of2 hf
            have hj59_19 : ∀ (x21 : Int32) (S22 : MS) (H : Heap) (locs : List Loc) (ls : Array Slot), j59_20 x21 S22 = some So → Rp G S22 H → va_S (gA G) s.heap H locs → Ex S S22 → Ok S22 this 4 → lv_has ls 6 [(0, .ref this), (1, .int a1), (2, .int x15), (3, .int x16), (4, .int x18)] → W p l e (rX4_readSum fr lo) s m args below meth c H locs 0 0 (MQ below (Qn G S none So) args s 0 0 (gA G)) (F0 m 59 ls [.int x21]) := by
              intro x21 S22 H locs ls hf hR hS hE ok_this hl
              rw [ej59_20] at hf
              refine lv_istore (lv' := [(5, .int x21), (0, .ref this), (1, .int a1), (2, .int x15), (3, .int x16), (4, .int x18)]) hx hb dX4_readSum_59 hl (by decide) rfl (fun ls hl => ?_)
              refine lv_iload hx hb dX4_readSum_61 (lv_at hl 0 rfl) ?_
              obtain ⟨j80_24, ej80_24, hf⟩ := jn_of1 hf
              have hj80_23 : ∀ (S25 : MS) (H : Heap) (locs : List Loc) (ls : Array Slot), j80_24 S25 = some So → Rp G S25 H → va_S (gA G) s.heap H locs → Ex S S25 → Ok S25 this 4 → lv_has ls 6 [(0, .ref this), (1, .int a1), (2, .int x15), (3, .int x16), (4, .int x18), (5, .int x21)] → W p l e (rX4_readSum fr lo) s m args below meth c H locs 0 0 (MQ below (Qn G S none So) args s 0 0 (gA G)) (F0 m 80 ls []) := by
                intro S25 H locs ls hf hR hS hE ok_this hl
                rw [ej80_24] at hf
                refine lv_iload hx hb dX4_readSum_80 (lv_at hl 5 rfl) ?_
                obtain ⟨j91_27, ej91_27, hf⟩ := jn_of2 hf
                have hj91_26 : ∀ (x28 : Int32) (S29 : MS) (H : Heap) (locs : List Loc) (ls : Array Slot), j91_27 x28 S29 = some So → Rp G S29 H → va_S (gA G) s.heap H locs → Ex S S29 → Ok S29 this 4 → lv_has ls 6 [(0, .ref this), (1, .int a1), (3, .int x16), (4, .int x18), (5, .int x21)] → W p l e (rX4_readSum fr lo) s m args below meth c H locs 0 0 (MQ below (Qn G S none So) args s 0 0 (gA G)) (F0 m 91 ls [.int x28]) := by
                  intro x28 S29 H locs ls hf hR hS hE ok_this hl
                  rw [ej91_27] at hf
                  refine lv_istore_n (lv' := [(2, .int x28), (0, .ref this), (1, .int a1), (3, .int x16), (4, .int x18), (5, .int x21)]) hx hb dX4_readSum_91 rfl hl (by decide) rfl (fun ls hl => ?_)
                  refine lv_aload_n hx hb dX4_readSum_92 rfl (lv_at hl 1 rfl) ?_
                  obtain ⟨S30, hc31, hf⟩ := cv_of hf
                  refine cl_RX4_51 (As := []) (rest := []) hC hR hS (c_X4_advance l G n this S29 S30 hc31 ok_this) ok_this rfl ⟨Nat.le_trans (show rX4_advance.frames + 1 ≤ 1 by decide) (Nat.le_add_left _ _), Nat.le_trans (show 8 + (1 + 11) + rX4_advance.locals ≤ 24 by decide) (Nat.le_add_left _ _)⟩ hl.1 rfl (Nat.le_of_ble_eq_true rfl) dX4_readSum_93 (Nat.zero_le _) (Nat.zero_le _) (fun H locs hR hS hE32 => ?_)
                  have ok_this := hE32 _ _ ok_this
                  have hE := hE.tr hE32
                  refine lv_aload_n hx hb dX4_readSum_96 rfl (lv_at hl 1 rfl) ?_
                  refine lv_iload_n hx hb dX4_readSum_97 rfl (lv_at hl 2 rfl) ?_
                  obtain ⟨S33, hc34, hf⟩ := cv_of hf
                  refine cl_RX4_113 (As := [.int a1]) (rest := []) hC hR hS (hrec this a1 S30 S33 hc34 ok_this) ok_this rfl ⟨Nat.add_le_add_left (Nat.le_of_ble_eq_true rfl) _, (by show 8 + (5 + 11) + lo ≤ lo + 24; omega)⟩ hl.1 rfl (Nat.le_of_ble_eq_true rfl) dX4_readSum_98 (Nat.zero_le _) (Nat.zero_le _) (fun H locs hR hS hE35 => ?_)
                  have ok_this := hE35 _ _ ok_this
                  have hE := hE.tr hE35
                  refine lv_iload hx hb dX4_readSum_101 (lv_at hl 5 rfl) ?_
                  obtain ⟨j116_37, ej116_37, hf⟩ := jn_of1 hf
                  have hj116_36 : ∀ (S38 : MS) (H : Heap) (locs : List Loc) (ls : Array Slot), j116_37 S38 = some So → Rp G S38 H → va_S (gA G) s.heap H locs → Ex S S38 → Ok S38 this 4 → lv_has ls 6 [(0, .ref this), (1, .int a1), (2, .int x28), (3, .int x16)] → W p l e (rX4_readSum fr lo) s m args below meth c H locs 0 0 (MQ below (Qn G S none So) args s 0 0 (gA G)) (F0 m 116 ls []) := by
                    intro S38 H locs ls hf hR hS hE ok_this hl
                    rw [ej116_37] at hf
                    refine r_iinc (n := 1) (z := 1) (lv' := fun x39 => [(3, .int x39), (0, .ref this), (1, .int a1), (2, .int x28)]) hx hb dX4_readSum_116 hl (k := 3) rfl (by decide) (by decide) (fun _ => rfl) hf (fun x39 ls hf hl => ?_)
                    refine lv_goto (tgt := 9) hx hb dX4_readSum_119 (by decide) ?_
                    exact hL9_13 x28 x39 S38 _ _ _ hf hR hS hE ok_this (lv_sub hl [1, 2, 3, 0] rfl)
                  refine lv_if_eq (tgt := 116) hx hb dX4_readSum_103 (by decide) (fun hc => ?_) (fun hc => ?_)
                  · replace hf := if_t hf hc
                    exact hj116_36 S33 _ _ _ hf hR hS hE ok_this (lv_sub hl [1, 2, 0, 3] rfl)
                  · replace hf := if_f hf hc
                    refine lv_aload_n hx hb dX4_readSum_106 rfl (lv_at hl 1 rfl) ?_
                    obtain ⟨q40, hq41, ok_q40, hf⟩ := gR_of hf
                    refine gf_RX4_25 hC hR ok_this hq41 dX4_readSum_107 ?_
                    refine lv_iload hx hb dX4_readSum_110 (lv_at hl 4 rfl) ?_
                    refine lv_iconst (v := 0) hx hb dX4_readSum_112 (by decide) ?_
                    obtain ⟨S42, hc43, hf⟩ := cv_of hf
                    refine cl_RX4_110 (As := [.int x18, .int (0 : Int32)]) (rest := []) hC hR hS (c_X7_put l G n q40 x18 (0 : Int32) S33 S42 hc43 ok_q40) ok_q40 rfl ⟨Nat.le_trans (show rX7_put.frames + 1 ≤ 1 by decide) (Nat.le_add_left _ _), Nat.le_trans (show 8 + (3 + 11) + rX7_put.locals ≤ 24 by decide) (Nat.le_add_left _ _)⟩ hl.1 rfl (Nat.le_of_ble_eq_true rfl) dX4_readSum_113 (Nat.zero_le _) (Nat.zero_le _) (fun H locs hR hS hE44 => ?_)
                    have ok_this := hE44 _ _ ok_this
                    have ok_q40 := hE44 _ _ ok_q40
                    have hE := hE.tr hE44
                    exact hj116_36 S42 _ _ _ hf hR hS hE ok_this (lv_sub hl [1, 2, 0, 3] rfl)
                refine lv_if_eq (tgt := 89) hx hb dX4_readSum_82 (by decide) (fun hc => ?_) (fun hc => ?_)
                · replace hf := if_t hf hc
                  refine lv_iload hx hb dX4_readSum_89 (lv_at hl 4 rfl) ?_
                  exact hj91_26 x18 S25 _ _ _ hf hR hS hE ok_this (lv_sub hl [0, 1, 3, 4, 5] rfl)
                · replace hf := if_f hf hc
                  refine lv_iload_n hx hb dX4_readSum_85 rfl (lv_at hl 2 rfl) ?_
                  refine lv_goto (tgt := 91) hx hb dX4_readSum_86 (by decide) ?_
                  exact hj91_26 x15 S25 _ _ _ hf hR hS hE ok_this (lv_sub hl [0, 1, 3, 4, 5] rfl)
              refine lv_if_ne (tgt := 80) hx hb dX4_readSum_63 (by decide) (fun hc => ?_) (fun hc => ?_)
              · replace hf := if_f hf hc
                exact hj80_23 S22 _ _ _ hf hR hS hE ok_this (lv_sub hl [1, 2, 3, 4, 5, 0] rfl)
              · replace hf := if_t hf hc
                refine lv_iload_n hx hb dX4_readSum_66 rfl (lv_at hl 3 rfl) ?_
                refine lv_iconst (v := -1) hx hb dX4_readSum_67 (by decide) ?_
                refine lv_icmp_eq (tgt := 80) hx hb dX4_readSum_68 (by decide) (fun hc => ?_) (fun hc => ?_)
                · replace hf := if_t hf hc
                  exact hj80_23 S22 _ _ _ hf hR hS hE ok_this (lv_sub hl [1, 2, 3, 4, 5, 0] rfl)
                · replace hf := if_f hf hc
                  refine lv_aload_n hx hb dX4_readSum_71 rfl (lv_at hl 1 rfl) ?_
                  obtain ⟨q48, hq49, ok_q48, hf⟩ := gR_of hf
                  refine gf_RX4_25 hC hR ok_this hq49 dX4_readSum_72 ?_
                  refine lv_iload_n hx hb dX4_readSum_75 rfl (lv_at hl 3 rfl) ?_
                  refine lv_iconst (v := 0) hx hb dX4_readSum_76 (by decide) ?_
                  obtain ⟨S50, hc51, hf⟩ := cv_of hf
                  refine cl_RX4_110 (As := [.int x15, .int (0 : Int32)]) (rest := []) hC hR hS (c_X7_put l G n q48 x15 (0 : Int32) S22 S50 hc51 ok_q48) ok_q48 rfl ⟨Nat.le_trans (show rX7_put.frames + 1 ≤ 1 by decide) (Nat.le_add_left _ _), Nat.le_trans (show 8 + (3 + 11) + rX7_put.locals ≤ 24 by decide) (Nat.le_add_left _ _)⟩ hl.1 rfl (Nat.le_of_ble_eq_true rfl) dX4_readSum_77 (Nat.zero_le _) (Nat.zero_le _) (fun H locs hR hS hE52 => ?_)
                  have ok_this := hE52 _ _ ok_this
                  have ok_q48 := hE52 _ _ ok_q48
                  have hE := hE.tr hE52
                  exact hj80_23 S50 _ _ _ hf hR hS hE ok_this (lv_sub hl [1, 2, 3, 4, 5, 0] rfl)
            obtain ⟨j54_55, ej54_55, hf⟩ := jn_of1 hf
            have hj54_54 : ∀ (S56 : MS) (H : Heap) (locs : List Loc) (ls : Array Slot), j54_55 S56 = some So → Rp G S56 H → va_S (gA G) s.heap H locs → Ex S S56 → Ok S56 this 4 → lv_has ls 6 [(0, .ref this), (1, .int a1), (2, .int x15), (3, .int x16), (4, .int x18)] → W p l e (rX4_readSum fr lo) s m args below meth c H locs 0 0 (MQ below (Qn G S none So) args s 0 0 (gA G)) (F0 m 54 ls []) := by
              intro S56 H locs ls hf hR hS hE ok_this hl
              rw [ej54_55] at hf
              refine lv_iconst (v := 1) hx hb dX4_readSum_54 (by decide) ?_
              refine lv_goto (tgt := 59) hx hb dX4_readSum_55 (by decide) ?_
              exact hj59_19 (1 : Int32) S56 _ _ _ hf hR hS hE ok_this (lv_sub hl [0, 1, 2, 3, 4] rfl)
            refine lv_icmp_eq (tgt := 54) hx hb dX4_readSum_44 (by decide) (fun hc => ?_) (fun hc => ?_)
            · replace hf := if_t hf hc
              exact hj54_54 S17 _ _ _ hf hR hS hE ok_this (lv_sub hl [1, 2, 3, 4, 0] rfl)
            · replace hf := if_f hf hc
              refine lv_iload hx hb dX4_readSum_47 (lv_at hl 0 rfl) ?_
              refine lv_bipush (v := 31) hx hb dX4_readSum_49 (by decide) ?_
              refine lv_icmp_ne (tgt := 58) hx hb dX4_readSum_51 (by decide) (fun hc => ?_) (fun hc => ?_)
              · replace hf := if_f hf hc
                refine lv_iconst (v := 0) hx hb dX4_readSum_58 (by decide) ?_
                exact hj59_19 (0 : Int32) S17 _ _ _ hf hR hS hE ok_this (lv_sub hl [1, 2, 3, 4, 0] rfl)
              · replace hf := if_t hf hc
                exact hj54_54 S17 _ _ _ hf hR hS hE ok_this (lv_sub hl [1, 2, 3, 4, 0] rfl)
  exact hh60 n (-1 : Int32) (0 : Int32) S1 _ _ _ hf hR hS hE ok_this (lv_sub hl [2, 3, 1, 0] rfl)
def g_X4_readSum (n : Nat) : Nat → Nat → Int32 → MS → Option (MS)
  | 0, _, _, _ => none
  | d + 1, this, a1, S => B_X4_readSum n (B_X4_readOne n (g_X4_readSum n d)) this a1 S
def f_X4_readSum (n : Nat) (this : Nat) (a1 : Int32) (S : MS) : Option (MS) := g_X4_readSum n 12 this a1 S
theorem g_X4_readSum_c (l : Launch) (G : Gx) (n : Nat) : ∀ (d : Nat) (this : Nat) (a1 : Int32) (S : MS) (So : MS), g_X4_readSum n d this a1 S = some So → Ok S this 4 → Cn G l yX4_readSum cX4_readSum 6 none { frames := 3 * d, cells := 0, slots := 0, locals := 68 * d } [.ref this, .int a1] S none So := by
  intro d
  induction d with
  | zero => intro this a1 S So hf; exact absurd hf (by rw [g_X4_readSum]; exact fun h => by cases h)
  | succ d ih =>
    intro this a1 S So hf ok
    rw [g_X4_readSum] at hf
    exact o_X4_readSum l G n (3 * d + 2) (68 * d + 44) _ (fun this b1 S So h o => o_X4_readOne l G n _ _ _ (fun this b1 S So h o => ih this b1 S So h o) this b1 S So h o) this a1 S So hf ok
abbrev rX4_readSum12 : Room := { frames := 36, cells := 0, slots := 0, locals := 816 }
theorem c_X4_readSum (l : Launch) (G : Gx) (n : Nat) (this : Nat) (a1 : Int32) (S : MS) (So : MS) (hf : f_X4_readSum n this a1 S = some So) (ok_this : Ok S this 4) : Cn G l yX4_readSum cX4_readSum 6 none rX4_readSum12 [.ref this, .int a1] S none So := g_X4_readSum_c l G n 12 this a1 S So hf ok_this
abbrev rX4_readAsk : Room := { frames := 37, cells := 0, slots := 0, locals := 841 }
def f_X4_readAsk_L103 (n : Nat) (this : Nat) (x3 : Int32) : Nat → Int32 → MS → Option (MS)
  | 0, _, _ => none
  | k + 1, x25, S26 => jn (f_X4_readAsk_L103 n this x3 k) fun rec103_24 => (if x3 ≤ x25 then some S26 else gR S26 (mR S26 this 3) 7 fun q27 => cv (f_X7_put n q27 (14 : Int32) (0 : Int32) S26) fun S29 => bd (x25 + (1 : Int32)) fun x32 => rec103_24 x32 S29)
def f_X4_readAsk_L2 (n : Nat) (this : Nat) (j27_2 : Int32 → MS → Option (MS)) : Nat → Int32 → MS → Option (MS)
  | 0, _, _ => none
  | k + 1, x55, S56 => jn (f_X4_readAsk_L2 n this j27_2 k) fun rec2_54 => (if (8 : Int32) ≤ x55 then j27_2 x55 S56 else (if (mI S56 this 5) = (14 : Int32) then bd (x55 + (1 : Int32)) fun x57 => cv (f_X4_advance n this S56) fun S58 => rec2_54 x57 S58 else j27_2 x55 S56))
def f_X4_readAsk (n : Nat) (this : Nat) (S : MS) : Option (MS) :=
  jn (fun (x3 : Int32) (S4 : MS) => jn (fun (S7 : MS) => cv (f_X4_readSum n this x3 S7) fun S8 => bd (mI S8 this 5) fun x11 => jn (fun (S14 : MS) => cv (f_X4_readSum n this x3 S14) fun S15 => gR S15 (mR S15 this 3) 7 fun q18 => cv (f_X7_put n q18 x11 (0 : Int32) S15) fun S20 => f_X4_readAsk_L103 n this x3 n (0 : Int32) S20) fun j87_13 => jn (fun (S36 : MS) => cv (f_X4_advance n this S36) fun S37 => j87_13 S37) fun j75_35 => jn (fun (S42 : MS) => (if x11 = (36 : Int32) then j75_35 S42 else (if x11 = (37 : Int32) then j75_35 S42 else cv (f_X4_complain n this (1 : Int32) S42) fun S43 => j87_13 S43))) fun j63_41 => (if x11 < (24 : Int32) then j63_41 S8 else (if x11 ≤ (27 : Int32) then j75_35 S8 else j63_41 S8))) fun j41_6 => (if (mI S4 this 5) = (14 : Int32) then cv (f_X4_complain n this (3 : Int32) S4) fun S49 => j41_6 S49 else j41_6 S4)) fun j27_2 => f_X4_readAsk_L2 n this j27_2 n (0 : Int32) S
set_option maxRecDepth 100000 in
set_option maxHeartbeats 4000000 in
theorem c_X4_readAsk (l : Launch) (G : Gx) (n : Nat) (this : Nat) (S : MS) (So : MS) (hf : f_X4_readAsk n this S = some So) (ok_this : Ok S this 4) : Cn G l yX4_readAsk cX4_readAsk 4 none rX4_readAsk [.ref this] S none So := by
  refine Cn.of (by decide) (Nat.le_of_ble_eq_true rfl) ?_
  intro p e s m args below meth c hC hname hR ls hl
  have hC : Cx G RX4 cX4_readAsk 4 none p s m args meth c := hC
  have hl : lv_has ls 4 [(0, .ref this)] := hl
  have hx := hC.x
  have hb := hC.b
  have hS : va_S (gA G) s.heap s.heap [] := va_S.rf
  have hE : Ex S S := Ex.rf S
  unfold f_X4_readAsk at hf
  refine lv_iconst (v := 0) hx hb dX4_readAsk_0 (by decide) ?_
  refine lv_istore_n (lv' := [(1, .int (0 : Int32)), (0, .ref this)]) hx hb dX4_readAsk_1 rfl hl (by decide) rfl (fun ls hl => ?_)
  obtain ⟨j27_2, ej27_2, hf⟩ := jn_of2 hf
  have hj27_1 : ∀ (x3 : Int32) (S4 : MS) (H : Heap) (locs : List Loc) (ls : Array Slot), j27_2 x3 S4 = some So → Rp G S4 H → va_S (gA G) s.heap H locs → Ex S S4 → Ok S4 this 4 → lv_has ls 4 [(0, .ref this), (1, .int x3)] → W p l e rX4_readAsk s m args below meth c H locs 0 0 (MQ below (Qn G S none So) args s 0 0 (gA G)) (F0 m 27 ls []) := by
    intro x3 S4 H locs ls hf hR hS hE ok_this hl
    rw [ej27_2] at hf
    refine lv_aload_n hx hb dX4_readAsk_27 rfl (lv_at hl 0 rfl) ?_
    refine gf_RX4_45 hC hR ok_this dX4_readAsk_28 ?_
    refine lv_bipush (v := 14) hx hb dX4_readAsk_31 (by decide) ?_
    obtain ⟨j41_6, ej41_6, hf⟩ := jn_of1 hf
    have hj41_5 : ∀ (S7 : MS) (H : Heap) (locs : List Loc) (ls : Array Slot), j41_6 S7 = some So → Rp G S7 H → va_S (gA G) s.heap H locs → Ex S S7 → Ok S7 this 4 → lv_has ls 4 [(0, .ref this), (1, .int x3)] → W p l e rX4_readAsk s m args below meth c H locs 0 0 (MQ below (Qn G S none So) args s 0 0 (gA G)) (F0 m 41 ls []) := by
      intro S7 H locs ls hf hR hS hE ok_this hl
      rw [ej41_6] at hf
      refine lv_aload_n hx hb dX4_readAsk_41 rfl (lv_at hl 0 rfl) ?_
      refine lv_iload_n hx hb dX4_readAsk_42 rfl (lv_at hl 1 rfl) ?_
      obtain ⟨S8, hc9, hf⟩ := cv_of hf
      refine cl_RX4_88 (As := [.int x3]) (rest := []) hC hR hS (c_X4_readSum l G n this x3 S7 S8 hc9 ok_this) ok_this rfl ⟨Nat.le_of_ble_eq_true rfl, Nat.le_of_ble_eq_true rfl⟩ hl.1 rfl (Nat.le_of_ble_eq_true rfl) dX4_readAsk_43 (Nat.zero_le _) (Nat.zero_le _) (fun H locs hR hS hE10 => ?_)
      have ok_this := hE10 _ _ ok_this
      have hE := hE.tr hE10
      refine lv_aload_n hx hb dX4_readAsk_46 rfl (lv_at hl 0 rfl) ?_
      refine gf_RX4_45 hC hR ok_this dX4_readAsk_47 ?_
      refine bdi hf (fun x11 hf => ?_)
      refine lv_istore_n (lv' := [(2, .int x11), (0, .ref this), (1, .int x3)]) hx hb dX4_readAsk_50 rfl hl (by decide) rfl (fun ls hl => ?_)
      refine lv_iload_n hx hb dX4_readAsk_51 rfl (lv_at hl 0 rfl) ?_
      refine lv_bipush (v := 24) hx hb dX4_readAsk_52 (by decide) ?_
      obtain ⟨j87_13, ej87_13, hf⟩ := jn_of1 hf
      have hj87_12 : ∀ (S14 : MS) (H : Heap) (locs : List Loc) (ls : Array Slot), j87_13 S14 = some So → Rp G S14 H → va_S (gA G) s.heap H locs → Ex S S14 → Ok S14 this 4 → lv_has ls 4 [(0, .ref this), (1, .int x3), (2, .int x11)] → W p l e rX4_readAsk s m args below meth c H locs 0 0 (MQ below (Qn G S none So) args s 0 0 (gA G)) (F0 m 87 ls []) := by
        intro S14 H locs ls hf hR hS hE ok_this hl
        rw [ej87_13] at hf
        refine lv_aload_n hx hb dX4_readAsk_87 rfl (lv_at hl 0 rfl) ?_
        refine lv_iload_n hx hb dX4_readAsk_88 rfl (lv_at hl 1 rfl) ?_
        obtain ⟨S15, hc16, hf⟩ := cv_of hf
        refine cl_RX4_88 (As := [.int x3]) (rest := []) hC hR hS (c_X4_readSum l G n this x3 S14 S15 hc16 ok_this) ok_this rfl ⟨Nat.le_of_ble_eq_true rfl, Nat.le_of_ble_eq_true rfl⟩ hl.1 rfl (Nat.le_of_ble_eq_true rfl) dX4_readAsk_89 (Nat.zero_le _) (Nat.zero_le _) (fun H locs hR hS hE17 => ?_)
        have ok_this := hE17 _ _ ok_this
        have hE := hE.tr hE17
        refine lv_aload_n hx hb dX4_readAsk_92 rfl (lv_at hl 0 rfl) ?_
        obtain ⟨q18, hq19, ok_q18, hf⟩ := gR_of hf
        refine gf_RX4_25 hC hR ok_this hq19 dX4_readAsk_93 ?_
        refine lv_iload_n hx hb dX4_readAsk_96 rfl (lv_at hl 2 rfl) ?_
        refine lv_iconst (v := 0) hx hb dX4_readAsk_97 (by decide) ?_
        obtain ⟨S20, hc21, hf⟩ := cv_of hf
        refine cl_RX4_110 (As := [.int x11, .int (0 : Int32)]) (rest := []) hC hR hS (c_X7_put l G n q18 x11 (0 : Int32) S15 S20 hc21 ok_q18) ok_q18 rfl ⟨Nat.le_of_ble_eq_true rfl, Nat.le_of_ble_eq_true rfl⟩ hl.1 rfl (Nat.le_of_ble_eq_true rfl) dX4_readAsk_98 (Nat.zero_le _) (Nat.zero_le _) (fun H locs hR hS hE22 => ?_)
        have ok_this := hE22 _ _ ok_this
        have ok_q18 := hE22 _ _ ok_q18
        have hE := hE.tr hE22
        refine lv_iconst (v := 0) hx hb dX4_readAsk_101 (by decide) ?_
        refine lv_istore_n (lv' := [(3, .int (0 : Int32)), (0, .ref this), (1, .int x3), (2, .int x11)]) hx hb dX4_readAsk_102 rfl hl (by decide) rfl (fun ls hl => ?_)
        have hh33 : ∀ k : Nat, ∀ (x25 : Int32) (S26 : MS) (H : Heap) (locs : List Loc) (ls : Array Slot), f_X4_readAsk_L103 n this x3 k x25 S26 = some So → Rp G S26 H → va_S (gA G) s.heap H locs → Ex S S26 → Ok S26 this 4 → lv_has ls 4 [(0, .ref this), (1, .int x3), (3, .int x25)] → W p l e rX4_readAsk s m args below meth c H locs 0 0 (MQ below (Qn G S none So) args s 0 0 (gA G)) (F0 m 103 ls []) := by
          intro k
          induction k with
          | zero =>
            intro x25 S26 H locs ls hf hR hS hE ok_this hl
            exact absurd hf (by rw [f_X4_readAsk_L103]; exact fun h => by cases h)
          | succ k ih =>
            intro x25 S26 H locs ls hf hR hS hE ok_this hl
            rw [f_X4_readAsk_L103] at hf
            obtain ⟨rec103_24, erec103_24, hf⟩ := jn_of2 hf
            have hL103_23 : ∀ (x25 : Int32) (S26 : MS) (H : Heap) (locs : List Loc) (ls : Array Slot), rec103_24 x25 S26 = some So → Rp G S26 H → va_S (gA G) s.heap H locs → Ex S S26 → Ok S26 this 4 → lv_has ls 4 [(0, .ref this), (1, .int x3), (3, .int x25)] → W p l e rX4_readAsk s m args below meth c H locs 0 0 (MQ below (Qn G S none So) args s 0 0 (gA G)) (F0 m 103 ls []) := by
              intro x25 S26 H locs ls hf hR hS hE ok_this hl
              rw [erec103_24] at hf
              exact ih x25 S26 _ _ _ hf hR hS hE ok_this hl
            refine lv_iload_n hx hb dX4_readAsk_103 rfl (lv_at hl 2 rfl) ?_
            refine lv_iload_n hx hb dX4_readAsk_104 rfl (lv_at hl 1 rfl) ?_
            refine lv_icmp_ge (tgt := 124) hx hb dX4_readAsk_105 (by decide) (fun hc => ?_) (fun hc => ?_)
            · replace hf := if_t hf hc
              exact r_vret hC hR hS hE hf dX4_readAsk_124
            · replace hf := if_f hf hc
              refine lv_aload_n hx hb dX4_readAsk_108 rfl (lv_at hl 0 rfl) ?_
              obtain ⟨q27, hq28, ok_q27, hf⟩ := gR_of hf
              refine gf_RX4_25 hC hR ok_this hq28 dX4_readAsk_109 ?_
              refine lv_bipush (v := 14) hx hb dX4_readAsk_112 (by decide) ?_
              refine lv_iconst (v := 0) hx hb dX4_readAsk_114 (by decide) ?_
              obtain ⟨S29, hc30, hf⟩ := cv_of hf
              refine cl_RX4_110 (As := [.int (14 : Int32), .int (0 : Int32)]) (rest := []) hC hR hS (c_X7_put l G n q27 (14 : Int32) (0 : Int32) S26 S29 hc30 ok_q27) ok_q27 rfl ⟨Nat.le_of_ble_eq_true rfl, Nat.le_of_ble_eq_true rfl⟩ hl.1 rfl (Nat.le_of_ble_eq_true rfl) dX4_readAsk_115 (Nat.zero_le _) (Nat.zero_le _) (fun H locs hR hS hE31 => ?_)
              have ok_this := hE31 _ _ ok_this
              have ok_q27 := hE31 _ _ ok_q27
              have hE := hE.tr hE31
              refine r_iinc (n := 1) (z := 1) (lv' := fun x32 => [(3, .int x32), (0, .ref this), (1, .int x3)]) hx hb dX4_readAsk_118 hl (k := 2) rfl (by decide) (by decide) (fun _ => rfl) hf (fun x32 ls hf hl => ?_)
              refine lv_goto (tgt := 103) hx hb dX4_readAsk_121 (by decide) ?_
              exact hL103_23 x32 S29 _ _ _ hf hR hS hE ok_this (lv_sub hl [1, 2, 0] rfl)
        exact hh33 n (0 : Int32) S20 _ _ _ hf hR hS hE ok_this (lv_sub hl [1, 2, 0] rfl)
      obtain ⟨j75_35, ej75_35, hf⟩ := jn_of1 hf
      have hj75_34 : ∀ (S36 : MS) (H : Heap) (locs : List Loc) (ls : Array Slot), j75_35 S36 = some So → Rp G S36 H → va_S (gA G) s.heap H locs → Ex S S36 → Ok S36 this 4 → lv_has ls 4 [(0, .ref this), (1, .int x3), (2, .int x11)] → W p l e rX4_readAsk s m args below meth c H locs 0 0 (MQ below (Qn G S none So) args s 0 0 (gA G)) (F0 m 75 ls []) := by
        intro S36 H locs ls hf hR hS hE ok_this hl
        rw [ej75_35] at hf
        refine lv_aload_n hx hb dX4_readAsk_75 rfl (lv_at hl 0 rfl) ?_
        obtain ⟨S37, hc38, hf⟩ := cv_of hf
        refine cl_RX4_51 (As := []) (rest := []) hC hR hS (c_X4_advance l G n this S36 S37 hc38 ok_this) ok_this rfl ⟨Nat.le_of_ble_eq_true rfl, Nat.le_of_ble_eq_true rfl⟩ hl.1 rfl (Nat.le_of_ble_eq_true rfl) dX4_readAsk_76 (Nat.zero_le _) (Nat.zero_le _) (fun H locs hR hS hE39 => ?_)
        have ok_this := hE39 _ _ ok_this
        have hE := hE.tr hE39
        refine lv_goto (tgt := 87) hx hb dX4_readAsk_79 (by decide) ?_
        exact hj87_12 S37 _ _ _ hf hR hS hE ok_this (lv_sub hl [0, 1, 2] rfl)
      obtain ⟨j63_41, ej63_41, hf⟩ := jn_of1 hf
      have hj63_40 : ∀ (S42 : MS) (H : Heap) (locs : List Loc) (ls : Array Slot), j63_41 S42 = some So → Rp G S42 H → va_S (gA G) s.heap H locs → Ex S S42 → Ok S42 this 4 → lv_has ls 4 [(0, .ref this), (1, .int x3), (2, .int x11)] → W p l e rX4_readAsk s m args below meth c H locs 0 0 (MQ below (Qn G S none So) args s 0 0 (gA G)) (F0 m 63 ls []) := by
        intro S42 H locs ls hf hR hS hE ok_this hl
        rw [ej63_41] at hf
        refine lv_iload_n hx hb dX4_readAsk_63 rfl (lv_at hl 2 rfl) ?_
        refine lv_bipush (v := 36) hx hb dX4_readAsk_64 (by decide) ?_
        refine lv_icmp_eq (tgt := 75) hx hb dX4_readAsk_66 (by decide) (fun hc => ?_) (fun hc => ?_)
        · replace hf := if_t hf hc
          exact hj75_34 S42 _ _ _ hf hR hS hE ok_this (lv_sub hl [0, 1, 2] rfl)
        · replace hf := if_f hf hc
          refine lv_iload_n hx hb dX4_readAsk_69 rfl (lv_at hl 2 rfl) ?_
          refine lv_bipush (v := 37) hx hb dX4_readAsk_70 (by decide) ?_
          refine lv_icmp_ne (tgt := 82) hx hb dX4_readAsk_72 (by decide) (fun hc => ?_) (fun hc => ?_)
          · replace hf := if_f hf hc
            refine lv_aload_n hx hb dX4_readAsk_82 rfl (lv_at hl 0 rfl) ?_
            refine lv_iconst (v := 1) hx hb dX4_readAsk_83 (by decide) ?_
            obtain ⟨S43, hc44, hf⟩ := cv_of hf
            refine cl_RX4_54 (As := [.int (1 : Int32)]) (rest := []) hC hR hS (c_X4_complain l G n this (1 : Int32) S42 S43 hc44 ok_this) ok_this rfl ⟨Nat.le_of_ble_eq_true rfl, Nat.le_of_ble_eq_true rfl⟩ hl.1 rfl (Nat.le_of_ble_eq_true rfl) dX4_readAsk_84 (Nat.zero_le _) (Nat.zero_le _) (fun H locs hR hS hE45 => ?_)
            have ok_this := hE45 _ _ ok_this
            have hE := hE.tr hE45
            exact hj87_12 S43 _ _ _ hf hR hS hE ok_this (lv_sub hl [0, 1, 2] rfl)
          · replace hf := if_t hf hc
            exact hj75_34 S42 _ _ _ hf hR hS hE ok_this (lv_sub hl [0, 1, 2] rfl)
      refine lv_icmp_lt (tgt := 63) hx hb dX4_readAsk_54 (by decide) (fun hc => ?_) (fun hc => ?_)
      · replace hf := if_t hf hc
        exact hj63_40 S8 _ _ _ hf hR hS hE ok_this (lv_sub hl [1, 2, 0] rfl)
      · replace hf := if_f hf hc
        refine lv_iload_n hx hb dX4_readAsk_57 rfl (lv_at hl 0 rfl) ?_
        refine lv_bipush (v := 27) hx hb dX4_readAsk_58 (by decide) ?_
        refine lv_icmp_le (tgt := 75) hx hb dX4_readAsk_60 (by decide) (fun hc => ?_) (fun hc => ?_)
        · replace hf := if_t hf hc
          exact hj75_34 S8 _ _ _ hf hR hS hE ok_this (lv_sub hl [1, 2, 0] rfl)
        · replace hf := if_f hf hc
          exact hj63_40 S8 _ _ _ hf hR hS hE ok_this (lv_sub hl [1, 2, 0] rfl)
    refine lv_icmp_ne (tgt := 41) hx hb dX4_readAsk_33 (by decide) (fun hc => ?_) (fun hc => ?_)
    · replace hf := if_f hf hc
      exact hj41_5 S4 _ _ _ hf hR hS hE ok_this (lv_sub hl [0, 1] rfl)
    · replace hf := if_t hf hc
      refine lv_aload_n hx hb dX4_readAsk_36 rfl (lv_at hl 0 rfl) ?_
      refine lv_iconst (v := 3) hx hb dX4_readAsk_37 (by decide) ?_
      obtain ⟨S49, hc50, hf⟩ := cv_of hf
      refine cl_RX4_54 (As := [.int (3 : Int32)]) (rest := []) hC hR hS (c_X4_complain l G n this (3 : Int32) S4 S49 hc50 ok_this) ok_this rfl ⟨Nat.le_of_ble_eq_true rfl, Nat.le_of_ble_eq_true rfl⟩ hl.1 rfl (Nat.le_of_ble_eq_true rfl) dX4_readAsk_38 (Nat.zero_le _) (Nat.zero_le _) (fun H locs hR hS hE51 => ?_)
      have ok_this := hE51 _ _ ok_this
      have hE := hE.tr hE51
      exact hj41_5 S49 _ _ _ hf hR hS hE ok_this (lv_sub hl [0, 1] rfl)
  have hh61 : ∀ k : Nat, ∀ (x55 : Int32) (S56 : MS) (H : Heap) (locs : List Loc) (ls : Array Slot), f_X4_readAsk_L2 n this j27_2 k x55 S56 = some So → Rp G S56 H → va_S (gA G) s.heap H locs → Ex S S56 → Ok S56 this 4 → lv_has ls 4 [(0, .ref this), (1, .int x55)] → W p l e rX4_readAsk s m args below meth c H locs 0 0 (MQ below (Qn G S none So) args s 0 0 (gA G)) (F0 m 2 ls []) := by
    intro k
    induction k with
    | zero =>
      intro x55 S56 H locs ls hf hR hS hE ok_this hl
      exact absurd hf (by rw [f_X4_readAsk_L2]; exact fun h => by cases h)
    | succ k ih =>
      intro x55 S56 H locs ls hf hR hS hE ok_this hl
      rw [f_X4_readAsk_L2] at hf
      obtain ⟨rec2_54, erec2_54, hf⟩ := jn_of2 hf
      have hL2_53 : ∀ (x55 : Int32) (S56 : MS) (H : Heap) (locs : List Loc) (ls : Array Slot), rec2_54 x55 S56 = some So → Rp G S56 H → va_S (gA G) s.heap H locs → Ex S S56 → Ok S56 this 4 → lv_has ls 4 [(0, .ref this), (1, .int x55)] → W p l e rX4_readAsk s m args below meth c H locs 0 0 (MQ below (Qn G S none So) args s 0 0 (gA G)) (F0 m 2 ls []) := by
        intro x55 S56 H locs ls hf hR hS hE ok_this hl
        rw [erec2_54] at hf
        exact ih x55 S56 _ _ _ hf hR hS hE ok_this hl
      refine lv_iload_n hx hb dX4_readAsk_2 rfl (lv_at hl 1 rfl) ?_
      refine lv_bipush (v := 8) hx hb dX4_readAsk_3 (by decide) ?_
      refine lv_icmp_ge (tgt := 27) hx hb dX4_readAsk_5 (by decide) (fun hc => ?_) (fun hc => ?_)
      · replace hf := if_t hf hc
        exact hj27_1 x55 S56 _ _ _ hf hR hS hE ok_this (lv_sub hl [0, 1] rfl)
      · replace hf := if_f hf hc
        refine lv_aload_n hx hb dX4_readAsk_8 rfl (lv_at hl 0 rfl) ?_
        refine gf_RX4_45 hC hR ok_this dX4_readAsk_9 ?_
        refine lv_bipush (v := 14) hx hb dX4_readAsk_12 (by decide) ?_
        refine lv_icmp_ne (tgt := 27) hx hb dX4_readAsk_14 (by decide) (fun hc => ?_) (fun hc => ?_)
        · replace hf := if_f hf hc
          exact hj27_1 x55 S56 _ _ _ hf hR hS hE ok_this (lv_sub hl [0, 1] rfl)
        · replace hf := if_t hf hc
          refine r_iinc (n := 1) (z := 1) (lv' := fun x57 => [(1, .int x57), (0, .ref this)]) hx hb dX4_readAsk_17 hl (k := 1) rfl (by decide) (by decide) (fun _ => rfl) hf (fun x57 ls hf hl => ?_)
          refine lv_aload_n hx hb dX4_readAsk_20 rfl (lv_at hl 1 rfl) ?_
          obtain ⟨S58, hc59, hf⟩ := cv_of hf
          refine cl_RX4_51 (As := []) (rest := []) hC hR hS (c_X4_advance l G n this S56 S58 hc59 ok_this) ok_this rfl ⟨Nat.le_of_ble_eq_true rfl, Nat.le_of_ble_eq_true rfl⟩ hl.1 rfl (Nat.le_of_ble_eq_true rfl) dX4_readAsk_21 (Nat.zero_le _) (Nat.zero_le _) (fun H locs hR hS hE60 => ?_)
          have ok_this := hE60 _ _ ok_this
          have hE := hE.tr hE60
          refine lv_goto (tgt := 2) hx hb dX4_readAsk_24 (by decide) ?_
          exact hL2_53 x57 S58 _ _ _ hf hR hS hE ok_this (lv_sub hl [1, 0] rfl)
  exact hh61 n (0 : Int32) S _ _ _ hf hR hS hE ok_this (lv_sub hl [1, 0] rfl)
abbrev rX4_readEither : Room := { frames := 38, cells := 0, slots := 0, locals := 864 }
def f_X4_readEither_L8 (n : Nat) (this : Nat) (j108_5 : Int32 → MS → Option (MS)) : Nat → Int32 → Int32 → MS → Option (MS)
  | 0, _, _, _ => none
  | k + 1, x15, x16, S17 => jn (f_X4_readEither_L8 n this j108_5 k) fun rec8_14 => (if (300 : Int32) ≤ x16 then j108_5 x15 S17 else jn (fun (S20 : MS) => jn (fun (x23 : Int32) (S24 : MS) => jn (fun (S27 : MS) => jn (fun (x30 : Int32) (S31 : MS) => cv (f_X4_advance n this S31) fun S32 => cv (f_X4_readAsk n this S32) fun S35 => jn (fun (S40 : MS) => bd (x16 + (1 : Int32)) fun x41 => rec8_14 x30 x41 S40) fun j102_39 => (if x23 = 0 then j102_39 S35 else gR S35 (mR S35 this 3) 7 fun q42 => cv (f_X7_put n q42 (15 : Int32) (0 : Int32) S35) fun S44 => j102_39 S44)) fun j79_29 => jn (fun (S50 : MS) => j79_29 (1 : Int32) S50) fun j74_49 => (if x15 = 0 then (if x23 = 0 then j74_49 S27 else j79_29 (0 : Int32) S27) else j74_49 S27)) fun j66_26 => (if x23 = 0 then (if x15 = 0 then j66_26 S24 else gR S24 (mR S24 this 3) 7 fun q54 => cv (f_X7_put n q54 (16 : Int32) (0 : Int32) S24) fun S56 => j66_26 S56) else j66_26 S24)) fun j47_22 => (if (mI S20 this 5) = (15 : Int32) then j47_22 (1 : Int32) S20 else j47_22 (0 : Int32) S20)) fun j33_19 => (if (mI S17 this 5) = (15 : Int32) then j33_19 S17 else (if (mI S17 this 5) = (16 : Int32) then j33_19 S17 else j108_5 x15 S17)))
def f_X4_readEither (n : Nat) (this : Nat) (S : MS) : Option (MS) :=
  cv (f_X4_readAsk n this S) fun S1 => jn (fun (x6 : Int32) (S7 : MS) => (if x6 = 0 then some S7 else gR S7 (mR S7 this 3) 7 fun q8 => cv (f_X7_put n q8 (16 : Int32) (0 : Int32) S7) fun S10 => some S10)) fun j108_5 => f_X4_readEither_L8 n this j108_5 n (0 : Int32) (0 : Int32) S1
set_option maxRecDepth 100000 in
set_option maxHeartbeats 4000000 in
theorem c_X4_readEither (l : Launch) (G : Gx) (n : Nat) (this : Nat) (S : MS) (So : MS) (hf : f_X4_readEither n this S = some So) (ok_this : Ok S this 4) : Cn G l yX4_readEither cX4_readEither 4 none rX4_readEither [.ref this] S none So := by
  refine Cn.of (by decide) (Nat.le_of_ble_eq_true rfl) ?_
  intro p e s m args below meth c hC hname hR ls hl
  have hC : Cx G RX4 cX4_readEither 4 none p s m args meth c := hC
  have hl : lv_has ls 4 [(0, .ref this)] := hl
  have hx := hC.x
  have hb := hC.b
  have hS : va_S (gA G) s.heap s.heap [] := va_S.rf
  have hE : Ex S S := Ex.rf S
  unfold f_X4_readEither at hf
  refine lv_iconst (v := 0) hx hb dX4_readEither_0 (by decide) ?_
  refine lv_istore_n (lv' := [(1, .int (0 : Int32)), (0, .ref this)]) hx hb dX4_readEither_1 rfl hl (by decide) rfl (fun ls hl => ?_)
  refine lv_aload_n hx hb dX4_readEither_2 rfl (lv_at hl 1 rfl) ?_
  obtain ⟨S1, hc2, hf⟩ := cv_of hf
  refine cl_RX4_107 (As := []) (rest := []) hC hR hS (c_X4_readAsk l G n this S S1 hc2 ok_this) ok_this rfl ⟨Nat.le_of_ble_eq_true rfl, Nat.le_of_ble_eq_true rfl⟩ hl.1 rfl (Nat.le_of_ble_eq_true rfl) dX4_readEither_3 (Nat.zero_le _) (Nat.zero_le _) (fun H locs hR hS hE3 => ?_)
  have ok_this := hE3 _ _ ok_this
  have hE := hE.tr hE3
  refine lv_iconst (v := 0) hx hb dX4_readEither_6 (by decide) ?_
  refine lv_istore_n (lv' := [(2, .int (0 : Int32)), (1, .int (0 : Int32)), (0, .ref this)]) hx hb dX4_readEither_7 rfl hl (by decide) rfl (fun ls hl => ?_)
  obtain ⟨j108_5, ej108_5, hf⟩ := jn_of2 hf
  have hj108_4 : ∀ (x6 : Int32) (S7 : MS) (H : Heap) (locs : List Loc) (ls : Array Slot), j108_5 x6 S7 = some So → Rp G S7 H → va_S (gA G) s.heap H locs → Ex S S7 → Ok S7 this 4 → lv_has ls 4 [(0, .ref this), (1, .int x6)] → W p l e rX4_readEither s m args below meth c H locs 0 0 (MQ below (Qn G S none So) args s 0 0 (gA G)) (F0 m 108 ls []) := by
    intro x6 S7 H locs ls hf hR hS hE ok_this hl
    rw [ej108_5] at hf
    refine lv_iload_n hx hb dX4_readEither_108 rfl (lv_at hl 1 rfl) ?_
    refine lv_if_eq (tgt := 122) hx hb dX4_readEither_109 (by decide) (fun hc => ?_) (fun hc => ?_)
    · replace hf := if_t hf hc
      exact r_vret hC hR hS hE hf dX4_readEither_122
    · replace hf := if_f hf hc
      refine lv_aload_n hx hb dX4_readEither_112 rfl (lv_at hl 0 rfl) ?_
      obtain ⟨q8, hq9, ok_q8, hf⟩ := gR_of hf
      refine gf_RX4_25 hC hR ok_this hq9 dX4_readEither_113 ?_
      refine lv_bipush (v := 16) hx hb dX4_readEither_116 (by decide) ?_
      refine lv_iconst (v := 0) hx hb dX4_readEither_118 (by decide) ?_
      obtain ⟨S10, hc11, hf⟩ := cv_of hf
      refine cl_RX4_110 (As := [.int (16 : Int32), .int (0 : Int32)]) (rest := []) hC hR hS (c_X7_put l G n q8 (16 : Int32) (0 : Int32) S7 S10 hc11 ok_q8) ok_q8 rfl ⟨Nat.le_of_ble_eq_true rfl, Nat.le_of_ble_eq_true rfl⟩ hl.1 rfl (Nat.le_of_ble_eq_true rfl) dX4_readEither_119 (Nat.zero_le _) (Nat.zero_le _) (fun H locs hR hS hE12 => ?_)
      have ok_this := hE12 _ _ ok_this
      have ok_q8 := hE12 _ _ ok_q8
      have hE := hE.tr hE12
      exact r_vret hC hR hS hE hf dX4_readEither_122
  have hh63 : ∀ k : Nat, ∀ (x15 : Int32) (x16 : Int32) (S17 : MS) (H : Heap) (locs : List Loc) (ls : Array Slot), f_X4_readEither_L8 n this j108_5 k x15 x16 S17 = some So → Rp G S17 H → va_S (gA G) s.heap H locs → Ex S S17 → Ok S17 this 4 → lv_has ls 4 [(0, .ref this), (1, .int x15), (2, .int x16)] → W p l e rX4_readEither s m args below meth c H locs 0 0 (MQ below (Qn G S none So) args s 0 0 (gA G)) (F0 m 8 ls []) := by
    intro k
    induction k with
    | zero =>
      intro x15 x16 S17 H locs ls hf hR hS hE ok_this hl
      exact absurd hf (by rw [f_X4_readEither_L8]; exact fun h => by cases h)
    | succ k ih =>
      intro x15 x16 S17 H locs ls hf hR hS hE ok_this hl
      rw [f_X4_readEither_L8] at hf
      obtain ⟨rec8_14, erec8_14, hf⟩ := jn_of3 hf
      have hL8_13 : ∀ (x15 : Int32) (x16 : Int32) (S17 : MS) (H : Heap) (locs : List Loc) (ls : Array Slot), rec8_14 x15 x16 S17 = some So → Rp G S17 H → va_S (gA G) s.heap H locs → Ex S S17 → Ok S17 this 4 → lv_has ls 4 [(0, .ref this), (1, .int x15), (2, .int x16)] → W p l e rX4_readEither s m args below meth c H locs 0 0 (MQ below (Qn G S none So) args s 0 0 (gA G)) (F0 m 8 ls []) := by
        intro x15 x16 S17 H locs ls hf hR hS hE ok_this hl
        rw [erec8_14] at hf
        exact ih x15 x16 S17 _ _ _ hf hR hS hE ok_this hl
      refine lv_iload_n hx hb dX4_readEither_8 rfl (lv_at hl 2 rfl) ?_
      refine lv_sipush (v := 300) hx hb dX4_readEither_9 (by decide) ?_
      refine lv_icmp_ge (tgt := 108) hx hb dX4_readEither_12 (by decide) (fun hc => ?_) (fun hc => ?_)
      · replace hf := if_t hf hc
        exact hj108_4 x15 S17 _ _ _ hf hR hS hE ok_this (lv_sub hl [0, 1] rfl)
      · replace hf := if_f hf hc
        refine lv_aload_n hx hb dX4_readEither_15 rfl (lv_at hl 0 rfl) ?_
        refine gf_RX4_45 hC hR ok_this dX4_readEither_16 ?_
        refine lv_bipush (v := 15) hx hb dX4_readEither_19 (by decide) ?_
        obtain ⟨j33_19, ej33_19, hf⟩ := jn_of1 hf
        have hj33_18 : ∀ (S20 : MS) (H : Heap) (locs : List Loc) (ls : Array Slot), j33_19 S20 = some So → Rp G S20 H → va_S (gA G) s.heap H locs → Ex S S20 → Ok S20 this 4 → lv_has ls 4 [(0, .ref this), (1, .int x15), (2, .int x16)] → W p l e rX4_readEither s m args below meth c H locs 0 0 (MQ below (Qn G S none So) args s 0 0 (gA G)) (F0 m 33 ls []) := by
          intro S20 H locs ls hf hR hS hE ok_this hl
          rw [ej33_19] at hf
          refine lv_aload_n hx hb dX4_readEither_33 rfl (lv_at hl 0 rfl) ?_
          refine gf_RX4_45 hC hR ok_this dX4_readEither_34 ?_
          refine lv_bipush (v := 15) hx hb dX4_readEither_37 (by decide) ?_
          obtain ⟨j47_22, ej47_22, hf⟩ := jn_of2 hf
          have hj47_21 : ∀ (x23 : Int32) (S24 : MS) (H : Heap) (locs : List Loc) (ls : Array Slot), j47_22 x23 S24 = some So → Rp G S24 H → va_S (gA G) s.heap H locs → Ex S S24 → Ok S24 this 4 → lv_has ls 4 [(0, .ref this), (1, .int x15), (2, .int x16)] → W p l e rX4_readEither s m args below meth c H locs 0 0 (MQ below (Qn G S none So) args s 0 0 (gA G)) (F0 m 47 ls [.int x23]) := by
            intro x23 S24 H locs ls hf hR hS hE ok_this hl
            rw [ej47_22] at hf
            refine lv_istore_n (lv' := [(3, .int x23), (0, .ref this), (1, .int x15), (2, .int x16)]) hx hb dX4_readEither_47 rfl hl (by decide) rfl (fun ls hl => ?_)
            refine lv_iload_n hx hb dX4_readEither_48 rfl (lv_at hl 0 rfl) ?_
            obtain ⟨j66_26, ej66_26, hf⟩ := jn_of1 hf
            have hj66_25 : ∀ (S27 : MS) (H : Heap) (locs : List Loc) (ls : Array Slot), j66_26 S27 = some So → Rp G S27 H → va_S (gA G) s.heap H locs → Ex S S27 → Ok S27 this 4 → lv_has ls 4 [(0, .ref this), (1, .int x15), (2, .int x16), (3, .int x23)] → W p l e rX4_readEither s m args below meth c H locs 0 0 (MQ below (Qn G S none So) args s 0 0 (gA G)) (F0 m 66 ls []) := by
              intro S27 H locs ls hf hR hS hE ok_this hl
              rw [ej66_26] at hf
              refine lv_iload_n hx hb dX4_readEither_66 rfl (lv_at hl 1 rfl) ?_
              obtain ⟨j79_29, ej79_29, hf⟩ := jn_of2 hf
              have hj79_28 : ∀ (x30 : Int32) (S31 : MS) (H : Heap) (locs : List Loc) (ls : Array Slot), j79_29 x30 S31 = some So → Rp G S31 H → va_S (gA G) s.heap H locs → Ex S S31 → Ok S31 this 4 → lv_has ls 4 [(0, .ref this), (2, .int x16), (3, .int x23)] → W p l e rX4_readEither s m args below meth c H locs 0 0 (MQ below (Qn G S none So) args s 0 0 (gA G)) (F0 m 79 ls [.int x30]) := by
                intro x30 S31 H locs ls hf hR hS hE ok_this hl
                rw [ej79_29] at hf
                refine lv_istore_n (lv' := [(1, .int x30), (0, .ref this), (2, .int x16), (3, .int x23)]) hx hb dX4_readEither_79 rfl hl (by decide) rfl (fun ls hl => ?_)
                refine lv_aload_n hx hb dX4_readEither_80 rfl (lv_at hl 1 rfl) ?_
                obtain ⟨S32, hc33, hf⟩ := cv_of hf
                refine cl_RX4_51 (As := []) (rest := []) hC hR hS (c_X4_advance l G n this S31 S32 hc33 ok_this) ok_this rfl ⟨Nat.le_of_ble_eq_true rfl, Nat.le_of_ble_eq_true rfl⟩ hl.1 rfl (Nat.le_of_ble_eq_true rfl) dX4_readEither_81 (Nat.zero_le _) (Nat.zero_le _) (fun H locs hR hS hE34 => ?_)
                have ok_this := hE34 _ _ ok_this
                have hE := hE.tr hE34
                refine lv_aload_n hx hb dX4_readEither_84 rfl (lv_at hl 1 rfl) ?_
                obtain ⟨S35, hc36, hf⟩ := cv_of hf
                refine cl_RX4_107 (As := []) (rest := []) hC hR hS (c_X4_readAsk l G n this S32 S35 hc36 ok_this) ok_this rfl ⟨Nat.le_of_ble_eq_true rfl, Nat.le_of_ble_eq_true rfl⟩ hl.1 rfl (Nat.le_of_ble_eq_true rfl) dX4_readEither_85 (Nat.zero_le _) (Nat.zero_le _) (fun H locs hR hS hE37 => ?_)
                have ok_this := hE37 _ _ ok_this
                have hE := hE.tr hE37
                refine lv_iload_n hx hb dX4_readEither_88 rfl (lv_at hl 3 rfl) ?_
                obtain ⟨j102_39, ej102_39, hf⟩ := jn_of1 hf
                have hj102_38 : ∀ (S40 : MS) (H : Heap) (locs : List Loc) (ls : Array Slot), j102_39 S40 = some So → Rp G S40 H → va_S (gA G) s.heap H locs → Ex S S40 → Ok S40 this 4 → lv_has ls 4 [(0, .ref this), (1, .int x30), (2, .int x16)] → W p l e rX4_readEither s m args below meth c H locs 0 0 (MQ below (Qn G S none So) args s 0 0 (gA G)) (F0 m 102 ls []) := by
                  intro S40 H locs ls hf hR hS hE ok_this hl
                  rw [ej102_39] at hf
                  refine r_iinc (n := 1) (z := 1) (lv' := fun x41 => [(2, .int x41), (0, .ref this), (1, .int x30)]) hx hb dX4_readEither_102 hl (k := 2) rfl (by decide) (by decide) (fun _ => rfl) hf (fun x41 ls hf hl => ?_)
                  refine lv_goto (tgt := 8) hx hb dX4_readEither_105 (by decide) ?_
                  exact hL8_13 x30 x41 S40 _ _ _ hf hR hS hE ok_this (lv_sub hl [1, 2, 0] rfl)
                refine lv_if_eq (tgt := 102) hx hb dX4_readEither_89 (by decide) (fun hc => ?_) (fun hc => ?_)
                · replace hf := if_t hf hc
                  exact hj102_38 S35 _ _ _ hf hR hS hE ok_this (lv_sub hl [1, 0, 2] rfl)
                · replace hf := if_f hf hc
                  refine lv_aload_n hx hb dX4_readEither_92 rfl (lv_at hl 1 rfl) ?_
                  obtain ⟨q42, hq43, ok_q42, hf⟩ := gR_of hf
                  refine gf_RX4_25 hC hR ok_this hq43 dX4_readEither_93 ?_
                  refine lv_bipush (v := 15) hx hb dX4_readEither_96 (by decide) ?_
                  refine lv_iconst (v := 0) hx hb dX4_readEither_98 (by decide) ?_
                  obtain ⟨S44, hc45, hf⟩ := cv_of hf
                  refine cl_RX4_110 (As := [.int (15 : Int32), .int (0 : Int32)]) (rest := []) hC hR hS (c_X7_put l G n q42 (15 : Int32) (0 : Int32) S35 S44 hc45 ok_q42) ok_q42 rfl ⟨Nat.le_of_ble_eq_true rfl, Nat.le_of_ble_eq_true rfl⟩ hl.1 rfl (Nat.le_of_ble_eq_true rfl) dX4_readEither_99 (Nat.zero_le _) (Nat.zero_le _) (fun H locs hR hS hE46 => ?_)
                  have ok_this := hE46 _ _ ok_this
                  have ok_q42 := hE46 _ _ ok_q42
                  have hE := hE.tr hE46
                  exact hj102_38 S44 _ _ _ hf hR hS hE ok_this (lv_sub hl [1, 0, 2] rfl)
              obtain ⟨j74_49, ej74_49, hf⟩ := jn_of1 hf
              have hj74_48 : ∀ (S50 : MS) (H : Heap) (locs : List Loc) (ls : Array Slot), j74_49 S50 = some So → Rp G S50 H → va_S (gA G) s.heap H locs → Ex S S50 → Ok S50 this 4 → lv_has ls 4 [(0, .ref this), (2, .int x16), (3, .int x23)] → W p l e rX4_readEither s m args below meth c H locs 0 0 (MQ below (Qn G S none So) args s 0 0 (gA G)) (F0 m 74 ls []) := by
                intro S50 H locs ls hf hR hS hE ok_this hl
                rw [ej74_49] at hf
                refine lv_iconst (v := 1) hx hb dX4_readEither_74 (by decide) ?_
                refine lv_goto (tgt := 79) hx hb dX4_readEither_75 (by decide) ?_
                exact hj79_28 (1 : Int32) S50 _ _ _ hf hR hS hE ok_this (lv_sub hl [0, 1, 2] rfl)
              refine lv_if_ne (tgt := 74) hx hb dX4_readEither_67 (by decide) (fun hc => ?_) (fun hc => ?_)
              · replace hf := if_f hf hc
                exact hj74_48 S27 _ _ _ hf hR hS hE ok_this (lv_sub hl [0, 2, 3] rfl)
              · replace hf := if_t hf hc
                refine lv_iload_n hx hb dX4_readEither_70 rfl (lv_at hl 3 rfl) ?_
                refine lv_if_ne (tgt := 78) hx hb dX4_readEither_71 (by decide) (fun hc => ?_) (fun hc => ?_)
                · replace hf := if_f hf hc
                  refine lv_iconst (v := 0) hx hb dX4_readEither_78 (by decide) ?_
                  exact hj79_28 (0 : Int32) S27 _ _ _ hf hR hS hE ok_this (lv_sub hl [0, 2, 3] rfl)
                · replace hf := if_t hf hc
                  exact hj74_48 S27 _ _ _ hf hR hS hE ok_this (lv_sub hl [0, 2, 3] rfl)
            refine lv_if_ne (tgt := 66) hx hb dX4_readEither_49 (by decide) (fun hc => ?_) (fun hc => ?_)
            · replace hf := if_f hf hc
              exact hj66_25 S24 _ _ _ hf hR hS hE ok_this (lv_sub hl [1, 2, 3, 0] rfl)
            · replace hf := if_t hf hc
              refine lv_iload_n hx hb dX4_readEither_52 rfl (lv_at hl 2 rfl) ?_
              refine lv_if_eq (tgt := 66) hx hb dX4_readEither_53 (by decide) (fun hc => ?_) (fun hc => ?_)
              · replace hf := if_t hf hc
                exact hj66_25 S24 _ _ _ hf hR hS hE ok_this (lv_sub hl [1, 2, 3, 0] rfl)
              · replace hf := if_f hf hc
                refine lv_aload_n hx hb dX4_readEither_56 rfl (lv_at hl 1 rfl) ?_
                obtain ⟨q54, hq55, ok_q54, hf⟩ := gR_of hf
                refine gf_RX4_25 hC hR ok_this hq55 dX4_readEither_57 ?_
                refine lv_bipush (v := 16) hx hb dX4_readEither_60 (by decide) ?_
                refine lv_iconst (v := 0) hx hb dX4_readEither_62 (by decide) ?_
                obtain ⟨S56, hc57, hf⟩ := cv_of hf
                refine cl_RX4_110 (As := [.int (16 : Int32), .int (0 : Int32)]) (rest := []) hC hR hS (c_X7_put l G n q54 (16 : Int32) (0 : Int32) S24 S56 hc57 ok_q54) ok_q54 rfl ⟨Nat.le_of_ble_eq_true rfl, Nat.le_of_ble_eq_true rfl⟩ hl.1 rfl (Nat.le_of_ble_eq_true rfl) dX4_readEither_63 (Nat.zero_le _) (Nat.zero_le _) (fun H locs hR hS hE58 => ?_)
                have ok_this := hE58 _ _ ok_this
                have ok_q54 := hE58 _ _ ok_q54
                have hE := hE.tr hE58
                exact hj66_25 S56 _ _ _ hf hR hS hE ok_this (lv_sub hl [1, 2, 3, 0] rfl)
          refine lv_icmp_ne (tgt := 46) hx hb dX4_readEither_39 (by decide) (fun hc => ?_) (fun hc => ?_)
          · replace hf := if_f hf hc
            refine lv_iconst (v := 0) hx hb dX4_readEither_46 (by decide) ?_
            exact hj47_21 (0 : Int32) S20 _ _ _ hf hR hS hE ok_this (lv_sub hl [0, 1, 2] rfl)
          · replace hf := if_t hf hc
            refine lv_iconst (v := 1) hx hb dX4_readEither_42 (by decide) ?_
            refine lv_goto (tgt := 47) hx hb dX4_readEither_43 (by decide) ?_
            exact hj47_21 (1 : Int32) S20 _ _ _ hf hR hS hE ok_this (lv_sub hl [0, 1, 2] rfl)
        refine lv_icmp_eq (tgt := 33) hx hb dX4_readEither_21 (by decide) (fun hc => ?_) (fun hc => ?_)
        · replace hf := if_t hf hc
          exact hj33_18 S17 _ _ _ hf hR hS hE ok_this (lv_sub hl [0, 1, 2] rfl)
        · replace hf := if_f hf hc
          refine lv_aload_n hx hb dX4_readEither_24 rfl (lv_at hl 0 rfl) ?_
          refine gf_RX4_45 hC hR ok_this dX4_readEither_25 ?_
          refine lv_bipush (v := 16) hx hb dX4_readEither_28 (by decide) ?_
          refine lv_icmp_ne (tgt := 108) hx hb dX4_readEither_30 (by decide) (fun hc => ?_) (fun hc => ?_)
          · replace hf := if_f hf hc
            exact hj108_4 x15 S17 _ _ _ hf hR hS hE ok_this (lv_sub hl [0, 1] rfl)
          · replace hf := if_t hf hc
            exact hj33_18 S17 _ _ _ hf hR hS hE ok_this (lv_sub hl [0, 1, 2] rfl)
  exact hh63 n (0 : Int32) (0 : Int32) S1 _ _ _ hf hR hS hE ok_this (lv_sub hl [2, 1, 0] rfl)
abbrev rX4_readPlace : Room := { frames := 2, cells := 0, slots := 0, locals := 44 }
def f_X4_readPlace (n : Nat) (this : Nat) (a1 : Int32) (a2 : Int32) (S : MS) : Option (MS) :=
  gR S (mR S this 3) 7 fun q1 => gR S (mR S q1 1) 12 fun q3 => jn (fun (q7 : Nat) (x8 : Int32) (x9 : Int32) (S10 : MS) => ck (inb x8 (mN S10 q7)) (bd (sI S10 q7 x8.toNatClampNeg x9) fun S12 => cv (f_X4_expect n this (17 : Int32) S12) fun S14 => gR S14 (mR S14 this 3) 7 fun q17 => gR S14 (mR S14 q17 2) 12 fun q19 => cl (f_X4_readNumber n this (0 : Int32) (7 : Int32) S14) fun x24 S21 => ck (inb a1 (mN S21 q19)) (bd (sI S21 q19 a1.toNatClampNeg x24) fun S26 => cv (f_X4_expect n this (34 : Int32) S26) fun S28 => gR S28 (mR S28 this 3) 7 fun q31 => gR S28 (mR S28 q31 3) 12 fun q33 => cl (f_X4_readNumber n this (0 : Int32) (5 : Int32) S28) fun x38 S35 => ck (inb a1 (mN S35 q33)) (bd (sI S35 q33 a1.toNatClampNeg x38) fun S40 => some S40)))) fun j30_6 => (if a2 = (22 : Int32) then cl (f_X4_readNumber n this (1 : Int32) (99 : Int32) S) fun x49 S46 => j30_6 q3 a1 x49 S46 else cl (f_X4_readNumber n this (0 : Int32) (5 : Int32) S) fun x45 S42 => j30_6 q3 a1 x45 S42)
set_option maxRecDepth 100000 in
set_option maxHeartbeats 4000000 in
theorem c_X4_readPlace (l : Launch) (G : Gx) (n : Nat) (this : Nat) (a1 : Int32) (a2 : Int32) (S : MS) (So : MS) (hf : f_X4_readPlace n this a1 a2 S = some So) (ok_this : Ok S this 4) : Cn G l yX4_readPlace cX4_readPlace 3 none rX4_readPlace [.ref this, .int a1, .int a2] S none So := by
  refine Cn.of (by decide) (Nat.le_of_ble_eq_true rfl) ?_
  intro p e s m args below meth c hC hname hR ls hl
  have hC : Cx G RX4 cX4_readPlace 3 none p s m args meth c := hC
  have hl : lv_has ls 3 [(0, .ref this), (1, .int a1), (2, .int a2)] := hl
  have hx := hC.x
  have hb := hC.b
  have hS : va_S (gA G) s.heap s.heap [] := va_S.rf
  have hE : Ex S S := Ex.rf S
  unfold f_X4_readPlace at hf
  refine lv_aload_n hx hb dX4_readPlace_0 rfl (lv_at hl 0 rfl) ?_
  obtain ⟨q1, hq2, ok_q1, hf⟩ := gR_of hf
  refine gf_RX4_25 hC hR ok_this hq2 dX4_readPlace_1 ?_
  obtain ⟨q3, hq4, ok_q3, hf⟩ := gR_of hf
  refine gf_RX4_75 hC hR ok_q1 hq4 dX4_readPlace_4 ?_
  refine lv_iload_n hx hb dX4_readPlace_7 rfl (lv_at hl 1 rfl) ?_
  refine lv_iload_n hx hb dX4_readPlace_8 rfl (lv_at hl 2 rfl) ?_
  refine lv_bipush (v := 22) hx hb dX4_readPlace_9 (by decide) ?_
  obtain ⟨j30_6, ej30_6, hf⟩ := jn_of4 hf
  have hj30_5 : ∀ (q7 : Nat) (x8 : Int32) (x9 : Int32) (S10 : MS) (H : Heap) (locs : List Loc) (ls : Array Slot), j30_6 q7 x8 x9 S10 = some So → Rp G S10 H → va_S (gA G) s.heap H locs → Ex S S10 → Ok S10 this 4 → Ok S10 q7 12 → lv_has ls 3 [(0, .ref this), (1, .int a1)] → W p l e rX4_readPlace s m args below meth c H locs 0 0 (MQ below (Qn G S none So) args s 0 0 (gA G)) (F0 m 30 ls [.int x9, .int x8, .ref q7]) := by
    intro q7 x8 x9 S10 H locs ls hf hR hS hE ok_this ok_q7 hl
    rw [ej30_6] at hf
    obtain ⟨hi11, hf⟩ := ck_of hf
    refine rB_iast hC hR hS ok_q7 hi11 dX4_readPlace_30 hf (fun S12 H locs hf hR hS hE13 => ?_)
    have ok_this := hE13 _ _ ok_this
    have ok_q7 := hE13 _ _ ok_q7
    have hE := hE.tr hE13
    refine lv_aload_n hx hb dX4_readPlace_31 rfl (lv_at hl 0 rfl) ?_
    refine lv_bipush (v := 17) hx hb dX4_readPlace_32 (by decide) ?_
    obtain ⟨S14, hc15, hf⟩ := cv_of hf
    refine cl_RX4_94 (As := [.int (17 : Int32)]) (rest := []) hC hR hS (c_X4_expect l G n this (17 : Int32) S12 S14 hc15 ok_this) ok_this rfl ⟨Nat.le_of_ble_eq_true rfl, Nat.le_of_ble_eq_true rfl⟩ hl.1 rfl (Nat.le_of_ble_eq_true rfl) dX4_readPlace_34 (Nat.zero_le _) (Nat.zero_le _) (fun H locs hR hS hE16 => ?_)
    have ok_this := hE16 _ _ ok_this
    have ok_q7 := hE16 _ _ ok_q7
    have hE := hE.tr hE16
    refine lv_aload_n hx hb dX4_readPlace_37 rfl (lv_at hl 0 rfl) ?_
    obtain ⟨q17, hq18, ok_q17, hf⟩ := gR_of hf
    refine gf_RX4_25 hC hR ok_this hq18 dX4_readPlace_38 ?_
    obtain ⟨q19, hq20, ok_q19, hf⟩ := gR_of hf
    refine gf_RX4_91 hC hR ok_q17 hq20 dX4_readPlace_41 ?_
    refine lv_iload_n hx hb dX4_readPlace_44 rfl (lv_at hl 1 rfl) ?_
    refine lv_aload_n hx hb dX4_readPlace_45 rfl (lv_at hl 0 rfl) ?_
    refine lv_iconst (v := 0) hx hb dX4_readPlace_46 (by decide) ?_
    refine lv_bipush (v := 7) hx hb dX4_readPlace_47 (by decide) ?_
    obtain ⟨x24, S21, hc22, hf⟩ := cl_of hf
    refine cl_RX4_97 (As := [.int (0 : Int32), .int (7 : Int32)]) (rest := [.int a1, .ref q19]) hC hR hS (c_X4_readNumber l G n this (0 : Int32) (7 : Int32) S14 x24 S21 hc22 ok_this) ok_this rfl ⟨Nat.le_of_ble_eq_true rfl, Nat.le_of_ble_eq_true rfl⟩ hl.1 rfl (Nat.le_of_ble_eq_true rfl) dX4_readPlace_49 (Nat.zero_le _) (Nat.zero_le _) (fun H locs hR hS hE23 => ?_)
    have ok_this := hE23 _ _ ok_this
    have ok_q7 := hE23 _ _ ok_q7
    have ok_q17 := hE23 _ _ ok_q17
    have ok_q19 := hE23 _ _ ok_q19
    have hE := hE.tr hE23
    obtain ⟨hi25, hf⟩ := ck_of hf
    refine rB_iast hC hR hS ok_q19 hi25 dX4_readPlace_52 hf (fun S26 H locs hf hR hS hE27 => ?_)
    have ok_this := hE27 _ _ ok_this
    have ok_q7 := hE27 _ _ ok_q7
    have ok_q17 := hE27 _ _ ok_q17
    have ok_q19 := hE27 _ _ ok_q19
    have hE := hE.tr hE27
    refine lv_aload_n hx hb dX4_readPlace_53 rfl (lv_at hl 0 rfl) ?_
    refine lv_bipush (v := 34) hx hb dX4_readPlace_54 (by decide) ?_
    obtain ⟨S28, hc29, hf⟩ := cv_of hf
    refine cl_RX4_94 (As := [.int (34 : Int32)]) (rest := []) hC hR hS (c_X4_expect l G n this (34 : Int32) S26 S28 hc29 ok_this) ok_this rfl ⟨Nat.le_of_ble_eq_true rfl, Nat.le_of_ble_eq_true rfl⟩ hl.1 rfl (Nat.le_of_ble_eq_true rfl) dX4_readPlace_56 (Nat.zero_le _) (Nat.zero_le _) (fun H locs hR hS hE30 => ?_)
    have ok_this := hE30 _ _ ok_this
    have ok_q7 := hE30 _ _ ok_q7
    have ok_q17 := hE30 _ _ ok_q17
    have ok_q19 := hE30 _ _ ok_q19
    have hE := hE.tr hE30
    refine lv_aload_n hx hb dX4_readPlace_59 rfl (lv_at hl 0 rfl) ?_
    obtain ⟨q31, hq32, ok_q31, hf⟩ := gR_of hf
    refine gf_RX4_25 hC hR ok_this hq32 dX4_readPlace_60 ?_
    obtain ⟨q33, hq34, ok_q33, hf⟩ := gR_of hf
    refine gf_RX4_101 hC hR ok_q31 hq34 dX4_readPlace_63 ?_
    refine lv_iload_n hx hb dX4_readPlace_66 rfl (lv_at hl 1 rfl) ?_
    refine lv_aload_n hx hb dX4_readPlace_67 rfl (lv_at hl 0 rfl) ?_
    refine lv_iconst (v := 0) hx hb dX4_readPlace_68 (by decide) ?_
    refine lv_iconst (v := 5) hx hb dX4_readPlace_69 (by decide) ?_
    obtain ⟨x38, S35, hc36, hf⟩ := cl_of hf
    refine cl_RX4_97 (As := [.int (0 : Int32), .int (5 : Int32)]) (rest := [.int a1, .ref q33]) hC hR hS (c_X4_readNumber l G n this (0 : Int32) (5 : Int32) S28 x38 S35 hc36 ok_this) ok_this rfl ⟨Nat.le_of_ble_eq_true rfl, Nat.le_of_ble_eq_true rfl⟩ hl.1 rfl (Nat.le_of_ble_eq_true rfl) dX4_readPlace_70 (Nat.zero_le _) (Nat.zero_le _) (fun H locs hR hS hE37 => ?_)
    have ok_this := hE37 _ _ ok_this
    have ok_q7 := hE37 _ _ ok_q7
    have ok_q17 := hE37 _ _ ok_q17
    have ok_q19 := hE37 _ _ ok_q19
    have ok_q31 := hE37 _ _ ok_q31
    have ok_q33 := hE37 _ _ ok_q33
    have hE := hE.tr hE37
    obtain ⟨hi39, hf⟩ := ck_of hf
    refine rB_iast hC hR hS ok_q33 hi39 dX4_readPlace_73 hf (fun S40 H locs hf hR hS hE41 => ?_)
    have ok_this := hE41 _ _ ok_this
    have ok_q7 := hE41 _ _ ok_q7
    have ok_q17 := hE41 _ _ ok_q17
    have ok_q19 := hE41 _ _ ok_q19
    have ok_q31 := hE41 _ _ ok_q31
    have ok_q33 := hE41 _ _ ok_q33
    have hE := hE.tr hE41
    exact r_vret hC hR hS hE hf dX4_readPlace_74
  refine lv_icmp_ne (tgt := 24) hx hb dX4_readPlace_11 (by decide) (fun hc => ?_) (fun hc => ?_)
  · replace hf := if_f hf hc
    refine lv_aload_n hx hb dX4_readPlace_24 rfl (lv_at hl 0 rfl) ?_
    refine lv_iconst (v := 0) hx hb dX4_readPlace_25 (by decide) ?_
    refine lv_iconst (v := 5) hx hb dX4_readPlace_26 (by decide) ?_
    obtain ⟨x45, S42, hc43, hf⟩ := cl_of hf
    refine cl_RX4_97 (As := [.int (0 : Int32), .int (5 : Int32)]) (rest := [.int a1, .ref q3]) hC hR hS (c_X4_readNumber l G n this (0 : Int32) (5 : Int32) S x45 S42 hc43 ok_this) ok_this rfl ⟨Nat.le_of_ble_eq_true rfl, Nat.le_of_ble_eq_true rfl⟩ hl.1 rfl (Nat.le_of_ble_eq_true rfl) dX4_readPlace_27 (Nat.zero_le _) (Nat.zero_le _) (fun H locs hR hS hE44 => ?_)
    have ok_this := hE44 _ _ ok_this
    have ok_q1 := hE44 _ _ ok_q1
    have ok_q3 := hE44 _ _ ok_q3
    have hE := hE.tr hE44
    exact hj30_5 q3 a1 x45 S42 _ _ _ hf hR hS hE ok_this ok_q3 (lv_sub hl [0, 1] rfl)
  · replace hf := if_t hf hc
    refine lv_aload_n hx hb dX4_readPlace_14 rfl (lv_at hl 0 rfl) ?_
    refine lv_iconst (v := 1) hx hb dX4_readPlace_15 (by decide) ?_
    refine lv_bipush (v := 99) hx hb dX4_readPlace_16 (by decide) ?_
    obtain ⟨x49, S46, hc47, hf⟩ := cl_of hf
    refine cl_RX4_97 (As := [.int (1 : Int32), .int (99 : Int32)]) (rest := [.int a1, .ref q3]) hC hR hS (c_X4_readNumber l G n this (1 : Int32) (99 : Int32) S x49 S46 hc47 ok_this) ok_this rfl ⟨Nat.le_of_ble_eq_true rfl, Nat.le_of_ble_eq_true rfl⟩ hl.1 rfl (Nat.le_of_ble_eq_true rfl) dX4_readPlace_18 (Nat.zero_le _) (Nat.zero_le _) (fun H locs hR hS hE48 => ?_)
    have ok_this := hE48 _ _ ok_this
    have ok_q1 := hE48 _ _ ok_q1
    have ok_q3 := hE48 _ _ ok_q3
    have hE := hE.tr hE48
    refine lv_goto (tgt := 30) hx hb dX4_readPlace_21 (by decide) ?_
    exact hj30_5 q3 a1 x49 S46 _ _ _ hf hR hS hE ok_this ok_q3 (lv_sub hl [0, 1] rfl)
abbrev rX7_addClause : Room := { frames := 0, cells := 0, slots := 0, locals := 0 }
def f_X7_addClause (_n : Nat) (this : Nat) (a1 : Int32) (S : MS) : Option (Int32 × MS) :=
  (if (mI S this 5) < (20 : Int32) then bd (mI S this 5) fun x1 => bd (sI S this 5 ((mI S this 5) + (1 : Int32))) fun S2 => gR S2 (mR S2 this 0) 12 fun q4 => ck (inb x1 (mN S2 q4)) (bd (sI S2 q4 x1.toNatClampNeg a1) fun S7 => (if a1 = (18 : Int32) then bd (sI S7 this 7 x1) fun S13 => some (x1, S13) else (if a1 = (19 : Int32) then bd (sI S7 this 8 x1) fun S11 => some (x1, S11) else (if a1 = (20 : Int32) then bd (sI S7 this 9 x1) fun S9 => some (x1, S9) else some (x1, S7))))) else some ((-1 : Int32), S))
set_option maxRecDepth 100000 in
set_option maxHeartbeats 4000000 in
theorem c_X7_addClause (l : Launch) (G : Gx) (n : Nat) (this : Nat) (a1 : Int32) (S : MS) (ro : Int32) (So : MS) (hf : f_X7_addClause n this a1 S = some (ro, So)) (ok_this : Ok S this 7) : Cn G l yX7_addClause cX7_addClause 3 (some .int) rX7_addClause [.ref this, .int a1] S (some (.int ro)) So := by
  refine Cn.of (by decide) (Nat.le_of_ble_eq_true rfl) ?_
  intro p e s m args below meth c hC hname hR ls hl
  have hC : Cx G RX7 cX7_addClause 3 (some .int) p s m args meth c := hC
  have hl : lv_has ls 3 [(0, .ref this), (1, .int a1)] := hl
  have hx := hC.x
  have hb := hC.b
  have hS : va_S (gA G) s.heap s.heap [] := va_S.rf
  have hE : Ex S S := Ex.rf S
  unfold f_X7_addClause at hf
  refine lv_aload_n hx hb dX7_addClause_0 rfl (lv_at hl 0 rfl) ?_
  refine gf_RX7_27 hC hR ok_this dX7_addClause_1 ?_
  refine lv_bipush (v := 20) hx hb dX7_addClause_4 (by decide) ?_
  refine lv_icmp_lt (tgt := 11) hx hb dX7_addClause_6 (by decide) (fun hc => ?_) (fun hc => ?_)
  · replace hf := if_t hf hc
    refine lv_aload_n hx hb dX7_addClause_11 rfl (lv_at hl 0 rfl) ?_
    refine gf_RX7_27 hC hR ok_this dX7_addClause_12 ?_
    refine bdi hf (fun x1 hf => ?_)
    refine lv_istore_n (lv' := [(2, .int x1), (0, .ref this), (1, .int a1)]) hx hb dX7_addClause_15 rfl hl (by decide) rfl (fun ls hl => ?_)
    refine lv_aload_n hx hb dX7_addClause_16 rfl (lv_at hl 1 rfl) ?_
    refine lv_dup hx hb dX7_addClause_17 rfl ?_
    refine gf_RX7_27 hC hR ok_this dX7_addClause_18 ?_
    refine lv_iconst (v := 1) hx hb dX7_addClause_21 (by decide) ?_
    refine lv_iadd hx hb dX7_addClause_22 ?_
    refine pf_RX7_27 hC hR hS ok_this dX7_addClause_23 hf (fun S2 H locs hf hR hS hE3 => ?_)
    have ok_this := hE3 _ _ ok_this
    have hE := hE.tr hE3
    refine lv_aload_n hx hb dX7_addClause_26 rfl (lv_at hl 1 rfl) ?_
    obtain ⟨q4, hq5, ok_q4, hf⟩ := gR_of hf
    refine gf_RX7_9 hC hR ok_this hq5 dX7_addClause_27 ?_
    refine lv_iload_n hx hb dX7_addClause_30 rfl (lv_at hl 0 rfl) ?_
    refine lv_iload_n hx hb dX7_addClause_31 rfl (lv_at hl 2 rfl) ?_
    obtain ⟨hi6, hf⟩ := ck_of hf
    refine rB_iast hC hR hS ok_q4 hi6 dX7_addClause_32 hf (fun S7 H locs hf hR hS hE8 => ?_)
    have ok_this := hE8 _ _ ok_this
    have ok_q4 := hE8 _ _ ok_q4
    have hE := hE.tr hE8
    refine lv_iload_n hx hb dX7_addClause_33 rfl (lv_at hl 2 rfl) ?_
    refine lv_bipush (v := 18) hx hb dX7_addClause_34 (by decide) ?_
    refine lv_icmp_ne (tgt := 47) hx hb dX7_addClause_36 (by decide) (fun hc => ?_) (fun hc => ?_)
    · replace hf := if_f hf hc
      refine lv_iload_n hx hb dX7_addClause_47 rfl (lv_at hl 2 rfl) ?_
      refine lv_bipush (v := 19) hx hb dX7_addClause_48 (by decide) ?_
      refine lv_icmp_ne (tgt := 61) hx hb dX7_addClause_50 (by decide) (fun hc => ?_) (fun hc => ?_)
      · replace hf := if_f hf hc
        refine lv_iload_n hx hb dX7_addClause_61 rfl (lv_at hl 2 rfl) ?_
        refine lv_bipush (v := 20) hx hb dX7_addClause_62 (by decide) ?_
        refine lv_icmp_ne (tgt := 72) hx hb dX7_addClause_64 (by decide) (fun hc => ?_) (fun hc => ?_)
        · replace hf := if_f hf hc
          refine lv_iload_n hx hb dX7_addClause_72 rfl (lv_at hl 0 rfl) ?_
          exact r_iret hC hR hS hE hf dX7_addClause_73
        · replace hf := if_t hf hc
          refine lv_aload_n hx hb dX7_addClause_67 rfl (lv_at hl 1 rfl) ?_
          refine lv_iload_n hx hb dX7_addClause_68 rfl (lv_at hl 0 rfl) ?_
          refine pf_RX7_40 hC hR hS ok_this dX7_addClause_69 hf (fun S9 H locs hf hR hS hE10 => ?_)
          have ok_this := hE10 _ _ ok_this
          have ok_q4 := hE10 _ _ ok_q4
          have hE := hE.tr hE10
          refine lv_iload_n hx hb dX7_addClause_72 rfl (lv_at hl 0 rfl) ?_
          exact r_iret hC hR hS hE hf dX7_addClause_73
      · replace hf := if_t hf hc
        refine lv_aload_n hx hb dX7_addClause_53 rfl (lv_at hl 1 rfl) ?_
        refine lv_iload_n hx hb dX7_addClause_54 rfl (lv_at hl 0 rfl) ?_
        refine pf_RX7_37 hC hR hS ok_this dX7_addClause_55 hf (fun S11 H locs hf hR hS hE12 => ?_)
        have ok_this := hE12 _ _ ok_this
        have ok_q4 := hE12 _ _ ok_q4
        have hE := hE.tr hE12
        refine lv_goto (tgt := 72) hx hb dX7_addClause_58 (by decide) ?_
        refine lv_iload_n hx hb dX7_addClause_72 rfl (lv_at hl 0 rfl) ?_
        exact r_iret hC hR hS hE hf dX7_addClause_73
    · replace hf := if_t hf hc
      refine lv_aload_n hx hb dX7_addClause_39 rfl (lv_at hl 1 rfl) ?_
      refine lv_iload_n hx hb dX7_addClause_40 rfl (lv_at hl 0 rfl) ?_
      refine pf_RX7_34 hC hR hS ok_this dX7_addClause_41 hf (fun S13 H locs hf hR hS hE14 => ?_)
      have ok_this := hE14 _ _ ok_this
      have ok_q4 := hE14 _ _ ok_q4
      have hE := hE.tr hE14
      refine lv_goto (tgt := 72) hx hb dX7_addClause_44 (by decide) ?_
      refine lv_iload_n hx hb dX7_addClause_72 rfl (lv_at hl 0 rfl) ?_
      exact r_iret hC hR hS hE hf dX7_addClause_73
  · replace hf := if_f hf hc
    refine lv_iconst (v := -1) hx hb dX7_addClause_9 (by decide) ?_
    exact r_iret hC hR hS hE hf dX7_addClause_10
abbrev rX7_has : Room := { frames := 0, cells := 0, slots := 0, locals := 0 }
def f_X7_has (_n : Nat) (this : Nat) (a1 : Int32) (S : MS) : Option (Int32 × MS) :=
  jn (fun (S3 : MS) => jn (fun (S6 : MS) => (if a1 = (20 : Int32) then (if (mI S6 this 9) = (-1 : Int32) then zb (0 : Int32) (some ((0 : Int32), S6)) else zb (1 : Int32) (some ((1 : Int32), S6))) else zb (0 : Int32) (some ((0 : Int32), S6)))) fun j28_5 => (if a1 = (19 : Int32) then (if (mI S3 this 8) = (-1 : Int32) then j28_5 S3 else zb (1 : Int32) (some ((1 : Int32), S3))) else j28_5 S3)) fun j14_2 => (if a1 = (18 : Int32) then (if (mI S this 7) = (-1 : Int32) then j14_2 S else zb (1 : Int32) (some ((1 : Int32), S))) else j14_2 S)
set_option maxRecDepth 100000 in
set_option maxHeartbeats 4000000 in
theorem c_X7_has (l : Launch) (G : Gx) (n : Nat) (this : Nat) (a1 : Int32) (S : MS) (ro : Int32) (So : MS) (hf : f_X7_has n this a1 S = some (ro, So)) (ok_this : Ok S this 7) : Cn G l yX7_has cX7_has 2 (some .boolean) rX7_has [.ref this, .int a1] S (some (.int ro)) So := by
  refine Cn.of (by decide) (Nat.le_of_ble_eq_true rfl) ?_
  intro p e s m args below meth c hC hname hR ls hl
  have hC : Cx G RX7 cX7_has 2 (some .boolean) p s m args meth c := hC
  have hl : lv_has ls 2 [(0, .ref this), (1, .int a1)] := hl
  have hx := hC.x
  have hb := hC.b
  have hS : va_S (gA G) s.heap s.heap [] := va_S.rf
  have hE : Ex S S := Ex.rf S
  unfold f_X7_has at hf
  refine lv_iload_n hx hb dX7_has_0 rfl (lv_at hl 1 rfl) ?_
  refine lv_bipush (v := 18) hx hb dX7_has_1 (by decide) ?_
  obtain ⟨j14_2, ej14_2, hf⟩ := jn_of1 hf
  have hj14_1 : ∀ (S3 : MS) (H : Heap) (locs : List Loc) (ls : Array Slot), j14_2 S3 = some (ro, So) → Rp G S3 H → va_S (gA G) s.heap H locs → Ex S S3 → Ok S3 this 7 → lv_has ls 2 [(0, .ref this), (1, .int a1)] → W p l e rX7_has s m args below meth c H locs 0 0 (MQ below (Qn G S (some (.int ro)) So) args s 0 0 (gA G)) (F0 m 14 ls []) := by
    intro S3 H locs ls hf hR hS hE ok_this hl
    rw [ej14_2] at hf
    refine lv_iload_n hx hb dX7_has_14 rfl (lv_at hl 1 rfl) ?_
    refine lv_bipush (v := 19) hx hb dX7_has_15 (by decide) ?_
    obtain ⟨j28_5, ej28_5, hf⟩ := jn_of1 hf
    have hj28_4 : ∀ (S6 : MS) (H : Heap) (locs : List Loc) (ls : Array Slot), j28_5 S6 = some (ro, So) → Rp G S6 H → va_S (gA G) s.heap H locs → Ex S S6 → Ok S6 this 7 → lv_has ls 2 [(0, .ref this), (1, .int a1)] → W p l e rX7_has s m args below meth c H locs 0 0 (MQ below (Qn G S (some (.int ro)) So) args s 0 0 (gA G)) (F0 m 28 ls []) := by
      intro S6 H locs ls hf hR hS hE ok_this hl
      rw [ej28_5] at hf
      refine lv_iload_n hx hb dX7_has_28 rfl (lv_at hl 1 rfl) ?_
      refine lv_bipush (v := 20) hx hb dX7_has_29 (by decide) ?_
      refine lv_icmp_ne (tgt := 46) hx hb dX7_has_31 (by decide) (fun hc => ?_) (fun hc => ?_)
      · replace hf := if_f hf hc
        refine lv_iconst (v := 0) hx hb dX7_has_46 (by decide) ?_
        exact r_zret hC hR hS hE hf dX7_has_47
      · replace hf := if_t hf hc
        refine lv_aload_n hx hb dX7_has_34 rfl (lv_at hl 0 rfl) ?_
        refine gf_RX7_40 hC hR ok_this dX7_has_35 ?_
        refine lv_iconst (v := -1) hx hb dX7_has_38 (by decide) ?_
        refine lv_icmp_eq (tgt := 46) hx hb dX7_has_39 (by decide) (fun hc => ?_) (fun hc => ?_)
        · replace hf := if_t hf hc
          refine lv_iconst (v := 0) hx hb dX7_has_46 (by decide) ?_
          exact r_zret hC hR hS hE hf dX7_has_47
        · replace hf := if_f hf hc
          refine lv_iconst (v := 1) hx hb dX7_has_42 (by decide) ?_
          refine lv_goto (tgt := 47) hx hb dX7_has_43 (by decide) ?_
          exact r_zret hC hR hS hE hf dX7_has_47
    refine lv_icmp_ne (tgt := 28) hx hb dX7_has_17 (by decide) (fun hc => ?_) (fun hc => ?_)
    · replace hf := if_f hf hc
      exact hj28_4 S3 _ _ _ hf hR hS hE ok_this (lv_sub hl [0, 1] rfl)
    · replace hf := if_t hf hc
      refine lv_aload_n hx hb dX7_has_20 rfl (lv_at hl 0 rfl) ?_
      refine gf_RX7_37 hC hR ok_this dX7_has_21 ?_
      refine lv_iconst (v := -1) hx hb dX7_has_24 (by decide) ?_
      refine lv_icmp_ne (tgt := 42) hx hb dX7_has_25 (by decide) (fun hc => ?_) (fun hc => ?_)
      · replace hf := if_f hf hc
        refine lv_iconst (v := 1) hx hb dX7_has_42 (by decide) ?_
        refine lv_goto (tgt := 47) hx hb dX7_has_43 (by decide) ?_
        exact r_zret hC hR hS hE hf dX7_has_47
      · replace hf := if_t hf hc
        exact hj28_4 S3 _ _ _ hf hR hS hE ok_this (lv_sub hl [0, 1] rfl)
  refine lv_icmp_ne (tgt := 14) hx hb dX7_has_3 (by decide) (fun hc => ?_) (fun hc => ?_)
  · replace hf := if_f hf hc
    exact hj14_1 S _ _ _ hf hR hS hE ok_this (lv_sub hl [0, 1] rfl)
  · replace hf := if_t hf hc
    refine lv_aload_n hx hb dX7_has_6 rfl (lv_at hl 0 rfl) ?_
    refine gf_RX7_34 hC hR ok_this dX7_has_7 ?_
    refine lv_iconst (v := -1) hx hb dX7_has_10 (by decide) ?_
    refine lv_icmp_ne (tgt := 42) hx hb dX7_has_11 (by decide) (fun hc => ?_) (fun hc => ?_)
    · replace hf := if_f hf hc
      refine lv_iconst (v := 1) hx hb dX7_has_42 (by decide) ?_
      refine lv_goto (tgt := 47) hx hb dX7_has_43 (by decide) ?_
      exact r_zret hC hR hS hE hf dX7_has_47
    · replace hf := if_t hf hc
      exact hj14_1 S _ _ _ hf hR hS hE ok_this (lv_sub hl [0, 1] rfl)
abbrev rX4_readClause : Room := { frames := 39, cells := 0, slots := 0, locals := 887 }
def f_X4_readClause (n : Nat) (this : Nat) (S : MS) : Option (MS) :=
  bd (mI S this 5) fun x1 => jn (fun (S4 : MS) => jn (fun (x7 : Int32) (S8 : MS) => (if x7 = (-1 : Int32) then some S8 else cv (f_X4_advance n this S8) fun S9 => cl (f_X4_namesOf n x1 S9) fun x15 S12 => bd (sI S12 this 6 x15) fun S16 => gR S16 (mR S16 this 3) 7 fun q18 => gR S16 (mR S16 q18 1) 12 fun q20 => gR S16 (mR S16 this 3) 7 fun q22 => ck (inb x7 (mN S16 q20)) (bd (sI S16 q20 x7.toNatClampNeg (mI S16 q22 6)) fun S25 => jn (fun (S29 : MS) => (if x1 = (22 : Int32) then cv (f_X4_expect n this (35 : Int32) S29) fun S30 => some S30 else (if x1 = (23 : Int32) then cv (f_X4_expect n this (35 : Int32) S29) fun S33 => some S33 else gR S29 (mR S29 this 3) 7 fun q36 => gR S29 (mR S29 q36 2) 12 fun q38 => gR S29 (mR S29 this 3) 7 fun q40 => ck (inb x7 (mN S29 q38)) (bd (sI S29 q38 x7.toNatClampNeg (mI S29 q40 6)) fun S43 => cv (f_X4_expect n this (35 : Int32) S43) fun S45 => some S45)))) fun j155_28 => jn (fun (S50 : MS) => cv (f_X4_readPlace n this x7 x1 S50) fun S51 => j155_28 S51) fun j128_49 => (if x1 = (22 : Int32) then j128_49 S25 else (if x1 = (23 : Int32) then j128_49 S25 else (if x1 = (21 : Int32) then cv (f_X4_readEither n this S25) fun S57 => j155_28 S57 else cv (f_X4_readSum n this (0 : Int32) S25) fun S54 => j155_28 S54)))))) fun j81_6 => (if (mI S4 this 0) = 0 then gR S4 (mR S4 this 3) 7 fun q62 => cl (f_X7_addClause n q62 x1 S4) fun x67 S64 => j81_6 x67 S64 else j81_6 (-1 : Int32) S4)) fun j62_3 => jn (fun (S72 : MS) => cv (f_X4_complain n this (1 : Int32) S72) fun S73 => j62_3 S73) fun j17_71 => (if x1 < (18 : Int32) then j17_71 S else (if x1 ≤ (23 : Int32) then gR S (mR S this 3) 7 fun q76 => cl (f_X7_has n q76 x1 S) fun x81 S78 => (if x81 = 0 then gR S78 (mR S78 this 3) 7 fun q82 => (if (mI S78 q82 5) < (20 : Int32) then j62_3 S78 else cv (f_X4_complain n this (6 : Int32) S78) fun S84 => j62_3 S84) else cv (f_X4_complain n this (4 : Int32) S78) fun S87 => j62_3 S87) else j17_71 S))
set_option maxRecDepth 100000 in
set_option maxHeartbeats 4000000 in
theorem c_X4_readClause (l : Launch) (G : Gx) (n : Nat) (this : Nat) (S : MS) (So : MS) (hf : f_X4_readClause n this S = some So) (ok_this : Ok S this 4) : Cn G l yX4_readClause cX4_readClause 3 none rX4_readClause [.ref this] S none So := by
  refine Cn.of (by decide) (Nat.le_of_ble_eq_true rfl) ?_
  intro p e s m args below meth c hC hname hR ls hl
  have hC : Cx G RX4 cX4_readClause 3 none p s m args meth c := hC
  have hl : lv_has ls 3 [(0, .ref this)] := hl
  have hx := hC.x
  have hb := hC.b
  have hS : va_S (gA G) s.heap s.heap [] := va_S.rf
  have hE : Ex S S := Ex.rf S
  unfold f_X4_readClause at hf
  refine lv_aload_n hx hb dX4_readClause_0 rfl (lv_at hl 0 rfl) ?_
  refine gf_RX4_45 hC hR ok_this dX4_readClause_1 ?_
  refine bdi hf (fun x1 hf => ?_)
  refine lv_istore_n (lv' := [(1, .int x1), (0, .ref this)]) hx hb dX4_readClause_4 rfl hl (by decide) rfl (fun ls hl => ?_)
  refine lv_iload_n hx hb dX4_readClause_5 rfl (lv_at hl 0 rfl) ?_
  refine lv_bipush (v := 18) hx hb dX4_readClause_6 (by decide) ?_
  obtain ⟨j62_3, ej62_3, hf⟩ := jn_of1 hf
  have hj62_2 : ∀ (S4 : MS) (H : Heap) (locs : List Loc) (ls : Array Slot), j62_3 S4 = some So → Rp G S4 H → va_S (gA G) s.heap H locs → Ex S S4 → Ok S4 this 4 → lv_has ls 3 [(0, .ref this), (1, .int x1)] → W p l e rX4_readClause s m args below meth c H locs 0 0 (MQ below (Qn G S none So) args s 0 0 (gA G)) (F0 m 62 ls []) := by
    intro S4 H locs ls hf hR hS hE ok_this hl
    rw [ej62_3] at hf
    refine lv_aload_n hx hb dX4_readClause_62 rfl (lv_at hl 0 rfl) ?_
    refine gf_RX4_9 hC hR ok_this dX4_readClause_63 ?_
    obtain ⟨j81_6, ej81_6, hf⟩ := jn_of2 hf
    have hj81_5 : ∀ (x7 : Int32) (S8 : MS) (H : Heap) (locs : List Loc) (ls : Array Slot), j81_6 x7 S8 = some So → Rp G S8 H → va_S (gA G) s.heap H locs → Ex S S8 → Ok S8 this 4 → lv_has ls 3 [(0, .ref this), (1, .int x1)] → W p l e rX4_readClause s m args below meth c H locs 0 0 (MQ below (Qn G S none So) args s 0 0 (gA G)) (F0 m 81 ls [.int x7]) := by
      intro x7 S8 H locs ls hf hR hS hE ok_this hl
      rw [ej81_6] at hf
      refine lv_istore_n (lv' := [(2, .int x7), (0, .ref this), (1, .int x1)]) hx hb dX4_readClause_81 rfl hl (by decide) rfl (fun ls hl => ?_)
      refine lv_iload_n hx hb dX4_readClause_82 rfl (lv_at hl 0 rfl) ?_
      refine lv_iconst (v := -1) hx hb dX4_readClause_83 (by decide) ?_
      refine lv_icmp_ne (tgt := 88) hx hb dX4_readClause_84 (by decide) (fun hc => ?_) (fun hc => ?_)
      · replace hf := if_f hf hc
        refine lv_aload_n hx hb dX4_readClause_88 rfl (lv_at hl 1 rfl) ?_
        obtain ⟨S9, hc10, hf⟩ := cv_of hf
        refine cl_RX4_51 (As := []) (rest := []) hC hR hS (c_X4_advance l G n this S8 S9 hc10 ok_this) ok_this rfl ⟨Nat.le_of_ble_eq_true rfl, Nat.le_of_ble_eq_true rfl⟩ hl.1 rfl (Nat.le_of_ble_eq_true rfl) dX4_readClause_89 (Nat.zero_le _) (Nat.zero_le _) (fun H locs hR hS hE11 => ?_)
        have ok_this := hE11 _ _ ok_this
        have hE := hE.tr hE11
        refine lv_aload_n hx hb dX4_readClause_92 rfl (lv_at hl 1 rfl) ?_
        refine lv_iload_n hx hb dX4_readClause_93 rfl (lv_at hl 2 rfl) ?_
        obtain ⟨x15, S12, hc13, hf⟩ := cl_of hf
        refine cl_RX4_69 (As := [.int x1]) (rest := [.ref this]) hC hR hS (c_X4_namesOf l G n x1 S9 x15 S12 hc13 ) rfl ⟨Nat.le_of_ble_eq_true rfl, Nat.le_of_ble_eq_true rfl⟩ hl.1 rfl (Nat.le_of_ble_eq_true rfl) dX4_readClause_94 (Nat.zero_le _) (Nat.zero_le _) (fun H locs hR hS hE14 => ?_)
        have ok_this := hE14 _ _ ok_this
        have hE := hE.tr hE14
        refine pf_RX4_72 hC hR hS ok_this dX4_readClause_97 hf (fun S16 H locs hf hR hS hE17 => ?_)
        have ok_this := hE17 _ _ ok_this
        have hE := hE.tr hE17
        refine lv_aload_n hx hb dX4_readClause_100 rfl (lv_at hl 1 rfl) ?_
        obtain ⟨q18, hq19, ok_q18, hf⟩ := gR_of hf
        refine gf_RX4_25 hC hR ok_this hq19 dX4_readClause_101 ?_
        obtain ⟨q20, hq21, ok_q20, hf⟩ := gR_of hf
        refine gf_RX4_75 hC hR ok_q18 hq21 dX4_readClause_104 ?_
        refine lv_iload_n hx hb dX4_readClause_107 rfl (lv_at hl 0 rfl) ?_
        refine lv_aload_n hx hb dX4_readClause_108 rfl (lv_at hl 1 rfl) ?_
        obtain ⟨q22, hq23, ok_q22, hf⟩ := gR_of hf
        refine gf_RX4_25 hC hR ok_this hq23 dX4_readClause_109 ?_
        refine gf_RX4_78 hC hR ok_q22 dX4_readClause_112 ?_
        obtain ⟨hi24, hf⟩ := ck_of hf
        refine rB_iast hC hR hS ok_q20 hi24 dX4_readClause_115 hf (fun S25 H locs hf hR hS hE26 => ?_)
        have ok_this := hE26 _ _ ok_this
        have ok_q18 := hE26 _ _ ok_q18
        have ok_q20 := hE26 _ _ ok_q20
        have ok_q22 := hE26 _ _ ok_q22
        have hE := hE.tr hE26
        refine lv_iload_n hx hb dX4_readClause_116 rfl (lv_at hl 2 rfl) ?_
        refine lv_bipush (v := 22) hx hb dX4_readClause_117 (by decide) ?_
        obtain ⟨j155_28, ej155_28, hf⟩ := jn_of1 hf
        have hj155_27 : ∀ (S29 : MS) (H : Heap) (locs : List Loc) (ls : Array Slot), j155_28 S29 = some So → Rp G S29 H → va_S (gA G) s.heap H locs → Ex S S29 → Ok S29 this 4 → lv_has ls 3 [(0, .ref this), (1, .int x1), (2, .int x7)] → W p l e rX4_readClause s m args below meth c H locs 0 0 (MQ below (Qn G S none So) args s 0 0 (gA G)) (F0 m 155 ls []) := by
          intro S29 H locs ls hf hR hS hE ok_this hl
          rw [ej155_28] at hf
          refine lv_iload_n hx hb dX4_readClause_155 rfl (lv_at hl 1 rfl) ?_
          refine lv_bipush (v := 22) hx hb dX4_readClause_156 (by decide) ?_
          refine lv_icmp_eq (tgt := 183) hx hb dX4_readClause_158 (by decide) (fun hc => ?_) (fun hc => ?_)
          · replace hf := if_t hf hc
            refine lv_aload_n hx hb dX4_readClause_183 rfl (lv_at hl 0 rfl) ?_
            refine lv_bipush (v := 35) hx hb dX4_readClause_184 (by decide) ?_
            obtain ⟨S30, hc31, hf⟩ := cv_of hf
            refine cl_RX4_94 (As := [.int (35 : Int32)]) (rest := []) hC hR hS (c_X4_expect l G n this (35 : Int32) S29 S30 hc31 ok_this) ok_this rfl ⟨Nat.le_of_ble_eq_true rfl, Nat.le_of_ble_eq_true rfl⟩ hl.1 rfl (Nat.le_of_ble_eq_true rfl) dX4_readClause_186 (Nat.zero_le _) (Nat.zero_le _) (fun H locs hR hS hE32 => ?_)
            have ok_this := hE32 _ _ ok_this
            have hE := hE.tr hE32
            exact r_vret hC hR hS hE hf dX4_readClause_189
          · replace hf := if_f hf hc
            refine lv_iload_n hx hb dX4_readClause_161 rfl (lv_at hl 1 rfl) ?_
            refine lv_bipush (v := 23) hx hb dX4_readClause_162 (by decide) ?_
            refine lv_icmp_eq (tgt := 183) hx hb dX4_readClause_164 (by decide) (fun hc => ?_) (fun hc => ?_)
            · replace hf := if_t hf hc
              refine lv_aload_n hx hb dX4_readClause_183 rfl (lv_at hl 0 rfl) ?_
              refine lv_bipush (v := 35) hx hb dX4_readClause_184 (by decide) ?_
              obtain ⟨S33, hc34, hf⟩ := cv_of hf
              refine cl_RX4_94 (As := [.int (35 : Int32)]) (rest := []) hC hR hS (c_X4_expect l G n this (35 : Int32) S29 S33 hc34 ok_this) ok_this rfl ⟨Nat.le_of_ble_eq_true rfl, Nat.le_of_ble_eq_true rfl⟩ hl.1 rfl (Nat.le_of_ble_eq_true rfl) dX4_readClause_186 (Nat.zero_le _) (Nat.zero_le _) (fun H locs hR hS hE35 => ?_)
              have ok_this := hE35 _ _ ok_this
              have hE := hE.tr hE35
              exact r_vret hC hR hS hE hf dX4_readClause_189
            · replace hf := if_f hf hc
              refine lv_aload_n hx hb dX4_readClause_167 rfl (lv_at hl 0 rfl) ?_
              obtain ⟨q36, hq37, ok_q36, hf⟩ := gR_of hf
              refine gf_RX4_25 hC hR ok_this hq37 dX4_readClause_168 ?_
              obtain ⟨q38, hq39, ok_q38, hf⟩ := gR_of hf
              refine gf_RX4_91 hC hR ok_q36 hq39 dX4_readClause_171 ?_
              refine lv_iload_n hx hb dX4_readClause_174 rfl (lv_at hl 2 rfl) ?_
              refine lv_aload_n hx hb dX4_readClause_175 rfl (lv_at hl 0 rfl) ?_
              obtain ⟨q40, hq41, ok_q40, hf⟩ := gR_of hf
              refine gf_RX4_25 hC hR ok_this hq41 dX4_readClause_176 ?_
              refine gf_RX4_78 hC hR ok_q40 dX4_readClause_179 ?_
              obtain ⟨hi42, hf⟩ := ck_of hf
              refine rB_iast hC hR hS ok_q38 hi42 dX4_readClause_182 hf (fun S43 H locs hf hR hS hE44 => ?_)
              have ok_this := hE44 _ _ ok_this
              have ok_q36 := hE44 _ _ ok_q36
              have ok_q38 := hE44 _ _ ok_q38
              have ok_q40 := hE44 _ _ ok_q40
              have hE := hE.tr hE44
              refine lv_aload_n hx hb dX4_readClause_183 rfl (lv_at hl 0 rfl) ?_
              refine lv_bipush (v := 35) hx hb dX4_readClause_184 (by decide) ?_
              obtain ⟨S45, hc46, hf⟩ := cv_of hf
              refine cl_RX4_94 (As := [.int (35 : Int32)]) (rest := []) hC hR hS (c_X4_expect l G n this (35 : Int32) S43 S45 hc46 ok_this) ok_this rfl ⟨Nat.le_of_ble_eq_true rfl, Nat.le_of_ble_eq_true rfl⟩ hl.1 rfl (Nat.le_of_ble_eq_true rfl) dX4_readClause_186 (Nat.zero_le _) (Nat.zero_le _) (fun H locs hR hS hE47 => ?_)
              have ok_this := hE47 _ _ ok_this
              have ok_q36 := hE47 _ _ ok_q36
              have ok_q38 := hE47 _ _ ok_q38
              have ok_q40 := hE47 _ _ ok_q40
              have hE := hE.tr hE47
              exact r_vret hC hR hS hE hf dX4_readClause_189
        obtain ⟨j128_49, ej128_49, hf⟩ := jn_of1 hf
        have hj128_48 : ∀ (S50 : MS) (H : Heap) (locs : List Loc) (ls : Array Slot), j128_49 S50 = some So → Rp G S50 H → va_S (gA G) s.heap H locs → Ex S S50 → Ok S50 this 4 → lv_has ls 3 [(0, .ref this), (1, .int x1), (2, .int x7)] → W p l e rX4_readClause s m args below meth c H locs 0 0 (MQ below (Qn G S none So) args s 0 0 (gA G)) (F0 m 128 ls []) := by
          intro S50 H locs ls hf hR hS hE ok_this hl
          rw [ej128_49] at hf
          refine lv_aload_n hx hb dX4_readClause_128 rfl (lv_at hl 0 rfl) ?_
          refine lv_iload_n hx hb dX4_readClause_129 rfl (lv_at hl 2 rfl) ?_
          refine lv_iload_n hx hb dX4_readClause_130 rfl (lv_at hl 1 rfl) ?_
          obtain ⟨S51, hc52, hf⟩ := cv_of hf
          refine cl_RX4_81 (As := [.int x7, .int x1]) (rest := []) hC hR hS (c_X4_readPlace l G n this x7 x1 S50 S51 hc52 ok_this) ok_this rfl ⟨Nat.le_of_ble_eq_true rfl, Nat.le_of_ble_eq_true rfl⟩ hl.1 rfl (Nat.le_of_ble_eq_true rfl) dX4_readClause_131 (Nat.zero_le _) (Nat.zero_le _) (fun H locs hR hS hE53 => ?_)
          have ok_this := hE53 _ _ ok_this
          have hE := hE.tr hE53
          refine lv_goto (tgt := 155) hx hb dX4_readClause_134 (by decide) ?_
          exact hj155_27 S51 _ _ _ hf hR hS hE ok_this (lv_sub hl [0, 1, 2] rfl)
        refine lv_icmp_eq (tgt := 128) hx hb dX4_readClause_119 (by decide) (fun hc => ?_) (fun hc => ?_)
        · replace hf := if_t hf hc
          exact hj128_48 S25 _ _ _ hf hR hS hE ok_this (lv_sub hl [1, 2, 0] rfl)
        · replace hf := if_f hf hc
          refine lv_iload_n hx hb dX4_readClause_122 rfl (lv_at hl 2 rfl) ?_
          refine lv_bipush (v := 23) hx hb dX4_readClause_123 (by decide) ?_
          refine lv_icmp_ne (tgt := 137) hx hb dX4_readClause_125 (by decide) (fun hc => ?_) (fun hc => ?_)
          · replace hf := if_f hf hc
            refine lv_iload_n hx hb dX4_readClause_137 rfl (lv_at hl 2 rfl) ?_
            refine lv_bipush (v := 21) hx hb dX4_readClause_138 (by decide) ?_
            refine lv_icmp_ne (tgt := 150) hx hb dX4_readClause_140 (by decide) (fun hc => ?_) (fun hc => ?_)
            · replace hf := if_f hf hc
              refine lv_aload_n hx hb dX4_readClause_150 rfl (lv_at hl 1 rfl) ?_
              refine lv_iconst (v := 0) hx hb dX4_readClause_151 (by decide) ?_
              obtain ⟨S54, hc55, hf⟩ := cv_of hf
              refine cl_RX4_88 (As := [.int (0 : Int32)]) (rest := []) hC hR hS (c_X4_readSum l G n this (0 : Int32) S25 S54 hc55 ok_this) ok_this rfl ⟨Nat.le_of_ble_eq_true rfl, Nat.le_of_ble_eq_true rfl⟩ hl.1 rfl (Nat.le_of_ble_eq_true rfl) dX4_readClause_152 (Nat.zero_le _) (Nat.zero_le _) (fun H locs hR hS hE56 => ?_)
              have ok_this := hE56 _ _ ok_this
              have ok_q18 := hE56 _ _ ok_q18
              have ok_q20 := hE56 _ _ ok_q20
              have ok_q22 := hE56 _ _ ok_q22
              have hE := hE.tr hE56
              exact hj155_27 S54 _ _ _ hf hR hS hE ok_this (lv_sub hl [1, 2, 0] rfl)
            · replace hf := if_t hf hc
              refine lv_aload_n hx hb dX4_readClause_143 rfl (lv_at hl 1 rfl) ?_
              obtain ⟨S57, hc58, hf⟩ := cv_of hf
              refine cl_RX4_85 (As := []) (rest := []) hC hR hS (c_X4_readEither l G n this S25 S57 hc58 ok_this) ok_this rfl ⟨Nat.le_of_ble_eq_true rfl, Nat.le_of_ble_eq_true rfl⟩ hl.1 rfl (Nat.le_of_ble_eq_true rfl) dX4_readClause_144 (Nat.zero_le _) (Nat.zero_le _) (fun H locs hR hS hE59 => ?_)
              have ok_this := hE59 _ _ ok_this
              have ok_q18 := hE59 _ _ ok_q18
              have ok_q20 := hE59 _ _ ok_q20
              have ok_q22 := hE59 _ _ ok_q22
              have hE := hE.tr hE59
              refine lv_goto (tgt := 155) hx hb dX4_readClause_147 (by decide) ?_
              exact hj155_27 S57 _ _ _ hf hR hS hE ok_this (lv_sub hl [1, 2, 0] rfl)
          · replace hf := if_t hf hc
            exact hj128_48 S25 _ _ _ hf hR hS hE ok_this (lv_sub hl [1, 2, 0] rfl)
      · replace hf := if_t hf hc
        exact r_vret hC hR hS hE hf dX4_readClause_87
    refine lv_if_ne (tgt := 80) hx hb dX4_readClause_66 (by decide) (fun hc => ?_) (fun hc => ?_)
    · replace hf := if_f hf hc
      refine lv_iconst (v := -1) hx hb dX4_readClause_80 (by decide) ?_
      exact hj81_5 (-1 : Int32) S4 _ _ _ hf hR hS hE ok_this (lv_sub hl [0, 1] rfl)
    · replace hf := if_t hf hc
      refine lv_aload_n hx hb dX4_readClause_69 rfl (lv_at hl 0 rfl) ?_
      obtain ⟨q62, hq63, ok_q62, hf⟩ := gR_of hf
      refine gf_RX4_25 hC hR ok_this hq63 dX4_readClause_70 ?_
      refine lv_iload_n hx hb dX4_readClause_73 rfl (lv_at hl 1 rfl) ?_
      obtain ⟨x67, S64, hc65, hf⟩ := cl_of hf
      refine cl_RX4_65 (As := [.int x1]) (rest := []) hC hR hS (c_X7_addClause l G n q62 x1 S4 x67 S64 hc65 ok_q62) ok_q62 rfl ⟨Nat.le_of_ble_eq_true rfl, Nat.le_of_ble_eq_true rfl⟩ hl.1 rfl (Nat.le_of_ble_eq_true rfl) dX4_readClause_74 (Nat.zero_le _) (Nat.zero_le _) (fun H locs hR hS hE66 => ?_)
      have ok_this := hE66 _ _ ok_this
      have ok_q62 := hE66 _ _ ok_q62
      have hE := hE.tr hE66
      refine lv_goto (tgt := 81) hx hb dX4_readClause_77 (by decide) ?_
      exact hj81_5 x67 S64 _ _ _ hf hR hS hE ok_this (lv_sub hl [0, 1] rfl)
  obtain ⟨j17_71, ej17_71, hf⟩ := jn_of1 hf
  have hj17_70 : ∀ (S72 : MS) (H : Heap) (locs : List Loc) (ls : Array Slot), j17_71 S72 = some So → Rp G S72 H → va_S (gA G) s.heap H locs → Ex S S72 → Ok S72 this 4 → lv_has ls 3 [(0, .ref this), (1, .int x1)] → W p l e rX4_readClause s m args below meth c H locs 0 0 (MQ below (Qn G S none So) args s 0 0 (gA G)) (F0 m 17 ls []) := by
    intro S72 H locs ls hf hR hS hE ok_this hl
    rw [ej17_71] at hf
    refine lv_aload_n hx hb dX4_readClause_17 rfl (lv_at hl 0 rfl) ?_
    refine lv_iconst (v := 1) hx hb dX4_readClause_18 (by decide) ?_
    obtain ⟨S73, hc74, hf⟩ := cv_of hf
    refine cl_RX4_54 (As := [.int (1 : Int32)]) (rest := []) hC hR hS (c_X4_complain l G n this (1 : Int32) S72 S73 hc74 ok_this) ok_this rfl ⟨Nat.le_of_ble_eq_true rfl, Nat.le_of_ble_eq_true rfl⟩ hl.1 rfl (Nat.le_of_ble_eq_true rfl) dX4_readClause_19 (Nat.zero_le _) (Nat.zero_le _) (fun H locs hR hS hE75 => ?_)
    have ok_this := hE75 _ _ ok_this
    have hE := hE.tr hE75
    refine lv_goto (tgt := 62) hx hb dX4_readClause_22 (by decide) ?_
    exact hj62_2 S73 _ _ _ hf hR hS hE ok_this (lv_sub hl [0, 1] rfl)
  refine lv_icmp_lt (tgt := 17) hx hb dX4_readClause_8 (by decide) (fun hc => ?_) (fun hc => ?_)
  · replace hf := if_t hf hc
    exact hj17_70 S _ _ _ hf hR hS hE ok_this (lv_sub hl [1, 0] rfl)
  · replace hf := if_f hf hc
    refine lv_iload_n hx hb dX4_readClause_11 rfl (lv_at hl 0 rfl) ?_
    refine lv_bipush (v := 23) hx hb dX4_readClause_12 (by decide) ?_
    refine lv_icmp_le (tgt := 25) hx hb dX4_readClause_14 (by decide) (fun hc => ?_) (fun hc => ?_)
    · replace hf := if_t hf hc
      refine lv_aload_n hx hb dX4_readClause_25 rfl (lv_at hl 1 rfl) ?_
      obtain ⟨q76, hq77, ok_q76, hf⟩ := gR_of hf
      refine gf_RX4_25 hC hR ok_this hq77 dX4_readClause_26 ?_
      refine lv_iload_n hx hb dX4_readClause_29 rfl (lv_at hl 0 rfl) ?_
      obtain ⟨x81, S78, hc79, hf⟩ := cl_of hf
      refine cl_RX4_58 (As := [.int x1]) (rest := []) hC hR hS (c_X7_has l G n q76 x1 S x81 S78 hc79 ok_q76) ok_q76 rfl ⟨Nat.le_of_ble_eq_true rfl, Nat.le_of_ble_eq_true rfl⟩ hl.1 rfl (Nat.le_of_ble_eq_true rfl) dX4_readClause_30 (Nat.zero_le _) (Nat.zero_le _) (fun H locs hR hS hE80 => ?_)
      have ok_this := hE80 _ _ ok_this
      have ok_q76 := hE80 _ _ ok_q76
      have hE := hE.tr hE80
      refine lv_if_eq (tgt := 44) hx hb dX4_readClause_33 (by decide) (fun hc => ?_) (fun hc => ?_)
      · replace hf := if_t hf hc
        refine lv_aload_n hx hb dX4_readClause_44 rfl (lv_at hl 1 rfl) ?_
        obtain ⟨q82, hq83, ok_q82, hf⟩ := gR_of hf
        refine gf_RX4_25 hC hR ok_this hq83 dX4_readClause_45 ?_
        refine gf_RX4_62 hC hR ok_q82 dX4_readClause_48 ?_
        refine lv_bipush (v := 20) hx hb dX4_readClause_51 (by decide) ?_
        refine lv_icmp_lt (tgt := 62) hx hb dX4_readClause_53 (by decide) (fun hc => ?_) (fun hc => ?_)
        · replace hf := if_t hf hc
          exact hj62_2 S78 _ _ _ hf hR hS hE ok_this (lv_sub hl [1, 0] rfl)
        · replace hf := if_f hf hc
          refine lv_aload_n hx hb dX4_readClause_56 rfl (lv_at hl 1 rfl) ?_
          refine lv_bipush (v := 6) hx hb dX4_readClause_57 (by decide) ?_
          obtain ⟨S84, hc85, hf⟩ := cv_of hf
          refine cl_RX4_54 (As := [.int (6 : Int32)]) (rest := []) hC hR hS (c_X4_complain l G n this (6 : Int32) S78 S84 hc85 ok_this) ok_this rfl ⟨Nat.le_of_ble_eq_true rfl, Nat.le_of_ble_eq_true rfl⟩ hl.1 rfl (Nat.le_of_ble_eq_true rfl) dX4_readClause_59 (Nat.zero_le _) (Nat.zero_le _) (fun H locs hR hS hE86 => ?_)
          have ok_this := hE86 _ _ ok_this
          have ok_q76 := hE86 _ _ ok_q76
          have ok_q82 := hE86 _ _ ok_q82
          have hE := hE.tr hE86
          exact hj62_2 S84 _ _ _ hf hR hS hE ok_this (lv_sub hl [1, 0] rfl)
      · replace hf := if_f hf hc
        refine lv_aload_n hx hb dX4_readClause_36 rfl (lv_at hl 1 rfl) ?_
        refine lv_iconst (v := 4) hx hb dX4_readClause_37 (by decide) ?_
        obtain ⟨S87, hc88, hf⟩ := cv_of hf
        refine cl_RX4_54 (As := [.int (4 : Int32)]) (rest := []) hC hR hS (c_X4_complain l G n this (4 : Int32) S78 S87 hc88 ok_this) ok_this rfl ⟨Nat.le_of_ble_eq_true rfl, Nat.le_of_ble_eq_true rfl⟩ hl.1 rfl (Nat.le_of_ble_eq_true rfl) dX4_readClause_38 (Nat.zero_le _) (Nat.zero_le _) (fun H locs hR hS hE89 => ?_)
        have ok_this := hE89 _ _ ok_this
        have ok_q76 := hE89 _ _ ok_q76
        have hE := hE.tr hE89
        refine lv_goto (tgt := 62) hx hb dX4_readClause_41 (by decide) ?_
        exact hj62_2 S87 _ _ _ hf hR hS hE ok_this (lv_sub hl [1, 0] rfl)
    · replace hf := if_f hf hc
      exact hj17_70 S _ _ _ hf hR hS hE ok_this (lv_sub hl [1, 0] rfl)
abbrev rX5_init : Room := { frames := 1, cells := 2, slots := 76, locals := 40 }
def f_X5_init (_n : Nat) (z : Nat) (this : Nat) (S : MS) : Option (MS) :=
  ck (nak (12 : Int32) 12) (jn (z + (mL S).length) fun q1 => bd (nw S q1 12 (12 : Int32).toNatClampNeg) fun S2 => bd (sR S2 this 0 (some q1)) fun S5 => ck (nak (64 : Int32) 64) (jn (z + (mL S5).length) fun q7 => bd (nw S5 q7 12 (64 : Int32).toNatClampNeg) fun S8 => bd (sR S8 this 1 (some q7)) fun S11 => some S11))
set_option maxRecDepth 100000 in
set_option maxHeartbeats 4000000 in
theorem c_X5_init (l : Launch) (G : Gx) (n : Nat) (this : Nat) (S : MS) (So : MS) (hf : f_X5_init n G.2.2 this S = some So) (ok_this : Ok S this 5) : Cn G l yX5_init cX5_init 1 none rX5_init [.ref this] S none So := by
  refine Cn.of (by decide) (Nat.le_of_ble_eq_true rfl) ?_
  intro p e s m args below meth c hC hname hR ls hl
  have hC : Cx G RX5 cX5_init 1 none p s m args meth c := hC
  have hl : lv_has ls 1 [(0, .ref this)] := hl
  have hx := hC.x
  have hb := hC.b
  have hS : va_S (gA G) s.heap s.heap [] := va_S.rf
  have hE : Ex S S := Ex.rf S
  unfold f_X5_init at hf
  refine lv_aload_n hx hb dX5_init_0 rfl (lv_at hl 0 rfl) ?_
  refine r_obj hC hl.1 (bg5 _ (List.mem_of_getElem? (i := 0) rfl)) (bg1 _ (List.mem_of_getElem? (i := 14) rfl)) (bg1 _ (List.mem_of_getElem? (i := 15) rfl)) (Nat.le_of_ble_eq_true rfl) (Nat.le_of_ble_eq_true rfl) dX5_init_1 ?_
  refine lv_aload_n hx hb dX5_init_4 rfl (lv_at hl 0 rfl) ?_
  refine lv_bipush (v := 12) hx hb dX5_init_5 (by decide) ?_
  obtain ⟨hi4, hf⟩ := ck_of hf
  obtain ⟨q1, eq1, hf⟩ := jn_of hf
  refine r_newa (ci := 12) (NB := 12) (t0 := 0) (ty := .int) rfl (bg3 _ (List.mem_of_getElem? (i := 15) rfl)) rfl (fun _ _ h => h) (atI G) (by decide) hC hR hS hi4 (Nat.le_of_ble_eq_true rfl) (Nat.le_of_ble_eq_true rfl) dX5_init_7 eq1 hf (fun S2 H hf hR hS hE3 ok_q1 => ?_)
  have ok_this := hE3 _ _ ok_this
  have hE := hE.tr hE3
  refine pf_RX5_9 hC hR hS ok_this hname dX5_init_9 hf (fun S5 H locs hf hR hS hE6 => ?_)
  have ok_this := hE6 _ _ ok_this
  have ok_q1 := hE6 _ _ ok_q1
  have hE := hE.tr hE6
  refine lv_aload_n hx hb dX5_init_12 rfl (lv_at hl 0 rfl) ?_
  refine lv_bipush (v := 64) hx hb dX5_init_13 (by decide) ?_
  obtain ⟨hi10, hf⟩ := ck_of hf
  obtain ⟨q7, eq7, hf⟩ := jn_of hf
  refine r_newa (ci := 12) (NB := 64) (t0 := 0) (ty := .int) rfl (bg3 _ (List.mem_of_getElem? (i := 15) rfl)) rfl (fun _ _ h => h) (atI G) (by decide) hC hR hS hi10 (Nat.le_of_ble_eq_true rfl) (Nat.le_of_ble_eq_true rfl) dX5_init_15 eq7 hf (fun S8 H hf hR hS hE9 ok_q7 => ?_)
  have ok_this := hE9 _ _ ok_this
  have ok_q1 := hE9 _ _ ok_q1
  have hE := hE.tr hE9
  refine pf_RX5_15 hC hR hS ok_this hname dX5_init_17 hf (fun S11 H locs hf hR hS hE12 => ?_)
  have ok_this := hE12 _ _ ok_this
  have ok_q1 := hE12 _ _ ok_q1
  have ok_q7 := hE12 _ _ ok_q7
  have hE := hE.tr hE12
  refine W.widen (k := 2) (n := 76) (Nat.le_of_ble_eq_true rfl) (Nat.le_of_ble_eq_true rfl) ?_
  exact r_vret hC hR hS hE hf dX5_init_20
abbrev rX5_holdNow : Room := { frames := 3, cells := 0, slots := 0, locals := 79 }
def f_X5_holdNow (n : Nat) (this : Nat) (a1 : Nat) (a2 : Int32) (a3 : Option Nat) (S : MS) : Option (Int32 × MS) :=
  (if a3 = none then gR S (mR S a1 2) 12 fun q1 => ck (inb a2 (mN S q1)) (some ((mI S q1 a2.toNatClampNeg), S)) else nn a3 fun q4 => (if (mI S q4 7) = (-1 : Int32) then gR S (mR S a1 2) 12 fun q15 => ck (inb a2 (mN S q15)) (some ((mI S q15 a2.toNatClampNeg), S)) else cv (f_X5_nameBone n this a1 a2 S) fun S6 => nn a3 fun q9 => cl (f_X5_value n this a3 (mI S6 q9 7) S6) fun x14 S11 => some (x14, S11)))
set_option maxRecDepth 100000 in
set_option maxHeartbeats 4000000 in
theorem c_X5_holdNow (l : Launch) (G : Gx) (n : Nat) (this : Nat) (a1 : Nat) (a2 : Int32) (a3 : Option Nat) (S : MS) (ro : Int32) (So : MS) (hf : f_X5_holdNow n this a1 a2 a3 S = some (ro, So)) (ok_this : Ok S this 5) (ok_a1 : Ok S a1 3) (ok_a3 : ∀ q, a3 = some q → Ok S q 7) : Cn G l yX5_holdNow cX5_holdNow 4 (some .int) rX5_holdNow [.ref this, .ref a1, .int a2, va_rf a3] S (some (.int ro)) So := by
  refine Cn.of (by decide) (by cases a3 <;> exact Nat.le_of_ble_eq_true rfl) ?_
  intro p e s m args below meth c hC hname hR ls hl
  have hC : Cx G RX5 cX5_holdNow 4 (some .int) p s m args meth c := hC
  have hl : lv_has ls 4 [(0, .ref this), (1, .ref a1), (2, .int a2), (3, va_rf a3)] := by cases a3 <;> exact hl
  have hx := hC.x
  have hb := hC.b
  have hS : va_S (gA G) s.heap s.heap [] := va_S.rf
  have hE : Ex S S := Ex.rf S
  unfold f_X5_holdNow at hf
  refine r_aload_nO hx hb dX5_holdNow_0 rfl (lv_at hl 3 rfl) ?_
  refine r_ifnullO (tgt := 12) hx hb dX5_holdNow_1 (by decide) (fun hc => ?_) (fun hc => ?_)
  · replace hf := if_t hf hc
    refine lv_aload_n hx hb dX5_holdNow_12 rfl (lv_at hl 1 rfl) ?_
    obtain ⟨q1, hq2, ok_q1, hf⟩ := gR_of hf
    refine gf_RX5_24 hC hR ok_a1 hq2 dX5_holdNow_13 ?_
    refine lv_iload_n hx hb dX5_holdNow_16 rfl (lv_at hl 2 rfl) ?_
    obtain ⟨hi3, hf⟩ := ck_of hf
    refine r_iald hC hR ok_q1 hi3 dX5_holdNow_17 ?_
    exact r_iret hC hR hS hE hf dX5_holdNow_18
  · replace hf := if_f hf hc
    refine r_aload_nO hx hb dX5_holdNow_4 rfl (lv_at hl 3 rfl) ?_
    obtain ⟨q4, hq5, hf⟩ := nn_of hf
    have ok_q4 := ok_a3 q4 hq5
    refine W.eq (g2 := F0 m 5 ls [.ref q4]) (by rw [hq5]; rfl) ?_
    refine gf_RX5_18 hC hR ok_q4 dX5_holdNow_5 ?_
    refine lv_iconst (v := -1) hx hb dX5_holdNow_8 (by decide) ?_
    refine lv_icmp_ne (tgt := 19) hx hb dX5_holdNow_9 (by decide) (fun hc => ?_) (fun hc => ?_)
    · replace hf := if_f hf hc
      refine lv_aload_n hx hb dX5_holdNow_19 rfl (lv_at hl 0 rfl) ?_
      refine lv_aload_n hx hb dX5_holdNow_20 rfl (lv_at hl 1 rfl) ?_
      refine lv_iload_n hx hb dX5_holdNow_21 rfl (lv_at hl 2 rfl) ?_
      obtain ⟨S6, hc7, hf⟩ := cv_of hf
      refine cl_RX5_29 (As := [.ref a1, .int a2]) (rest := []) hC hR hS (c_X5_nameBone l G n this a1 a2 S S6 hc7 ok_this ok_a1) ok_this rfl ⟨Nat.le_of_ble_eq_true rfl, Nat.le_of_ble_eq_true rfl⟩ hl.1 rfl (Nat.le_of_ble_eq_true rfl) dX5_holdNow_22 (Nat.zero_le _) (Nat.zero_le _) (fun H locs hR hS hE8 => ?_)
      have ok_this := hE8 _ _ ok_this
      have ok_a1 := hE8 _ _ ok_a1
      have ok_a3 := fun q h => hE8 _ _ (ok_a3 q h)
      have ok_q4 := hE8 _ _ ok_q4
      have hE := hE.tr hE8
      refine lv_aload_n hx hb dX5_holdNow_25 rfl (lv_at hl 0 rfl) ?_
      refine r_aload_nO hx hb dX5_holdNow_26 rfl (lv_at hl 3 rfl) ?_
      refine r_aload_nO hx hb dX5_holdNow_27 rfl (lv_at hl 3 rfl) ?_
      obtain ⟨q9, hq10, hf⟩ := nn_of hf
      have ok_q9 := ok_a3 q9 hq10
      refine W.eq (g2 := F0 m 28 ls [.ref q9, va_rf a3, .ref this]) (by rw [hq10]; rfl) ?_
      refine gf_RX5_18 hC hR ok_q9 dX5_holdNow_28 ?_
      obtain ⟨x14, S11, hc12, hf⟩ := cl_of hf
      refine cl_RX5_33 (As := [va_rf a3, .int (mI S6 q9 7)]) (rest := []) hC hR hS (c_X5_value l G n this a3 (mI S6 q9 7) S6 x14 S11 hc12 ok_this ok_a3) ok_this rfl ⟨Nat.le_of_ble_eq_true rfl, Nat.le_of_ble_eq_true rfl⟩ hl.1 rfl (Nat.le_of_ble_eq_true rfl) dX5_holdNow_31 (Nat.zero_le _) (Nat.zero_le _) (fun H locs hR hS hE13 => ?_)
      have ok_this := hE13 _ _ ok_this
      have ok_a1 := hE13 _ _ ok_a1
      have ok_a3 := fun q h => hE13 _ _ (ok_a3 q h)
      have ok_q4 := hE13 _ _ ok_q4
      have ok_q9 := hE13 _ _ ok_q9
      have hE := hE.tr hE13
      exact r_iret hC hR hS hE hf dX5_holdNow_34
    · replace hf := if_t hf hc
      refine lv_aload_n hx hb dX5_holdNow_12 rfl (lv_at hl 1 rfl) ?_
      obtain ⟨q15, hq16, ok_q15, hf⟩ := gR_of hf
      refine gf_RX5_24 hC hR ok_a1 hq16 dX5_holdNow_13 ?_
      refine lv_iload_n hx hb dX5_holdNow_16 rfl (lv_at hl 2 rfl) ?_
      obtain ⟨hi17, hf⟩ := ck_of hf
      refine r_iald hC hR ok_q15 hi17 dX5_holdNow_17 ?_
      exact r_iret hC hR hS hE hf dX5_holdNow_18
abbrev rX5_isFound : Room := { frames := 3, cells := 0, slots := 0, locals := 79 }
def f_X5_isFound_L24 (n : Nat) (this : Nat) (a4 : Option Nat) : Nat → Int32 → MS → Option (Int32 × MS)
  | 0, _, _ => none
  | k + 1, x11, S12 => jn (f_X5_isFound_L24 n this a4 k) fun rec24_10 => nn a4 fun q13 => (if (mI S12 q13 5) ≤ x11 then zb (0 : Int32) (some ((0 : Int32), S12)) else (if (20 : Int32) ≤ x11 then zb (0 : Int32) (some ((0 : Int32), S12)) else nn a4 fun q15 => gR S12 (mR S12 q15 0) 12 fun q17 => ck (inb x11 (mN S12 q17)) (jn (fun (S22 : MS) => bd (x11 + (1 : Int32)) fun x23 => rec24_10 x23 S22) fun j67_21 => (if (mI S12 q17 x11.toNatClampNeg) = (21 : Int32) then cl (f_X5_value n this a4 x11 S12) fun x27 S24 => (if x27 = 0 then j67_21 S24 else zb (1 : Int32) (some ((1 : Int32), S24))) else j67_21 S12))))
def f_X5_isFound (n : Nat) (this : Nat) (a1 : Nat) (a2 : Int32) (a3 : Int32) (a4 : Option Nat) (S : MS) : Option (Int32 × MS) :=
  (if a4 = none then zb (0 : Int32) (some ((0 : Int32), S)) else cv (f_X5_nameBone n this a1 a2 S) fun S1 => gR S1 (mR S1 this 0) 12 fun q4 => ck (inb (8 : Int32) (mN S1 q4)) (bd (sI S1 q4 (8 : Int32).toNatClampNeg a3) fun S7 => f_X5_isFound_L24 n this a4 n (0 : Int32) S7))
set_option maxRecDepth 100000 in
set_option maxHeartbeats 4000000 in
theorem c_X5_isFound (l : Launch) (G : Gx) (n : Nat) (this : Nat) (a1 : Nat) (a2 : Int32) (a3 : Int32) (a4 : Option Nat) (S : MS) (ro : Int32) (So : MS) (hf : f_X5_isFound n this a1 a2 a3 a4 S = some (ro, So)) (ok_this : Ok S this 5) (ok_a1 : Ok S a1 3) (ok_a4 : ∀ q, a4 = some q → Ok S q 7) : Cn G l yX5_isFound cX5_isFound 6 (some .boolean) rX5_isFound [.ref this, .ref a1, .int a2, .int a3, va_rf a4] S (some (.int ro)) So := by
  refine Cn.of (by decide) (by cases a4 <;> exact Nat.le_of_ble_eq_true rfl) ?_
  intro p e s m args below meth c hC hname hR ls hl
  have hC : Cx G RX5 cX5_isFound 6 (some .boolean) p s m args meth c := hC
  have hl : lv_has ls 6 [(0, .ref this), (1, .ref a1), (2, .int a2), (3, .int a3), (4, va_rf a4)] := by cases a4 <;> exact hl
  have hx := hC.x
  have hb := hC.b
  have hS : va_S (gA G) s.heap s.heap [] := va_S.rf
  have hE : Ex S S := Ex.rf S
  unfold f_X5_isFound at hf
  refine r_aloadO hx hb dX5_isFound_0 (lv_at hl 4 rfl) ?_
  refine r_ifnonnullO (tgt := 7) hx hb dX5_isFound_2 (by decide) (fun hc => ?_) (fun hc => ?_)
  · replace hf := if_f hf hc
    refine lv_aload_n hx hb dX5_isFound_7 rfl (lv_at hl 0 rfl) ?_
    refine lv_aload_n hx hb dX5_isFound_8 rfl (lv_at hl 1 rfl) ?_
    refine lv_iload_n hx hb dX5_isFound_9 rfl (lv_at hl 2 rfl) ?_
    obtain ⟨S1, hc2, hf⟩ := cv_of hf
    refine cl_RX5_29 (As := [.ref a1, .int a2]) (rest := []) hC hR hS (c_X5_nameBone l G n this a1 a2 S S1 hc2 ok_this ok_a1) ok_this rfl ⟨Nat.le_of_ble_eq_true rfl, Nat.le_of_ble_eq_true rfl⟩ hl.1 rfl (Nat.le_of_ble_eq_true rfl) dX5_isFound_10 (Nat.zero_le _) (Nat.zero_le _) (fun H locs hR hS hE3 => ?_)
    have ok_this := hE3 _ _ ok_this
    have ok_a1 := hE3 _ _ ok_a1
    have ok_a4 := fun q h => hE3 _ _ (ok_a4 q h)
    have hE := hE.tr hE3
    refine lv_aload_n hx hb dX5_isFound_13 rfl (lv_at hl 0 rfl) ?_
    obtain ⟨q4, hq5, ok_q4, hf⟩ := gR_of hf
    refine gf_RX5_9 hC hR ok_this hq5 dX5_isFound_14 ?_
    refine lv_bipush (v := 8) hx hb dX5_isFound_17 (by decide) ?_
    refine lv_iload_n hx hb dX5_isFound_19 rfl (lv_at hl 3 rfl) ?_
    obtain ⟨hi6, hf⟩ := ck_of hf
    refine rB_iast hC hR hS ok_q4 hi6 dX5_isFound_20 hf (fun S7 H locs hf hR hS hE8 => ?_)
    have ok_this := hE8 _ _ ok_this
    have ok_a1 := hE8 _ _ ok_a1
    have ok_a4 := fun q h => hE8 _ _ (ok_a4 q h)
    have ok_q4 := hE8 _ _ ok_q4
    have hE := hE.tr hE8
    refine lv_iconst (v := 0) hx hb dX5_isFound_21 (by decide) ?_
    refine lv_istore (lv' := [(5, .int (0 : Int32)), (0, .ref this), (1, .ref a1), (2, .int a2), (3, .int a3), (4, va_rf a4)]) hx hb dX5_isFound_22 hl (by decide) (by cases a4 <;> rfl) (fun ls hl => ?_)
    have hh29 : ∀ k : Nat, ∀ (x11 : Int32) (S12 : MS) (H : Heap) (locs : List Loc) (ls : Array Slot), f_X5_isFound_L24 n this a4 k x11 S12 = some (ro, So) → Rp G S12 H → va_S (gA G) s.heap H locs → Ex S S12 → Ok S12 this 5 → (∀ q, a4 = some q → Ok S12 q 7) → lv_has ls 6 [(0, .ref this), (4, va_rf a4), (5, .int x11)] → W p l e rX5_isFound s m args below meth c H locs 0 0 (MQ below (Qn G S (some (.int ro)) So) args s 0 0 (gA G)) (F0 m 24 ls []) := by
      intro k
      induction k with
      | zero =>
        intro x11 S12 H locs ls hf hR hS hE ok_this ok_a4 hl
        exact absurd hf (by rw [f_X5_isFound_L24]; exact fun h => by cases h)
      | succ k ih =>
        intro x11 S12 H locs ls hf hR hS hE ok_this ok_a4 hl
        rw [f_X5_isFound_L24] at hf
        obtain ⟨rec24_10, erec24_10, hf⟩ := jn_of2 hf
        have hL24_9 : ∀ (x11 : Int32) (S12 : MS) (H : Heap) (locs : List Loc) (ls : Array Slot), rec24_10 x11 S12 = some (ro, So) → Rp G S12 H → va_S (gA G) s.heap H locs → Ex S S12 → Ok S12 this 5 → (∀ q, a4 = some q → Ok S12 q 7) → lv_has ls 6 [(0, .ref this), (4, va_rf a4), (5, .int x11)] → W p l e rX5_isFound s m args below meth c H locs 0 0 (MQ below (Qn G S (some (.int ro)) So) args s 0 0 (gA G)) (F0 m 24 ls []) := by
          intro x11 S12 H locs ls hf hR hS hE ok_this ok_a4 hl
          rw [erec24_10] at hf
          exact ih x11 S12 _ _ _ hf hR hS hE ok_this ok_a4 hl
        refine lv_iload hx hb dX5_isFound_24 (lv_at hl 2 rfl) ?_
        refine r_aloadO hx hb dX5_isFound_26 (lv_at hl 1 rfl) ?_
        obtain ⟨q13, hq14, hf⟩ := nn_of hf
        have ok_q13 := ok_a4 q13 hq14
        refine W.eq (g2 := F0 m 28 ls [.ref q13, .int x11]) (by rw [hq14]; rfl) ?_
        refine gf_RX5_49 hC hR ok_q13 dX5_isFound_28 ?_
        refine lv_icmp_ge (tgt := 73) hx hb dX5_isFound_31 (by decide) (fun hc => ?_) (fun hc => ?_)
        · replace hf := if_t hf hc
          refine lv_iconst (v := 0) hx hb dX5_isFound_73 (by decide) ?_
          exact r_zret hC hR hS hE hf dX5_isFound_74
        · replace hf := if_f hf hc
          refine lv_iload hx hb dX5_isFound_34 (lv_at hl 2 rfl) ?_
          refine lv_bipush (v := 20) hx hb dX5_isFound_36 (by decide) ?_
          refine lv_icmp_ge (tgt := 73) hx hb dX5_isFound_38 (by decide) (fun hc => ?_) (fun hc => ?_)
          · replace hf := if_t hf hc
            refine lv_iconst (v := 0) hx hb dX5_isFound_73 (by decide) ?_
            exact r_zret hC hR hS hE hf dX5_isFound_74
          · replace hf := if_f hf hc
            refine r_aloadO hx hb dX5_isFound_41 (lv_at hl 1 rfl) ?_
            obtain ⟨q15, hq16, hf⟩ := nn_of hf
            have ok_q15 := ok_a4 q15 hq16
            refine W.eq (g2 := F0 m 43 ls [.ref q15]) (by rw [hq16]; rfl) ?_
            obtain ⟨q17, hq18, ok_q17, hf⟩ := gR_of hf
            refine gf_RX5_52 hC hR ok_q15 hq18 dX5_isFound_43 ?_
            refine lv_iload hx hb dX5_isFound_46 (lv_at hl 2 rfl) ?_
            obtain ⟨hi19, hf⟩ := ck_of hf
            refine r_iald hC hR ok_q17 hi19 dX5_isFound_48 ?_
            refine lv_bipush (v := 21) hx hb dX5_isFound_49 (by decide) ?_
            obtain ⟨j67_21, ej67_21, hf⟩ := jn_of1 hf
            have hj67_20 : ∀ (S22 : MS) (H : Heap) (locs : List Loc) (ls : Array Slot), j67_21 S22 = some (ro, So) → Rp G S22 H → va_S (gA G) s.heap H locs → Ex S S22 → Ok S22 this 5 → (∀ q, a4 = some q → Ok S22 q 7) → lv_has ls 6 [(0, .ref this), (4, va_rf a4), (5, .int x11)] → W p l e rX5_isFound s m args below meth c H locs 0 0 (MQ below (Qn G S (some (.int ro)) So) args s 0 0 (gA G)) (F0 m 67 ls []) := by
              intro S22 H locs ls hf hR hS hE ok_this ok_a4 hl
              rw [ej67_21] at hf
              refine r_iinc (n := 1) (z := 1) (lv' := fun x23 => [(5, .int x23), (0, .ref this), (4, va_rf a4)]) hx hb dX5_isFound_67 hl (k := 2) rfl (by decide) (by decide) (fun _ => (by cases a4 <;> rfl)) hf (fun x23 ls hf hl => ?_)
              refine lv_goto (tgt := 24) hx hb dX5_isFound_70 (by decide) ?_
              exact hL24_9 x23 S22 _ _ _ hf hR hS hE ok_this ok_a4 (lv_sub hl [1, 2, 0] rfl)
            refine lv_icmp_ne (tgt := 67) hx hb dX5_isFound_51 (by decide) (fun hc => ?_) (fun hc => ?_)
            · replace hf := if_f hf hc
              exact hj67_20 S12 _ _ _ hf hR hS hE ok_this ok_a4 (lv_sub hl [0, 1, 2] rfl)
            · replace hf := if_t hf hc
              refine lv_aload_n hx hb dX5_isFound_54 rfl (lv_at hl 0 rfl) ?_
              refine r_aloadO hx hb dX5_isFound_55 (lv_at hl 1 rfl) ?_
              refine lv_iload hx hb dX5_isFound_57 (lv_at hl 2 rfl) ?_
              obtain ⟨x27, S24, hc25, hf⟩ := cl_of hf
              refine cl_RX5_33 (As := [va_rf a4, .int x11]) (rest := []) hC hR hS (c_X5_value l G n this a4 x11 S12 x27 S24 hc25 ok_this ok_a4) ok_this rfl ⟨Nat.le_of_ble_eq_true rfl, Nat.le_of_ble_eq_true rfl⟩ hl.1 rfl (Nat.le_of_ble_eq_true rfl) dX5_isFound_59 (Nat.zero_le _) (Nat.zero_le _) (fun H locs hR hS hE26 => ?_)
              have ok_this := hE26 _ _ ok_this
              have ok_a4 := fun q h => hE26 _ _ (ok_a4 q h)
              have ok_q13 := hE26 _ _ ok_q13
              have ok_q15 := hE26 _ _ ok_q15
              have ok_q17 := hE26 _ _ ok_q17
              have hE := hE.tr hE26
              refine lv_if_eq (tgt := 67) hx hb dX5_isFound_62 (by decide) (fun hc => ?_) (fun hc => ?_)
              · replace hf := if_t hf hc
                exact hj67_20 S24 _ _ _ hf hR hS hE ok_this ok_a4 (lv_sub hl [0, 1, 2] rfl)
              · replace hf := if_f hf hc
                refine lv_iconst (v := 1) hx hb dX5_isFound_65 (by decide) ?_
                exact r_zret hC hR hS hE hf dX5_isFound_66
    exact hh29 n (0 : Int32) S7 _ _ _ hf hR hS hE ok_this ok_a4 (lv_sub hl [1, 5, 0] rfl)
  · replace hf := if_t hf hc
    refine lv_iconst (v := 0) hx hb dX5_isFound_5 (by decide) ?_
    exact r_zret hC hR hS hE hf dX5_isFound_6
abbrev rX5_harvest : Room := { frames := 3, cells := 0, slots := 0, locals := 79 }
def f_X5_harvest (n : Nat) (this : Nat) (a1 : Nat) (a2 : Int32) (a3 : Int64) (a4 : Option Nat) (S : MS) : Option (Int32 × MS) :=
  gR S (mR S a1 6) 12 fun q1 => ck (inb a2 (mN S q1)) (bd ((mI S a1 8) - (mI S q1 a2.toNatClampNeg)) fun x4 => (if a4 = none then some ((imin (999 : Int32) x4), S) else nn a4 fun q5 => (if (mI S q5 9) = (-1 : Int32) then some ((imin (999 : Int32) x4), S) else gR S (mR S this 0) 12 fun q7 => ck (inb (9 : Int32) (mN S q7)) (bd (sI S q7 (9 : Int32).toNatClampNeg x4) fun S10 => gR S10 (mR S10 this 0) 12 fun q12 => gR S10 (mR S10 a1 0) 1 fun q14 => dv (mI S10 q14 0) (ck (inb (3 : Int32) (mN S10 q12)) (bd (sI S10 q12 (3 : Int32).toNatClampNeg (a2 - a2 / (mI S10 q14 0) * (mI S10 q14 0))) fun S18 => gR S18 (mR S18 this 0) 12 fun q20 => gR S18 (mR S18 a1 0) 1 fun q22 => dv (mI S18 q22 0) (ck (inb (4 : Int32) (mN S18 q20)) (bd (sI S18 q20 (4 : Int32).toNatClampNeg (a2 / (mI S18 q22 0))) fun S26 => gR S26 (mR S26 this 0) 12 fun q28 => cl (f_J13_bitCount_95d88 n a3 S26) fun x33 S30 => ck (inb (10 : Int32) (mN S30 q28)) (bd (sI S30 q28 (10 : Int32).toNatClampNeg x33) fun S35 => gR S35 (mR S35 this 0) 12 fun q37 => cl (f_J13_bitCount_95d88 n (a3 &&& (mJ S35 a1 9)) S35) fun x42 S39 => ck (inb (11 : Int32) (mN S39 q37)) (bd (sI S39 q37 (11 : Int32).toNatClampNeg x42) fun S44 => nn a4 fun q46 => cl (f_X5_value n this a4 (mI S44 q46 9) S44) fun x51 S48 => some ((imax (0 : Int32) (imin (999 : Int32) x51)), S48)))))))))))
set_option maxRecDepth 100000 in
set_option maxHeartbeats 4000000 in
theorem c_X5_harvest (l : Launch) (G : Gx) (n : Nat) (this : Nat) (a1 : Nat) (a2 : Int32) (a3 : Int64) (a4 : Option Nat) (S : MS) (ro : Int32) (So : MS) (hf : f_X5_harvest n this a1 a2 a3 a4 S = some (ro, So)) (ok_this : Ok S this 5) (ok_a1 : Ok S a1 3) (ok_a4 : ∀ q, a4 = some q → Ok S q 7) : Cn G l yX5_harvest cX5_harvest 7 (some .int) rX5_harvest [.ref this, .ref a1, .int a2, .long a3, va_rf a4] S (some (.int ro)) So := by
  refine Cn.of (by decide) (by cases a4 <;> exact Nat.le_of_ble_eq_true rfl) ?_
  intro p e s m args below meth c hC hname hR ls hl
  have hC : Cx G RX5 cX5_harvest 7 (some .int) p s m args meth c := hC
  have hl : lv_has ls 7 [(0, .ref this), (1, .ref a1), (2, .int a2), (3, .long a3), (5, va_rf a4)] := by cases a4 <;> exact hl
  have hx := hC.x
  have hb := hC.b
  have hS : va_S (gA G) s.heap s.heap [] := va_S.rf
  have hE : Ex S S := Ex.rf S
  unfold f_X5_harvest at hf
  refine lv_aload_n hx hb dX5_harvest_0 rfl (lv_at hl 1 rfl) ?_
  refine gf_RX5_55 hC hR ok_a1 dX5_harvest_1 ?_
  refine lv_aload_n hx hb dX5_harvest_4 rfl (lv_at hl 1 rfl) ?_
  obtain ⟨q1, hq2, ok_q1, hf⟩ := gR_of hf
  refine gf_RX5_58 hC hR ok_a1 hq2 dX5_harvest_5 ?_
  refine lv_iload_n hx hb dX5_harvest_8 rfl (lv_at hl 2 rfl) ?_
  obtain ⟨hi3, hf⟩ := ck_of hf
  refine r_iald hC hR ok_q1 hi3 dX5_harvest_9 ?_
  refine lv_isub hx hb dX5_harvest_10 ?_
  refine bdi hf (fun x4 hf => ?_)
  refine lv_istore (lv' := [(6, .int x4), (0, .ref this), (1, .ref a1), (2, .int a2), (3, .long a3), (5, va_rf a4)]) hx hb dX5_harvest_11 hl (by decide) (by cases a4 <;> rfl) (fun ls hl => ?_)
  refine r_aloadO hx hb dX5_harvest_13 (lv_at hl 5 rfl) ?_
  refine r_ifnullO (tgt := 27) hx hb dX5_harvest_15 (by decide) (fun hc => ?_) (fun hc => ?_)
  · replace hf := if_t hf hc
    refine lv_sipush (v := 999) hx hb dX5_harvest_27 (by decide) ?_
    refine lv_iload hx hb dX5_harvest_30 (lv_at hl 0 rfl) ?_
    refine r_imin (v := (imin (999 : Int32) x4)) hC hl.1 (bg31 _ (List.mem_of_getElem? (i := 18) rfl)) rfl (Nat.le_of_ble_eq_true rfl) (Nat.le_of_ble_eq_true rfl) (Nat.zero_le _) (Nat.zero_le _) dX5_harvest_32 ?_
    exact r_iret hC hR hS hE hf dX5_harvest_35
  · replace hf := if_f hf hc
    refine r_aloadO hx hb dX5_harvest_18 (lv_at hl 5 rfl) ?_
    obtain ⟨q5, hq6, hf⟩ := nn_of hf
    have ok_q5 := ok_a4 q5 hq6
    refine W.eq (g2 := F0 m 20 ls [.ref q5]) (by rw [hq6]; rfl) ?_
    refine gf_RX5_61 hC hR ok_q5 dX5_harvest_20 ?_
    refine lv_iconst (v := -1) hx hb dX5_harvest_23 (by decide) ?_
    refine lv_icmp_ne (tgt := 36) hx hb dX5_harvest_24 (by decide) (fun hc => ?_) (fun hc => ?_)
    · replace hf := if_f hf hc
      refine lv_aload_n hx hb dX5_harvest_36 rfl (lv_at hl 1 rfl) ?_
      obtain ⟨q7, hq8, ok_q7, hf⟩ := gR_of hf
      refine gf_RX5_9 hC hR ok_this hq8 dX5_harvest_37 ?_
      refine lv_bipush (v := 9) hx hb dX5_harvest_40 (by decide) ?_
      refine lv_iload hx hb dX5_harvest_42 (lv_at hl 0 rfl) ?_
      obtain ⟨hi9, hf⟩ := ck_of hf
      refine rB_iast hC hR hS ok_q7 hi9 dX5_harvest_44 hf (fun S10 H locs hf hR hS hE11 => ?_)
      have ok_this := hE11 _ _ ok_this
      have ok_a1 := hE11 _ _ ok_a1
      have ok_a4 := fun q h => hE11 _ _ (ok_a4 q h)
      have ok_q1 := hE11 _ _ ok_q1
      have ok_q5 := hE11 _ _ ok_q5
      have ok_q7 := hE11 _ _ ok_q7
      have hE := hE.tr hE11
      refine lv_aload_n hx hb dX5_harvest_45 rfl (lv_at hl 1 rfl) ?_
      obtain ⟨q12, hq13, ok_q12, hf⟩ := gR_of hf
      refine gf_RX5_9 hC hR ok_this hq13 dX5_harvest_46 ?_
      refine lv_iconst (v := 3) hx hb dX5_harvest_49 (by decide) ?_
      refine lv_iload_n hx hb dX5_harvest_50 rfl (lv_at hl 3 rfl) ?_
      refine lv_aload_n hx hb dX5_harvest_51 rfl (lv_at hl 2 rfl) ?_
      obtain ⟨q14, hq15, ok_q14, hf⟩ := gR_of hf
      refine gf_RX5_64 hC hR ok_a1 hq15 dX5_harvest_52 ?_
      refine gf_RX5_68 hC hR ok_q14 dX5_harvest_55 ?_
      obtain ⟨hn16, hf⟩ := dv_of hf
      refine lv_irem hx hb dX5_harvest_58 hn16 ?_
      obtain ⟨hi17, hf⟩ := ck_of hf
      refine rB_iast hC hR hS ok_q12 hi17 dX5_harvest_59 hf (fun S18 H locs hf hR hS hE19 => ?_)
      have ok_this := hE19 _ _ ok_this
      have ok_a1 := hE19 _ _ ok_a1
      have ok_a4 := fun q h => hE19 _ _ (ok_a4 q h)
      have ok_q1 := hE19 _ _ ok_q1
      have ok_q5 := hE19 _ _ ok_q5
      have ok_q7 := hE19 _ _ ok_q7
      have ok_q12 := hE19 _ _ ok_q12
      have ok_q14 := hE19 _ _ ok_q14
      have hE := hE.tr hE19
      refine lv_aload_n hx hb dX5_harvest_60 rfl (lv_at hl 1 rfl) ?_
      obtain ⟨q20, hq21, ok_q20, hf⟩ := gR_of hf
      refine gf_RX5_9 hC hR ok_this hq21 dX5_harvest_61 ?_
      refine lv_iconst (v := 4) hx hb dX5_harvest_64 (by decide) ?_
      refine lv_iload_n hx hb dX5_harvest_65 rfl (lv_at hl 3 rfl) ?_
      refine lv_aload_n hx hb dX5_harvest_66 rfl (lv_at hl 2 rfl) ?_
      obtain ⟨q22, hq23, ok_q22, hf⟩ := gR_of hf
      refine gf_RX5_64 hC hR ok_a1 hq23 dX5_harvest_67 ?_
      refine gf_RX5_68 hC hR ok_q22 dX5_harvest_70 ?_
      obtain ⟨hn24, hf⟩ := dv_of hf
      refine lv_idiv hx hb dX5_harvest_73 hn24 ?_
      obtain ⟨hi25, hf⟩ := ck_of hf
      refine rB_iast hC hR hS ok_q20 hi25 dX5_harvest_74 hf (fun S26 H locs hf hR hS hE27 => ?_)
      have ok_this := hE27 _ _ ok_this
      have ok_a1 := hE27 _ _ ok_a1
      have ok_a4 := fun q h => hE27 _ _ (ok_a4 q h)
      have ok_q1 := hE27 _ _ ok_q1
      have ok_q5 := hE27 _ _ ok_q5
      have ok_q7 := hE27 _ _ ok_q7
      have ok_q12 := hE27 _ _ ok_q12
      have ok_q14 := hE27 _ _ ok_q14
      have ok_q20 := hE27 _ _ ok_q20
      have ok_q22 := hE27 _ _ ok_q22
      have hE := hE.tr hE27
      refine lv_aload_n hx hb dX5_harvest_75 rfl (lv_at hl 1 rfl) ?_
      obtain ⟨q28, hq29, ok_q28, hf⟩ := gR_of hf
      refine gf_RX5_9 hC hR ok_this hq29 dX5_harvest_76 ?_
      refine lv_bipush (v := 10) hx hb dX5_harvest_79 (by decide) ?_
      refine lv_lload_n hx hb dX5_harvest_81 rfl (lv_at hl 4 rfl) ?_
      obtain ⟨x33, S30, hc31, hf⟩ := cl_of hf
      refine cl_RX5_73 (As := [.long a3]) (rest := [.int (10 : Int32), .ref q28]) hC hR hS (c_J13_bitCount_95d88 l G n a3 S26 x33 S30 hc31 ) rfl ⟨Nat.le_of_ble_eq_true rfl, Nat.le_of_ble_eq_true rfl⟩ hl.1 rfl (Nat.le_of_ble_eq_true rfl) dX5_harvest_82 (Nat.zero_le _) (Nat.zero_le _) (fun H locs hR hS hE32 => ?_)
      have ok_this := hE32 _ _ ok_this
      have ok_a1 := hE32 _ _ ok_a1
      have ok_a4 := fun q h => hE32 _ _ (ok_a4 q h)
      have ok_q1 := hE32 _ _ ok_q1
      have ok_q5 := hE32 _ _ ok_q5
      have ok_q7 := hE32 _ _ ok_q7
      have ok_q12 := hE32 _ _ ok_q12
      have ok_q14 := hE32 _ _ ok_q14
      have ok_q20 := hE32 _ _ ok_q20
      have ok_q22 := hE32 _ _ ok_q22
      have ok_q28 := hE32 _ _ ok_q28
      have hE := hE.tr hE32
      obtain ⟨hi34, hf⟩ := ck_of hf
      refine rB_iast hC hR hS ok_q28 hi34 dX5_harvest_85 hf (fun S35 H locs hf hR hS hE36 => ?_)
      have ok_this := hE36 _ _ ok_this
      have ok_a1 := hE36 _ _ ok_a1
      have ok_a4 := fun q h => hE36 _ _ (ok_a4 q h)
      have ok_q1 := hE36 _ _ ok_q1
      have ok_q5 := hE36 _ _ ok_q5
      have ok_q7 := hE36 _ _ ok_q7
      have ok_q12 := hE36 _ _ ok_q12
      have ok_q14 := hE36 _ _ ok_q14
      have ok_q20 := hE36 _ _ ok_q20
      have ok_q22 := hE36 _ _ ok_q22
      have ok_q28 := hE36 _ _ ok_q28
      have hE := hE.tr hE36
      refine lv_aload_n hx hb dX5_harvest_86 rfl (lv_at hl 1 rfl) ?_
      obtain ⟨q37, hq38, ok_q37, hf⟩ := gR_of hf
      refine gf_RX5_9 hC hR ok_this hq38 dX5_harvest_87 ?_
      refine lv_bipush (v := 11) hx hb dX5_harvest_90 (by decide) ?_
      refine lv_lload_n hx hb dX5_harvest_92 rfl (lv_at hl 4 rfl) ?_
      refine lv_aload_n hx hb dX5_harvest_93 rfl (lv_at hl 2 rfl) ?_
      refine gf_RX5_79 hC hR ok_a1 dX5_harvest_94 ?_
      refine lv_land hx hb dX5_harvest_97 ?_
      obtain ⟨x42, S39, hc40, hf⟩ := cl_of hf
      refine cl_RX5_73 (As := [.long (a3 &&& (mJ S35 a1 9))]) (rest := [.int (11 : Int32), .ref q37]) hC hR hS (c_J13_bitCount_95d88 l G n (a3 &&& (mJ S35 a1 9)) S35 x42 S39 hc40 ) rfl ⟨Nat.le_of_ble_eq_true rfl, Nat.le_of_ble_eq_true rfl⟩ hl.1 rfl (Nat.le_of_ble_eq_true rfl) dX5_harvest_98 (Nat.zero_le _) (Nat.zero_le _) (fun H locs hR hS hE41 => ?_)
      have ok_this := hE41 _ _ ok_this
      have ok_a1 := hE41 _ _ ok_a1
      have ok_a4 := fun q h => hE41 _ _ (ok_a4 q h)
      have ok_q1 := hE41 _ _ ok_q1
      have ok_q5 := hE41 _ _ ok_q5
      have ok_q7 := hE41 _ _ ok_q7
      have ok_q12 := hE41 _ _ ok_q12
      have ok_q14 := hE41 _ _ ok_q14
      have ok_q20 := hE41 _ _ ok_q20
      have ok_q22 := hE41 _ _ ok_q22
      have ok_q28 := hE41 _ _ ok_q28
      have ok_q37 := hE41 _ _ ok_q37
      have hE := hE.tr hE41
      obtain ⟨hi43, hf⟩ := ck_of hf
      refine rB_iast hC hR hS ok_q37 hi43 dX5_harvest_101 hf (fun S44 H locs hf hR hS hE45 => ?_)
      have ok_this := hE45 _ _ ok_this
      have ok_a1 := hE45 _ _ ok_a1
      have ok_a4 := fun q h => hE45 _ _ (ok_a4 q h)
      have ok_q1 := hE45 _ _ ok_q1
      have ok_q5 := hE45 _ _ ok_q5
      have ok_q7 := hE45 _ _ ok_q7
      have ok_q12 := hE45 _ _ ok_q12
      have ok_q14 := hE45 _ _ ok_q14
      have ok_q20 := hE45 _ _ ok_q20
      have ok_q22 := hE45 _ _ ok_q22
      have ok_q28 := hE45 _ _ ok_q28
      have ok_q37 := hE45 _ _ ok_q37
      have hE := hE.tr hE45
      refine lv_iconst (v := 0) hx hb dX5_harvest_102 (by decide) ?_
      refine lv_sipush (v := 999) hx hb dX5_harvest_103 (by decide) ?_
      refine lv_aload_n hx hb dX5_harvest_106 rfl (lv_at hl 1 rfl) ?_
      refine r_aloadO hx hb dX5_harvest_107 (lv_at hl 5 rfl) ?_
      refine r_aloadO hx hb dX5_harvest_109 (lv_at hl 5 rfl) ?_
      obtain ⟨q46, hq47, hf⟩ := nn_of hf
      have ok_q46 := ok_a4 q46 hq47
      refine W.eq (g2 := F0 m 111 ls [.ref q46, va_rf a4, .ref this, .int (999 : Int32), .int (0 : Int32)]) (by rw [hq47]; rfl) ?_
      refine gf_RX5_61 hC hR ok_q46 dX5_harvest_111 ?_
      obtain ⟨x51, S48, hc49, hf⟩ := cl_of hf
      refine cl_RX5_33 (As := [va_rf a4, .int (mI S44 q46 9)]) (rest := [.int (999 : Int32), .int (0 : Int32)]) hC hR hS (c_X5_value l G n this a4 (mI S44 q46 9) S44 x51 S48 hc49 ok_this ok_a4) ok_this rfl ⟨Nat.le_of_ble_eq_true rfl, Nat.le_of_ble_eq_true rfl⟩ hl.1 rfl (Nat.le_of_ble_eq_true rfl) dX5_harvest_114 (Nat.zero_le _) (Nat.zero_le _) (fun H locs hR hS hE50 => ?_)
      have ok_this := hE50 _ _ ok_this
      have ok_a1 := hE50 _ _ ok_a1
      have ok_a4 := fun q h => hE50 _ _ (ok_a4 q h)
      have ok_q1 := hE50 _ _ ok_q1
      have ok_q5 := hE50 _ _ ok_q5
      have ok_q7 := hE50 _ _ ok_q7
      have ok_q12 := hE50 _ _ ok_q12
      have ok_q14 := hE50 _ _ ok_q14
      have ok_q20 := hE50 _ _ ok_q20
      have ok_q22 := hE50 _ _ ok_q22
      have ok_q28 := hE50 _ _ ok_q28
      have ok_q37 := hE50 _ _ ok_q37
      have ok_q46 := hE50 _ _ ok_q46
      have hE := hE.tr hE50
      refine r_imin (v := (imin (999 : Int32) x51)) hC hl.1 (bg31 _ (List.mem_of_getElem? (i := 18) rfl)) rfl (Nat.le_of_ble_eq_true rfl) (Nat.le_of_ble_eq_true rfl) (Nat.zero_le _) (Nat.zero_le _) dX5_harvest_117 ?_
      refine r_imax (v := (imax (0 : Int32) (imin (999 : Int32) x51))) hC hl.1 (bg32 _ (List.mem_of_getElem? (i := 17) rfl)) rfl (Nat.le_of_ble_eq_true rfl) (Nat.le_of_ble_eq_true rfl) (Nat.zero_le _) (Nat.zero_le _) dX5_harvest_120 ?_
      exact r_iret hC hR hS hE hf dX5_harvest_123
    · replace hf := if_t hf hc
      refine lv_sipush (v := 999) hx hb dX5_harvest_27 (by decide) ?_
      refine lv_iload hx hb dX5_harvest_30 (lv_at hl 0 rfl) ?_
      refine r_imin (v := (imin (999 : Int32) x4)) hC hl.1 (bg31 _ (List.mem_of_getElem? (i := 18) rfl)) rfl (Nat.le_of_ble_eq_true rfl) (Nat.le_of_ble_eq_true rfl) (Nat.zero_le _) (Nat.zero_le _) dX5_harvest_32 ?_
      exact r_iret hC hR hS hE hf dX5_harvest_35
abbrev rX6_init : Room := { frames := 1, cells := 1, slots := 300, locals := 40 }
def f_X6_init (_n : Nat) (z : Nat) (this : Nat) (S : MS) : Option (MS) :=
  ck (nak (300 : Int32) 300) (jn (z + (mL S).length) fun q1 => bd (nw S q1 12 (300 : Int32).toNatClampNeg) fun S2 => bd (sR S2 this 0 (some q1)) fun S5 => some S5)
set_option maxRecDepth 100000 in
set_option maxHeartbeats 4000000 in
theorem c_X6_init (l : Launch) (G : Gx) (n : Nat) (this : Nat) (S : MS) (So : MS) (hf : f_X6_init n G.2.2 this S = some So) (ok_this : Ok S this 6) : Cn G l yX6_init cX6_init 1 none rX6_init [.ref this] S none So := by
  refine Cn.of (by decide) (Nat.le_of_ble_eq_true rfl) ?_
  intro p e s m args below meth c hC hname hR ls hl
  have hC : Cx G RX6 cX6_init 1 none p s m args meth c := hC
  have hl : lv_has ls 1 [(0, .ref this)] := hl
  have hx := hC.x
  have hb := hC.b
  have hS : va_S (gA G) s.heap s.heap [] := va_S.rf
  have hE : Ex S S := Ex.rf S
  unfold f_X6_init at hf
  refine lv_aload_n hx hb dX6_init_0 rfl (lv_at hl 0 rfl) ?_
  refine r_obj hC hl.1 (bg4 _ (List.mem_of_getElem? (i := 5) rfl)) (bg1 _ (List.mem_of_getElem? (i := 14) rfl)) (bg1 _ (List.mem_of_getElem? (i := 15) rfl)) (Nat.le_of_ble_eq_true rfl) (Nat.le_of_ble_eq_true rfl) dX6_init_1 ?_
  refine lv_aload_n hx hb dX6_init_4 rfl (lv_at hl 0 rfl) ?_
  refine lv_sipush (v := 300) hx hb dX6_init_5 (by decide) ?_
  obtain ⟨hi4, hf⟩ := ck_of hf
  obtain ⟨q1, eq1, hf⟩ := jn_of hf
  refine r_newa (ci := 12) (NB := 300) (t0 := 0) (ty := .int) rfl (bg3 _ (List.mem_of_getElem? (i := 15) rfl)) rfl (fun _ _ h => h) (atI G) (by decide) hC hR hS hi4 (Nat.le_of_ble_eq_true rfl) (Nat.le_of_ble_eq_true rfl) dX6_init_8 eq1 hf (fun S2 H hf hR hS hE3 ok_q1 => ?_)
  have ok_this := hE3 _ _ ok_this
  have hE := hE.tr hE3
  refine pf_RX6_9 hC hR hS ok_this hname dX6_init_10 hf (fun S5 H locs hf hR hS hE6 => ?_)
  have ok_this := hE6 _ _ ok_this
  have ok_q1 := hE6 _ _ ok_q1
  have hE := hE.tr hE6
  refine W.widen (k := 1) (n := 300) (Nat.le_of_ble_eq_true rfl) (Nat.le_of_ble_eq_true rfl) ?_
  exact r_vret hC hR hS hE hf dX6_init_13
abbrev rX6_add : Room := { frames := 0, cells := 0, slots := 0, locals := 0 }
def f_X6_add_L3 (n : Nat) (this : Nat) (a1 : Int32) : Nat → Int32 → MS → Option (MS)
  | 0, _, _ => none
  | k + 1, x3, S4 => jn (f_X6_add_L3 n this a1 k) fun rec3_2 => (if x3 < 0 then some S4 else (if (300 : Int32) ≤ (mI S4 this 1) then some S4 else gR S4 (mR S4 this 0) 12 fun q5 => ck (inb (mI S4 this 1) (mN S4 q5)) (bd (sI S4 q5 (mI S4 this 1).toNatClampNeg ((iush a1 x3) &&& (255 : Int32))) fun S8 => bd (sI S8 this 1 ((mI S8 this 1) + (1 : Int32))) fun S10 => bd (x3 + (-8 : Int32)) fun x12 => rec3_2 x12 S10)))
def f_X6_add (n : Nat) (this : Nat) (a1 : Int32) (S : MS) : Option (MS) :=
  f_X6_add_L3 n this a1 n (24 : Int32) S
set_option maxRecDepth 100000 in
set_option maxHeartbeats 4000000 in
theorem c_X6_add (l : Launch) (G : Gx) (n : Nat) (this : Nat) (a1 : Int32) (S : MS) (So : MS) (hf : f_X6_add n this a1 S = some So) (ok_this : Ok S this 6) : Cn G l yX6_add cX6_add 3 none rX6_add [.ref this, .int a1] S none So := by
  refine Cn.of (by decide) (Nat.le_of_ble_eq_true rfl) ?_
  intro p e s m args below meth c hC hname hR ls hl
  have hC : Cx G RX6 cX6_add 3 none p s m args meth c := hC
  have hl : lv_has ls 3 [(0, .ref this), (1, .int a1)] := hl
  have hx := hC.x
  have hb := hC.b
  have hS : va_S (gA G) s.heap s.heap [] := va_S.rf
  have hE : Ex S S := Ex.rf S
  unfold f_X6_add at hf
  refine lv_bipush (v := 24) hx hb dX6_add_0 (by decide) ?_
  refine lv_istore_n (lv' := [(2, .int (24 : Int32)), (0, .ref this), (1, .int a1)]) hx hb dX6_add_2 rfl hl (by decide) rfl (fun ls hl => ?_)
  have hh13 : ∀ k : Nat, ∀ (x3 : Int32) (S4 : MS) (H : Heap) (locs : List Loc) (ls : Array Slot), f_X6_add_L3 n this a1 k x3 S4 = some So → Rp G S4 H → va_S (gA G) s.heap H locs → Ex S S4 → Ok S4 this 6 → lv_has ls 3 [(0, .ref this), (1, .int a1), (2, .int x3)] → W p l e rX6_add s m args below meth c H locs 0 0 (MQ below (Qn G S none So) args s 0 0 (gA G)) (F0 m 3 ls []) := by
    intro k
    induction k with
    | zero =>
      intro x3 S4 H locs ls hf hR hS hE ok_this hl
      exact absurd hf (by rw [f_X6_add_L3]; exact fun h => by cases h)
    | succ k ih =>
      intro x3 S4 H locs ls hf hR hS hE ok_this hl
      rw [f_X6_add_L3] at hf
      obtain ⟨rec3_2, erec3_2, hf⟩ := jn_of2 hf
      have hL3_1 : ∀ (x3 : Int32) (S4 : MS) (H : Heap) (locs : List Loc) (ls : Array Slot), rec3_2 x3 S4 = some So → Rp G S4 H → va_S (gA G) s.heap H locs → Ex S S4 → Ok S4 this 6 → lv_has ls 3 [(0, .ref this), (1, .int a1), (2, .int x3)] → W p l e rX6_add s m args below meth c H locs 0 0 (MQ below (Qn G S none So) args s 0 0 (gA G)) (F0 m 3 ls []) := by
        intro x3 S4 H locs ls hf hR hS hE ok_this hl
        rw [erec3_2] at hf
        exact ih x3 S4 _ _ _ hf hR hS hE ok_this hl
      refine lv_iload_n hx hb dX6_add_3 rfl (lv_at hl 2 rfl) ?_
      refine lv_if_lt (tgt := 49) hx hb dX6_add_4 (by decide) (fun hc => ?_) (fun hc => ?_)
      · replace hf := if_t hf hc
        exact r_vret hC hR hS hE hf dX6_add_49
      · replace hf := if_f hf hc
        refine lv_aload_n hx hb dX6_add_7 rfl (lv_at hl 0 rfl) ?_
        refine gf_RX6_15 hC hR ok_this dX6_add_8 ?_
        refine lv_sipush (v := 300) hx hb dX6_add_11 (by decide) ?_
        refine lv_icmp_ge (tgt := 49) hx hb dX6_add_14 (by decide) (fun hc => ?_) (fun hc => ?_)
        · replace hf := if_t hf hc
          exact r_vret hC hR hS hE hf dX6_add_49
        · replace hf := if_f hf hc
          refine lv_aload_n hx hb dX6_add_17 rfl (lv_at hl 0 rfl) ?_
          obtain ⟨q5, hq6, ok_q5, hf⟩ := gR_of hf
          refine gf_RX6_9 hC hR ok_this hq6 dX6_add_18 ?_
          refine lv_aload_n hx hb dX6_add_21 rfl (lv_at hl 0 rfl) ?_
          refine gf_RX6_15 hC hR ok_this dX6_add_22 ?_
          refine lv_iload_n hx hb dX6_add_25 rfl (lv_at hl 1 rfl) ?_
          refine lv_iload_n hx hb dX6_add_26 rfl (lv_at hl 2 rfl) ?_
          refine lv_iushr (v := (iush a1 x3)) hx hb dX6_add_27 rfl ?_
          refine lv_sipush (v := 255) hx hb dX6_add_28 (by decide) ?_
          refine lv_iand hx hb dX6_add_31 ?_
          obtain ⟨hi7, hf⟩ := ck_of hf
          refine rB_iast hC hR hS ok_q5 hi7 dX6_add_32 hf (fun S8 H locs hf hR hS hE9 => ?_)
          have ok_this := hE9 _ _ ok_this
          have ok_q5 := hE9 _ _ ok_q5
          have hE := hE.tr hE9
          refine lv_aload_n hx hb dX6_add_33 rfl (lv_at hl 0 rfl) ?_
          refine lv_dup hx hb dX6_add_34 rfl ?_
          refine gf_RX6_15 hC hR ok_this dX6_add_35 ?_
          refine lv_iconst (v := 1) hx hb dX6_add_38 (by decide) ?_
          refine lv_iadd hx hb dX6_add_39 ?_
          refine pf_RX6_15 hC hR hS ok_this dX6_add_40 hf (fun S10 H locs hf hR hS hE11 => ?_)
          have ok_this := hE11 _ _ ok_this
          have ok_q5 := hE11 _ _ ok_q5
          have hE := hE.tr hE11
          refine r_iinc (n := -8) (z := -8) (lv' := fun x12 => [(2, .int x12), (0, .ref this), (1, .int a1)]) hx hb dX6_add_43 hl (k := 2) rfl (by decide) (by decide) (fun _ => rfl) hf (fun x12 ls hf hl => ?_)
          refine lv_goto (tgt := 3) hx hb dX6_add_46 (by decide) ?_
          exact hL3_1 x12 S10 _ _ _ hf hR hS hE ok_this (lv_sub hl [1, 2, 0] rfl)
  exact hh13 n (24 : Int32) S _ _ _ hf hR hS hE ok_this (lv_sub hl [1, 2, 0] rfl)
abbrev rX7_init : Room := { frames := 1, cells := 5, slots := 380, locals := 40 }
def f_X7_init (_n : Nat) (z : Nat) (this : Nat) (S : MS) : Option (MS) :=
  ck (nak (20 : Int32) 20) (jn (z + (mL S).length) fun q1 => bd (nw S q1 12 (20 : Int32).toNatClampNeg) fun S2 => bd (sR S2 this 0 (some q1)) fun S5 => ck (nak (20 : Int32) 20) (jn (z + (mL S5).length) fun q7 => bd (nw S5 q7 12 (20 : Int32).toNatClampNeg) fun S8 => bd (sR S8 this 1 (some q7)) fun S11 => ck (nak (20 : Int32) 20) (jn (z + (mL S11).length) fun q13 => bd (nw S11 q13 12 (20 : Int32).toNatClampNeg) fun S14 => bd (sR S14 this 2 (some q13)) fun S17 => ck (nak (20 : Int32) 20) (jn (z + (mL S17).length) fun q19 => bd (nw S17 q19 12 (20 : Int32).toNatClampNeg) fun S20 => bd (sR S20 this 3 (some q19)) fun S23 => ck (nak (300 : Int32) 300) (jn (z + (mL S23).length) fun q25 => bd (nw S23 q25 12 (300 : Int32).toNatClampNeg) fun S26 => bd (sR S26 this 4 (some q25)) fun S29 => some S29)))))
set_option maxRecDepth 100000 in
set_option maxHeartbeats 4000000 in
theorem c_X7_init (l : Launch) (G : Gx) (n : Nat) (this : Nat) (S : MS) (So : MS) (hf : f_X7_init n G.2.2 this S = some So) (ok_this : Ok S this 7) : Cn G l yX7_init cX7_init 1 none rX7_init [.ref this] S none So := by
  refine Cn.of (by decide) (Nat.le_of_ble_eq_true rfl) ?_
  intro p e s m args below meth c hC hname hR ls hl
  have hC : Cx G RX7 cX7_init 1 none p s m args meth c := hC
  have hl : lv_has ls 1 [(0, .ref this)] := hl
  have hx := hC.x
  have hb := hC.b
  have hS : va_S (gA G) s.heap s.heap [] := va_S.rf
  have hE : Ex S S := Ex.rf S
  unfold f_X7_init at hf
  refine lv_aload_n hx hb dX7_init_0 rfl (lv_at hl 0 rfl) ?_
  refine r_obj hC hl.1 (bg14 _ (List.mem_of_getElem? (i := 0) rfl)) (bg1 _ (List.mem_of_getElem? (i := 14) rfl)) (bg1 _ (List.mem_of_getElem? (i := 15) rfl)) (Nat.le_of_ble_eq_true rfl) (Nat.le_of_ble_eq_true rfl) dX7_init_1 ?_
  refine lv_aload_n hx hb dX7_init_4 rfl (lv_at hl 0 rfl) ?_
  refine lv_bipush (v := 20) hx hb dX7_init_5 (by decide) ?_
  obtain ⟨hi4, hf⟩ := ck_of hf
  obtain ⟨q1, eq1, hf⟩ := jn_of hf
  refine r_newa (ci := 12) (NB := 20) (t0 := 0) (ty := .int) rfl (bg3 _ (List.mem_of_getElem? (i := 15) rfl)) rfl (fun _ _ h => h) (atI G) (by decide) hC hR hS hi4 (Nat.le_of_ble_eq_true rfl) (Nat.le_of_ble_eq_true rfl) dX7_init_7 eq1 hf (fun S2 H hf hR hS hE3 ok_q1 => ?_)
  have ok_this := hE3 _ _ ok_this
  have hE := hE.tr hE3
  refine pf_RX7_9 hC hR hS ok_this hname dX7_init_9 hf (fun S5 H locs hf hR hS hE6 => ?_)
  have ok_this := hE6 _ _ ok_this
  have ok_q1 := hE6 _ _ ok_q1
  have hE := hE.tr hE6
  refine lv_aload_n hx hb dX7_init_12 rfl (lv_at hl 0 rfl) ?_
  refine lv_bipush (v := 20) hx hb dX7_init_13 (by decide) ?_
  obtain ⟨hi10, hf⟩ := ck_of hf
  obtain ⟨q7, eq7, hf⟩ := jn_of hf
  refine r_newa (ci := 12) (NB := 20) (t0 := 0) (ty := .int) rfl (bg3 _ (List.mem_of_getElem? (i := 15) rfl)) rfl (fun _ _ h => h) (atI G) (by decide) hC hR hS hi10 (Nat.le_of_ble_eq_true rfl) (Nat.le_of_ble_eq_true rfl) dX7_init_15 eq7 hf (fun S8 H hf hR hS hE9 ok_q7 => ?_)
  have ok_this := hE9 _ _ ok_this
  have ok_q1 := hE9 _ _ ok_q1
  have hE := hE.tr hE9
  refine pf_RX7_15 hC hR hS ok_this hname dX7_init_17 hf (fun S11 H locs hf hR hS hE12 => ?_)
  have ok_this := hE12 _ _ ok_this
  have ok_q1 := hE12 _ _ ok_q1
  have ok_q7 := hE12 _ _ ok_q7
  have hE := hE.tr hE12
  refine lv_aload_n hx hb dX7_init_20 rfl (lv_at hl 0 rfl) ?_
  refine lv_bipush (v := 20) hx hb dX7_init_21 (by decide) ?_
  obtain ⟨hi16, hf⟩ := ck_of hf
  obtain ⟨q13, eq13, hf⟩ := jn_of hf
  refine r_newa (ci := 12) (NB := 20) (t0 := 0) (ty := .int) rfl (bg3 _ (List.mem_of_getElem? (i := 15) rfl)) rfl (fun _ _ h => h) (atI G) (by decide) hC hR hS hi16 (Nat.le_of_ble_eq_true rfl) (Nat.le_of_ble_eq_true rfl) dX7_init_23 eq13 hf (fun S14 H hf hR hS hE15 ok_q13 => ?_)
  have ok_this := hE15 _ _ ok_this
  have ok_q1 := hE15 _ _ ok_q1
  have ok_q7 := hE15 _ _ ok_q7
  have hE := hE.tr hE15
  refine pf_RX7_18 hC hR hS ok_this hname dX7_init_25 hf (fun S17 H locs hf hR hS hE18 => ?_)
  have ok_this := hE18 _ _ ok_this
  have ok_q1 := hE18 _ _ ok_q1
  have ok_q7 := hE18 _ _ ok_q7
  have ok_q13 := hE18 _ _ ok_q13
  have hE := hE.tr hE18
  refine lv_aload_n hx hb dX7_init_28 rfl (lv_at hl 0 rfl) ?_
  refine lv_bipush (v := 20) hx hb dX7_init_29 (by decide) ?_
  obtain ⟨hi22, hf⟩ := ck_of hf
  obtain ⟨q19, eq19, hf⟩ := jn_of hf
  refine r_newa (ci := 12) (NB := 20) (t0 := 0) (ty := .int) rfl (bg3 _ (List.mem_of_getElem? (i := 15) rfl)) rfl (fun _ _ h => h) (atI G) (by decide) hC hR hS hi22 (Nat.le_of_ble_eq_true rfl) (Nat.le_of_ble_eq_true rfl) dX7_init_31 eq19 hf (fun S20 H hf hR hS hE21 ok_q19 => ?_)
  have ok_this := hE21 _ _ ok_this
  have ok_q1 := hE21 _ _ ok_q1
  have ok_q7 := hE21 _ _ ok_q7
  have ok_q13 := hE21 _ _ ok_q13
  have hE := hE.tr hE21
  refine pf_RX7_21 hC hR hS ok_this hname dX7_init_33 hf (fun S23 H locs hf hR hS hE24 => ?_)
  have ok_this := hE24 _ _ ok_this
  have ok_q1 := hE24 _ _ ok_q1
  have ok_q7 := hE24 _ _ ok_q7
  have ok_q13 := hE24 _ _ ok_q13
  have ok_q19 := hE24 _ _ ok_q19
  have hE := hE.tr hE24
  refine lv_aload_n hx hb dX7_init_36 rfl (lv_at hl 0 rfl) ?_
  refine lv_sipush (v := 300) hx hb dX7_init_37 (by decide) ?_
  obtain ⟨hi28, hf⟩ := ck_of hf
  obtain ⟨q25, eq25, hf⟩ := jn_of hf
  refine r_newa (ci := 12) (NB := 300) (t0 := 0) (ty := .int) rfl (bg3 _ (List.mem_of_getElem? (i := 15) rfl)) rfl (fun _ _ h => h) (atI G) (by decide) hC hR hS hi28 (Nat.le_of_ble_eq_true rfl) (Nat.le_of_ble_eq_true rfl) dX7_init_40 eq25 hf (fun S26 H hf hR hS hE27 ok_q25 => ?_)
  have ok_this := hE27 _ _ ok_this
  have ok_q1 := hE27 _ _ ok_q1
  have ok_q7 := hE27 _ _ ok_q7
  have ok_q13 := hE27 _ _ ok_q13
  have ok_q19 := hE27 _ _ ok_q19
  have hE := hE.tr hE27
  refine pf_RX7_24 hC hR hS ok_this hname dX7_init_42 hf (fun S29 H locs hf hR hS hE30 => ?_)
  have ok_this := hE30 _ _ ok_this
  have ok_q1 := hE30 _ _ ok_q1
  have ok_q7 := hE30 _ _ ok_q7
  have ok_q13 := hE30 _ _ ok_q13
  have ok_q19 := hE30 _ _ ok_q19
  have ok_q25 := hE30 _ _ ok_q25
  have hE := hE.tr hE30
  refine W.widen (k := 5) (n := 380) (Nat.le_of_ble_eq_true rfl) (Nat.le_of_ble_eq_true rfl) ?_
  exact r_vret hC hR hS hE hf dX7_init_45
abbrev rX8_init : Room := { frames := 1, cells := 6, slots := 88, locals := 40 }
def f_X8_init (n : Nat) (z : Nat) (this : Nat) (S : MS) : Option (MS) :=
  ck (nak (6 : Int32) 6) (jn (z + (mL S).length) fun q1 => bd (nw S q1 12 (6 : Int32).toNatClampNeg) fun S2 => bd (sR S2 this 0 (some q1)) fun S5 => ck (nak (6 : Int32) 6) (jn (z + (mL S5).length) fun q7 => bd (nw S5 q7 12 (6 : Int32).toNatClampNeg) fun S8 => bd (sR S8 this 1 (some q7)) fun S11 => ck (nak (6 : Int32) 6) (jn (z + (mL S11).length) fun q13 => bd (nw S11 q13 12 (6 : Int32).toNatClampNeg) fun S14 => bd (sR S14 this 2 (some q13)) fun S17 => ck (nak (6 : Int32) 6) (jn (z + (mL S17).length) fun q19 => bd (nw S17 q19 12 (6 : Int32).toNatClampNeg) fun S20 => bd (sR S20 this 3 (some q19)) fun S23 => ck (nak (40 : Int32) 40) (jn (z + (mL S23).length) fun q25 => bd (nw S23 q25 12 (40 : Int32).toNatClampNeg) fun S26 => bd (sR S26 this 4 (some q25)) fun S29 => ck (nak (24 : Int32) 24) (jn (z + (mL S29).length) fun q31 => bd (nw S29 q31 12 (24 : Int32).toNatClampNeg) fun S32 => bd (sR S32 this 5 (some q31)) fun S35 => bd (sI S35 this 8 (-1 : Int32)) fun S37 => gR S37 (mR S37 this 5) 12 fun q39 => cv (f_J7_fill_53178 n q39 (-1 : Int32) S37) fun S41 => some S41))))))
set_option maxRecDepth 100000 in
set_option maxHeartbeats 4000000 in
theorem c_X8_init (l : Launch) (G : Gx) (n : Nat) (this : Nat) (S : MS) (So : MS) (hf : f_X8_init n G.2.2 this S = some So) (ok_this : Ok S this 8) : Cn G l yX8_init cX8_init 1 none rX8_init [.ref this] S none So := by
  refine Cn.of (by decide) (Nat.le_of_ble_eq_true rfl) ?_
  intro p e s m args below meth c hC hname hR ls hl
  have hC : Cx G RX8 cX8_init 1 none p s m args meth c := hC
  have hl : lv_has ls 1 [(0, .ref this)] := hl
  have hx := hC.x
  have hb := hC.b
  have hS : va_S (gA G) s.heap s.heap [] := va_S.rf
  have hE : Ex S S := Ex.rf S
  unfold f_X8_init at hf
  refine lv_aload_n hx hb dX8_init_0 rfl (lv_at hl 0 rfl) ?_
  refine r_obj hC hl.1 (bg3 _ (List.mem_of_getElem? (i := 14) rfl)) (bg1 _ (List.mem_of_getElem? (i := 14) rfl)) (bg1 _ (List.mem_of_getElem? (i := 15) rfl)) (Nat.le_of_ble_eq_true rfl) (Nat.le_of_ble_eq_true rfl) dX8_init_1 ?_
  refine lv_aload_n hx hb dX8_init_4 rfl (lv_at hl 0 rfl) ?_
  refine lv_bipush (v := 6) hx hb dX8_init_5 (by decide) ?_
  obtain ⟨hi4, hf⟩ := ck_of hf
  obtain ⟨q1, eq1, hf⟩ := jn_of hf
  refine r_newa (ci := 12) (NB := 6) (t0 := 0) (ty := .int) rfl (bg3 _ (List.mem_of_getElem? (i := 15) rfl)) rfl (fun _ _ h => h) (atI G) (by decide) hC hR hS hi4 (Nat.le_of_ble_eq_true rfl) (Nat.le_of_ble_eq_true rfl) dX8_init_7 eq1 hf (fun S2 H hf hR hS hE3 ok_q1 => ?_)
  have ok_this := hE3 _ _ ok_this
  have hE := hE.tr hE3
  refine pf_RX8_9 hC hR hS ok_this hname dX8_init_9 hf (fun S5 H locs hf hR hS hE6 => ?_)
  have ok_this := hE6 _ _ ok_this
  have ok_q1 := hE6 _ _ ok_q1
  have hE := hE.tr hE6
  refine lv_aload_n hx hb dX8_init_12 rfl (lv_at hl 0 rfl) ?_
  refine lv_bipush (v := 6) hx hb dX8_init_13 (by decide) ?_
  obtain ⟨hi10, hf⟩ := ck_of hf
  obtain ⟨q7, eq7, hf⟩ := jn_of hf
  refine r_newa (ci := 12) (NB := 6) (t0 := 0) (ty := .int) rfl (bg3 _ (List.mem_of_getElem? (i := 15) rfl)) rfl (fun _ _ h => h) (atI G) (by decide) hC hR hS hi10 (Nat.le_of_ble_eq_true rfl) (Nat.le_of_ble_eq_true rfl) dX8_init_15 eq7 hf (fun S8 H hf hR hS hE9 ok_q7 => ?_)
  have ok_this := hE9 _ _ ok_this
  have ok_q1 := hE9 _ _ ok_q1
  have hE := hE.tr hE9
  refine pf_RX8_15 hC hR hS ok_this hname dX8_init_17 hf (fun S11 H locs hf hR hS hE12 => ?_)
  have ok_this := hE12 _ _ ok_this
  have ok_q1 := hE12 _ _ ok_q1
  have ok_q7 := hE12 _ _ ok_q7
  have hE := hE.tr hE12
  refine lv_aload_n hx hb dX8_init_20 rfl (lv_at hl 0 rfl) ?_
  refine lv_bipush (v := 6) hx hb dX8_init_21 (by decide) ?_
  obtain ⟨hi16, hf⟩ := ck_of hf
  obtain ⟨q13, eq13, hf⟩ := jn_of hf
  refine r_newa (ci := 12) (NB := 6) (t0 := 0) (ty := .int) rfl (bg3 _ (List.mem_of_getElem? (i := 15) rfl)) rfl (fun _ _ h => h) (atI G) (by decide) hC hR hS hi16 (Nat.le_of_ble_eq_true rfl) (Nat.le_of_ble_eq_true rfl) dX8_init_23 eq13 hf (fun S14 H hf hR hS hE15 ok_q13 => ?_)
  have ok_this := hE15 _ _ ok_this
  have ok_q1 := hE15 _ _ ok_q1
  have ok_q7 := hE15 _ _ ok_q7
  have hE := hE.tr hE15
  refine pf_RX8_18 hC hR hS ok_this hname dX8_init_25 hf (fun S17 H locs hf hR hS hE18 => ?_)
  have ok_this := hE18 _ _ ok_this
  have ok_q1 := hE18 _ _ ok_q1
  have ok_q7 := hE18 _ _ ok_q7
  have ok_q13 := hE18 _ _ ok_q13
  have hE := hE.tr hE18
  refine lv_aload_n hx hb dX8_init_28 rfl (lv_at hl 0 rfl) ?_
  refine lv_bipush (v := 6) hx hb dX8_init_29 (by decide) ?_
  obtain ⟨hi22, hf⟩ := ck_of hf
  obtain ⟨q19, eq19, hf⟩ := jn_of hf
  refine r_newa (ci := 12) (NB := 6) (t0 := 0) (ty := .int) rfl (bg3 _ (List.mem_of_getElem? (i := 15) rfl)) rfl (fun _ _ h => h) (atI G) (by decide) hC hR hS hi22 (Nat.le_of_ble_eq_true rfl) (Nat.le_of_ble_eq_true rfl) dX8_init_31 eq19 hf (fun S20 H hf hR hS hE21 ok_q19 => ?_)
  have ok_this := hE21 _ _ ok_this
  have ok_q1 := hE21 _ _ ok_q1
  have ok_q7 := hE21 _ _ ok_q7
  have ok_q13 := hE21 _ _ ok_q13
  have hE := hE.tr hE21
  refine pf_RX8_21 hC hR hS ok_this hname dX8_init_33 hf (fun S23 H locs hf hR hS hE24 => ?_)
  have ok_this := hE24 _ _ ok_this
  have ok_q1 := hE24 _ _ ok_q1
  have ok_q7 := hE24 _ _ ok_q7
  have ok_q13 := hE24 _ _ ok_q13
  have ok_q19 := hE24 _ _ ok_q19
  have hE := hE.tr hE24
  refine lv_aload_n hx hb dX8_init_36 rfl (lv_at hl 0 rfl) ?_
  refine lv_bipush (v := 40) hx hb dX8_init_37 (by decide) ?_
  obtain ⟨hi28, hf⟩ := ck_of hf
  obtain ⟨q25, eq25, hf⟩ := jn_of hf
  refine r_newa (ci := 12) (NB := 40) (t0 := 0) (ty := .int) rfl (bg3 _ (List.mem_of_getElem? (i := 15) rfl)) rfl (fun _ _ h => h) (atI G) (by decide) hC hR hS hi28 (Nat.le_of_ble_eq_true rfl) (Nat.le_of_ble_eq_true rfl) dX8_init_39 eq25 hf (fun S26 H hf hR hS hE27 ok_q25 => ?_)
  have ok_this := hE27 _ _ ok_this
  have ok_q1 := hE27 _ _ ok_q1
  have ok_q7 := hE27 _ _ ok_q7
  have ok_q13 := hE27 _ _ ok_q13
  have ok_q19 := hE27 _ _ ok_q19
  have hE := hE.tr hE27
  refine pf_RX8_24 hC hR hS ok_this hname dX8_init_41 hf (fun S29 H locs hf hR hS hE30 => ?_)
  have ok_this := hE30 _ _ ok_this
  have ok_q1 := hE30 _ _ ok_q1
  have ok_q7 := hE30 _ _ ok_q7
  have ok_q13 := hE30 _ _ ok_q13
  have ok_q19 := hE30 _ _ ok_q19
  have ok_q25 := hE30 _ _ ok_q25
  have hE := hE.tr hE30
  refine lv_aload_n hx hb dX8_init_44 rfl (lv_at hl 0 rfl) ?_
  refine lv_bipush (v := 24) hx hb dX8_init_45 (by decide) ?_
  obtain ⟨hi34, hf⟩ := ck_of hf
  obtain ⟨q31, eq31, hf⟩ := jn_of hf
  refine r_newa (ci := 12) (NB := 24) (t0 := 0) (ty := .int) rfl (bg3 _ (List.mem_of_getElem? (i := 15) rfl)) rfl (fun _ _ h => h) (atI G) (by decide) hC hR hS hi34 (Nat.le_of_ble_eq_true rfl) (Nat.le_of_ble_eq_true rfl) dX8_init_47 eq31 hf (fun S32 H hf hR hS hE33 ok_q31 => ?_)
  have ok_this := hE33 _ _ ok_this
  have ok_q1 := hE33 _ _ ok_q1
  have ok_q7 := hE33 _ _ ok_q7
  have ok_q13 := hE33 _ _ ok_q13
  have ok_q19 := hE33 _ _ ok_q19
  have ok_q25 := hE33 _ _ ok_q25
  have hE := hE.tr hE33
  refine pf_RX8_27 hC hR hS ok_this hname dX8_init_49 hf (fun S35 H locs hf hR hS hE36 => ?_)
  have ok_this := hE36 _ _ ok_this
  have ok_q1 := hE36 _ _ ok_q1
  have ok_q7 := hE36 _ _ ok_q7
  have ok_q13 := hE36 _ _ ok_q13
  have ok_q19 := hE36 _ _ ok_q19
  have ok_q25 := hE36 _ _ ok_q25
  have ok_q31 := hE36 _ _ ok_q31
  have hE := hE.tr hE36
  refine lv_aload_n hx hb dX8_init_52 rfl (lv_at hl 0 rfl) ?_
  refine lv_iconst (v := -1) hx hb dX8_init_53 (by decide) ?_
  refine pf_RX8_30 hC hR hS ok_this dX8_init_54 hf (fun S37 H locs hf hR hS hE38 => ?_)
  have ok_this := hE38 _ _ ok_this
  have ok_q1 := hE38 _ _ ok_q1
  have ok_q7 := hE38 _ _ ok_q7
  have ok_q13 := hE38 _ _ ok_q13
  have ok_q19 := hE38 _ _ ok_q19
  have ok_q25 := hE38 _ _ ok_q25
  have ok_q31 := hE38 _ _ ok_q31
  have hE := hE.tr hE38
  refine lv_aload_n hx hb dX8_init_57 rfl (lv_at hl 0 rfl) ?_
  obtain ⟨q39, hq40, ok_q39, hf⟩ := gR_of hf
  refine gf_RX8_27 hC hR ok_this hq40 dX8_init_58 ?_
  refine lv_iconst (v := -1) hx hb dX8_init_61 (by decide) ?_
  obtain ⟨S41, hc42, hf⟩ := cv_of hf
  refine cl_RX8_34 (As := [.ref q39, .int (-1 : Int32)]) (rest := []) hC hR hS (c_J7_fill_53178 l G n q39 (-1 : Int32) S37 S41 hc42 ok_q39) rfl ⟨Nat.le_of_ble_eq_true rfl, Nat.le_of_ble_eq_true rfl⟩ hl.1 rfl (Nat.le_of_ble_eq_true rfl) dX8_init_62 (Nat.le_of_ble_eq_true rfl) (Nat.le_of_ble_eq_true rfl) (fun H locs hR hS hE43 => ?_)
  have ok_this := hE43 _ _ ok_this
  have ok_q1 := hE43 _ _ ok_q1
  have ok_q7 := hE43 _ _ ok_q7
  have ok_q13 := hE43 _ _ ok_q13
  have ok_q19 := hE43 _ _ ok_q19
  have ok_q25 := hE43 _ _ ok_q25
  have ok_q31 := hE43 _ _ ok_q31
  have ok_q39 := hE43 _ _ ok_q39
  have hE := hE.tr hE43
  refine W.widen (k := 6) (n := 88) (Nat.le_of_ble_eq_true rfl) (Nat.le_of_ble_eq_true rfl) ?_
  exact r_vret hC hR hS hE hf dX8_init_65
abbrev rX8_copyFrom : Room := { frames := 1, cells := 0, slots := 0, locals := 120 }
def f_X8_copyFrom (_n : Nat) (this : Nat) (a1 : Nat) (S : MS) : Option (MS) :=
  gR S (mR S a1 0) 12 fun q1 => gR S (mR S this 0) 12 fun q3 => ck (cpk (0 : Int32) (0 : Int32) (6 : Int32) (mN S q1) (mN S q3)) (bd (rI S q3 (va_cpy (mI S q1) (mI S q3) (0 : Int32).toNatClampNeg (0 : Int32).toNatClampNeg (6 : Int32).toNatClampNeg)) fun S6 => gR S6 (mR S6 a1 1) 12 fun q8 => gR S6 (mR S6 this 1) 12 fun q10 => ck (cpk (0 : Int32) (0 : Int32) (6 : Int32) (mN S6 q8) (mN S6 q10)) (bd (rI S6 q10 (va_cpy (mI S6 q8) (mI S6 q10) (0 : Int32).toNatClampNeg (0 : Int32).toNatClampNeg (6 : Int32).toNatClampNeg)) fun S13 => gR S13 (mR S13 a1 2) 12 fun q15 => gR S13 (mR S13 this 2) 12 fun q17 => ck (cpk (0 : Int32) (0 : Int32) (6 : Int32) (mN S13 q15) (mN S13 q17)) (bd (rI S13 q17 (va_cpy (mI S13 q15) (mI S13 q17) (0 : Int32).toNatClampNeg (0 : Int32).toNatClampNeg (6 : Int32).toNatClampNeg)) fun S20 => gR S20 (mR S20 a1 3) 12 fun q22 => gR S20 (mR S20 this 3) 12 fun q24 => ck (cpk (0 : Int32) (0 : Int32) (6 : Int32) (mN S20 q22) (mN S20 q24)) (bd (rI S20 q24 (va_cpy (mI S20 q22) (mI S20 q24) (0 : Int32).toNatClampNeg (0 : Int32).toNatClampNeg (6 : Int32).toNatClampNeg)) fun S27 => gR S27 (mR S27 a1 4) 12 fun q29 => gR S27 (mR S27 this 4) 12 fun q31 => ck (cpk (0 : Int32) (0 : Int32) (40 : Int32) (mN S27 q29) (mN S27 q31)) (bd (rI S27 q31 (va_cpy (mI S27 q29) (mI S27 q31) (0 : Int32).toNatClampNeg (0 : Int32).toNatClampNeg (40 : Int32).toNatClampNeg)) fun S34 => gR S34 (mR S34 a1 5) 12 fun q36 => gR S34 (mR S34 this 5) 12 fun q38 => ck (cpk (0 : Int32) (0 : Int32) (24 : Int32) (mN S34 q36) (mN S34 q38)) (bd (rI S34 q38 (va_cpy (mI S34 q36) (mI S34 q38) (0 : Int32).toNatClampNeg (0 : Int32).toNatClampNeg (24 : Int32).toNatClampNeg)) fun S41 => bd (sI S41 this 6 (mI S41 a1 6)) fun S43 => bd (sI S43 this 7 (mI S43 a1 7)) fun S45 => bd (sI S45 this 8 (mI S45 a1 8)) fun S47 => some S47))))))
set_option maxRecDepth 100000 in
set_option maxHeartbeats 4000000 in
theorem c_X8_copyFrom (l : Launch) (G : Gx) (n : Nat) (this : Nat) (a1 : Nat) (S : MS) (So : MS) (hf : f_X8_copyFrom n this a1 S = some So) (ok_this : Ok S this 8) (ok_a1 : Ok S a1 8) : Cn G l yX8_copyFrom cX8_copyFrom 2 none rX8_copyFrom [.ref this, .ref a1] S none So := by
  refine Cn.of (by decide) (Nat.le_of_ble_eq_true rfl) ?_
  intro p e s m args below meth c hC hname hR ls hl
  have hC : Cx G RX8 cX8_copyFrom 2 none p s m args meth c := hC
  have hl : lv_has ls 2 [(0, .ref this), (1, .ref a1)] := hl
  have hx := hC.x
  have hb := hC.b
  have hS : va_S (gA G) s.heap s.heap [] := va_S.rf
  have hE : Ex S S := Ex.rf S
  unfold f_X8_copyFrom at hf
  refine lv_aload_n hx hb dX8_copyFrom_0 rfl (lv_at hl 1 rfl) ?_
  obtain ⟨q1, hq2, ok_q1, hf⟩ := gR_of hf
  refine gf_RX8_9 hC hR ok_a1 hq2 dX8_copyFrom_1 ?_
  refine lv_iconst (v := 0) hx hb dX8_copyFrom_4 (by decide) ?_
  refine lv_aload_n hx hb dX8_copyFrom_5 rfl (lv_at hl 0 rfl) ?_
  obtain ⟨q3, hq4, ok_q3, hf⟩ := gR_of hf
  refine gf_RX8_9 hC hR ok_this hq4 dX8_copyFrom_6 ?_
  refine lv_iconst (v := 0) hx hb dX8_copyFrom_9 (by decide) ?_
  refine lv_bipush (v := 6) hx hb dX8_copyFrom_10 (by decide) ?_
  obtain ⟨hi5, hf⟩ := ck_of hf
  refine r_copyI hC hR hS hl.1 (bg55 _ (List.mem_of_getElem? (i := 5) rfl)) (bg45 _ (List.mem_of_getElem? (i := 18) rfl)) (bg45 _ (List.mem_of_getElem? (i := 19) rfl)) (bg45 _ (List.mem_of_getElem? (i := 20) rfl)) ok_q1 ok_q3 hi5 (Nat.le_of_ble_eq_true rfl) (by decide +kernel) dX8_copyFrom_12 hf (fun S6 H locs hf hR hS hE7 => ?_)
  have ok_this := hE7 _ _ ok_this
  have ok_a1 := hE7 _ _ ok_a1
  have ok_q1 := hE7 _ _ ok_q1
  have ok_q3 := hE7 _ _ ok_q3
  have hE := hE.tr hE7
  refine lv_aload_n hx hb dX8_copyFrom_15 rfl (lv_at hl 1 rfl) ?_
  obtain ⟨q8, hq9, ok_q8, hf⟩ := gR_of hf
  refine gf_RX8_15 hC hR ok_a1 hq9 dX8_copyFrom_16 ?_
  refine lv_iconst (v := 0) hx hb dX8_copyFrom_19 (by decide) ?_
  refine lv_aload_n hx hb dX8_copyFrom_20 rfl (lv_at hl 0 rfl) ?_
  obtain ⟨q10, hq11, ok_q10, hf⟩ := gR_of hf
  refine gf_RX8_15 hC hR ok_this hq11 dX8_copyFrom_21 ?_
  refine lv_iconst (v := 0) hx hb dX8_copyFrom_24 (by decide) ?_
  refine lv_bipush (v := 6) hx hb dX8_copyFrom_25 (by decide) ?_
  obtain ⟨hi12, hf⟩ := ck_of hf
  refine r_copyI hC hR hS hl.1 (bg55 _ (List.mem_of_getElem? (i := 5) rfl)) (bg45 _ (List.mem_of_getElem? (i := 18) rfl)) (bg45 _ (List.mem_of_getElem? (i := 19) rfl)) (bg45 _ (List.mem_of_getElem? (i := 20) rfl)) ok_q8 ok_q10 hi12 (Nat.le_of_ble_eq_true rfl) (by decide +kernel) dX8_copyFrom_27 hf (fun S13 H locs hf hR hS hE14 => ?_)
  have ok_this := hE14 _ _ ok_this
  have ok_a1 := hE14 _ _ ok_a1
  have ok_q1 := hE14 _ _ ok_q1
  have ok_q3 := hE14 _ _ ok_q3
  have ok_q8 := hE14 _ _ ok_q8
  have ok_q10 := hE14 _ _ ok_q10
  have hE := hE.tr hE14
  refine lv_aload_n hx hb dX8_copyFrom_30 rfl (lv_at hl 1 rfl) ?_
  obtain ⟨q15, hq16, ok_q15, hf⟩ := gR_of hf
  refine gf_RX8_18 hC hR ok_a1 hq16 dX8_copyFrom_31 ?_
  refine lv_iconst (v := 0) hx hb dX8_copyFrom_34 (by decide) ?_
  refine lv_aload_n hx hb dX8_copyFrom_35 rfl (lv_at hl 0 rfl) ?_
  obtain ⟨q17, hq18, ok_q17, hf⟩ := gR_of hf
  refine gf_RX8_18 hC hR ok_this hq18 dX8_copyFrom_36 ?_
  refine lv_iconst (v := 0) hx hb dX8_copyFrom_39 (by decide) ?_
  refine lv_bipush (v := 6) hx hb dX8_copyFrom_40 (by decide) ?_
  obtain ⟨hi19, hf⟩ := ck_of hf
  refine r_copyI hC hR hS hl.1 (bg55 _ (List.mem_of_getElem? (i := 5) rfl)) (bg45 _ (List.mem_of_getElem? (i := 18) rfl)) (bg45 _ (List.mem_of_getElem? (i := 19) rfl)) (bg45 _ (List.mem_of_getElem? (i := 20) rfl)) ok_q15 ok_q17 hi19 (Nat.le_of_ble_eq_true rfl) (by decide +kernel) dX8_copyFrom_42 hf (fun S20 H locs hf hR hS hE21 => ?_)
  have ok_this := hE21 _ _ ok_this
  have ok_a1 := hE21 _ _ ok_a1
  have ok_q1 := hE21 _ _ ok_q1
  have ok_q3 := hE21 _ _ ok_q3
  have ok_q8 := hE21 _ _ ok_q8
  have ok_q10 := hE21 _ _ ok_q10
  have ok_q15 := hE21 _ _ ok_q15
  have ok_q17 := hE21 _ _ ok_q17
  have hE := hE.tr hE21
  refine lv_aload_n hx hb dX8_copyFrom_45 rfl (lv_at hl 1 rfl) ?_
  obtain ⟨q22, hq23, ok_q22, hf⟩ := gR_of hf
  refine gf_RX8_21 hC hR ok_a1 hq23 dX8_copyFrom_46 ?_
  refine lv_iconst (v := 0) hx hb dX8_copyFrom_49 (by decide) ?_
  refine lv_aload_n hx hb dX8_copyFrom_50 rfl (lv_at hl 0 rfl) ?_
  obtain ⟨q24, hq25, ok_q24, hf⟩ := gR_of hf
  refine gf_RX8_21 hC hR ok_this hq25 dX8_copyFrom_51 ?_
  refine lv_iconst (v := 0) hx hb dX8_copyFrom_54 (by decide) ?_
  refine lv_bipush (v := 6) hx hb dX8_copyFrom_55 (by decide) ?_
  obtain ⟨hi26, hf⟩ := ck_of hf
  refine r_copyI hC hR hS hl.1 (bg55 _ (List.mem_of_getElem? (i := 5) rfl)) (bg45 _ (List.mem_of_getElem? (i := 18) rfl)) (bg45 _ (List.mem_of_getElem? (i := 19) rfl)) (bg45 _ (List.mem_of_getElem? (i := 20) rfl)) ok_q22 ok_q24 hi26 (Nat.le_of_ble_eq_true rfl) (by decide +kernel) dX8_copyFrom_57 hf (fun S27 H locs hf hR hS hE28 => ?_)
  have ok_this := hE28 _ _ ok_this
  have ok_a1 := hE28 _ _ ok_a1
  have ok_q1 := hE28 _ _ ok_q1
  have ok_q3 := hE28 _ _ ok_q3
  have ok_q8 := hE28 _ _ ok_q8
  have ok_q10 := hE28 _ _ ok_q10
  have ok_q15 := hE28 _ _ ok_q15
  have ok_q17 := hE28 _ _ ok_q17
  have ok_q22 := hE28 _ _ ok_q22
  have ok_q24 := hE28 _ _ ok_q24
  have hE := hE.tr hE28
  refine lv_aload_n hx hb dX8_copyFrom_60 rfl (lv_at hl 1 rfl) ?_
  obtain ⟨q29, hq30, ok_q29, hf⟩ := gR_of hf
  refine gf_RX8_24 hC hR ok_a1 hq30 dX8_copyFrom_61 ?_
  refine lv_iconst (v := 0) hx hb dX8_copyFrom_64 (by decide) ?_
  refine lv_aload_n hx hb dX8_copyFrom_65 rfl (lv_at hl 0 rfl) ?_
  obtain ⟨q31, hq32, ok_q31, hf⟩ := gR_of hf
  refine gf_RX8_24 hC hR ok_this hq32 dX8_copyFrom_66 ?_
  refine lv_iconst (v := 0) hx hb dX8_copyFrom_69 (by decide) ?_
  refine lv_bipush (v := 40) hx hb dX8_copyFrom_70 (by decide) ?_
  obtain ⟨hi33, hf⟩ := ck_of hf
  refine r_copyI hC hR hS hl.1 (bg55 _ (List.mem_of_getElem? (i := 5) rfl)) (bg45 _ (List.mem_of_getElem? (i := 18) rfl)) (bg45 _ (List.mem_of_getElem? (i := 19) rfl)) (bg45 _ (List.mem_of_getElem? (i := 20) rfl)) ok_q29 ok_q31 hi33 (Nat.le_of_ble_eq_true rfl) (by decide +kernel) dX8_copyFrom_72 hf (fun S34 H locs hf hR hS hE35 => ?_)
  have ok_this := hE35 _ _ ok_this
  have ok_a1 := hE35 _ _ ok_a1
  have ok_q1 := hE35 _ _ ok_q1
  have ok_q3 := hE35 _ _ ok_q3
  have ok_q8 := hE35 _ _ ok_q8
  have ok_q10 := hE35 _ _ ok_q10
  have ok_q15 := hE35 _ _ ok_q15
  have ok_q17 := hE35 _ _ ok_q17
  have ok_q22 := hE35 _ _ ok_q22
  have ok_q24 := hE35 _ _ ok_q24
  have ok_q29 := hE35 _ _ ok_q29
  have ok_q31 := hE35 _ _ ok_q31
  have hE := hE.tr hE35
  refine lv_aload_n hx hb dX8_copyFrom_75 rfl (lv_at hl 1 rfl) ?_
  obtain ⟨q36, hq37, ok_q36, hf⟩ := gR_of hf
  refine gf_RX8_27 hC hR ok_a1 hq37 dX8_copyFrom_76 ?_
  refine lv_iconst (v := 0) hx hb dX8_copyFrom_79 (by decide) ?_
  refine lv_aload_n hx hb dX8_copyFrom_80 rfl (lv_at hl 0 rfl) ?_
  obtain ⟨q38, hq39, ok_q38, hf⟩ := gR_of hf
  refine gf_RX8_27 hC hR ok_this hq39 dX8_copyFrom_81 ?_
  refine lv_iconst (v := 0) hx hb dX8_copyFrom_84 (by decide) ?_
  refine lv_bipush (v := 24) hx hb dX8_copyFrom_85 (by decide) ?_
  obtain ⟨hi40, hf⟩ := ck_of hf
  refine r_copyI hC hR hS hl.1 (bg55 _ (List.mem_of_getElem? (i := 5) rfl)) (bg45 _ (List.mem_of_getElem? (i := 18) rfl)) (bg45 _ (List.mem_of_getElem? (i := 19) rfl)) (bg45 _ (List.mem_of_getElem? (i := 20) rfl)) ok_q36 ok_q38 hi40 (Nat.le_of_ble_eq_true rfl) (by decide +kernel) dX8_copyFrom_87 hf (fun S41 H locs hf hR hS hE42 => ?_)
  have ok_this := hE42 _ _ ok_this
  have ok_a1 := hE42 _ _ ok_a1
  have ok_q1 := hE42 _ _ ok_q1
  have ok_q3 := hE42 _ _ ok_q3
  have ok_q8 := hE42 _ _ ok_q8
  have ok_q10 := hE42 _ _ ok_q10
  have ok_q15 := hE42 _ _ ok_q15
  have ok_q17 := hE42 _ _ ok_q17
  have ok_q22 := hE42 _ _ ok_q22
  have ok_q24 := hE42 _ _ ok_q24
  have ok_q29 := hE42 _ _ ok_q29
  have ok_q31 := hE42 _ _ ok_q31
  have ok_q36 := hE42 _ _ ok_q36
  have ok_q38 := hE42 _ _ ok_q38
  have hE := hE.tr hE42
  refine lv_aload_n hx hb dX8_copyFrom_90 rfl (lv_at hl 0 rfl) ?_
  refine lv_aload_n hx hb dX8_copyFrom_91 rfl (lv_at hl 1 rfl) ?_
  refine gf_RX8_46 hC hR ok_a1 dX8_copyFrom_92 ?_
  refine pf_RX8_46 hC hR hS ok_this dX8_copyFrom_95 hf (fun S43 H locs hf hR hS hE44 => ?_)
  have ok_this := hE44 _ _ ok_this
  have ok_a1 := hE44 _ _ ok_a1
  have ok_q1 := hE44 _ _ ok_q1
  have ok_q3 := hE44 _ _ ok_q3
  have ok_q8 := hE44 _ _ ok_q8
  have ok_q10 := hE44 _ _ ok_q10
  have ok_q15 := hE44 _ _ ok_q15
  have ok_q17 := hE44 _ _ ok_q17
  have ok_q22 := hE44 _ _ ok_q22
  have ok_q24 := hE44 _ _ ok_q24
  have ok_q29 := hE44 _ _ ok_q29
  have ok_q31 := hE44 _ _ ok_q31
  have ok_q36 := hE44 _ _ ok_q36
  have ok_q38 := hE44 _ _ ok_q38
  have hE := hE.tr hE44
  refine lv_aload_n hx hb dX8_copyFrom_98 rfl (lv_at hl 0 rfl) ?_
  refine lv_aload_n hx hb dX8_copyFrom_99 rfl (lv_at hl 1 rfl) ?_
  refine gf_RX8_49 hC hR ok_a1 dX8_copyFrom_100 ?_
  refine pf_RX8_49 hC hR hS ok_this dX8_copyFrom_103 hf (fun S45 H locs hf hR hS hE46 => ?_)
  have ok_this := hE46 _ _ ok_this
  have ok_a1 := hE46 _ _ ok_a1
  have ok_q1 := hE46 _ _ ok_q1
  have ok_q3 := hE46 _ _ ok_q3
  have ok_q8 := hE46 _ _ ok_q8
  have ok_q10 := hE46 _ _ ok_q10
  have ok_q15 := hE46 _ _ ok_q15
  have ok_q17 := hE46 _ _ ok_q17
  have ok_q22 := hE46 _ _ ok_q22
  have ok_q24 := hE46 _ _ ok_q24
  have ok_q29 := hE46 _ _ ok_q29
  have ok_q31 := hE46 _ _ ok_q31
  have ok_q36 := hE46 _ _ ok_q36
  have ok_q38 := hE46 _ _ ok_q38
  have hE := hE.tr hE46
  refine lv_aload_n hx hb dX8_copyFrom_106 rfl (lv_at hl 0 rfl) ?_
  refine lv_aload_n hx hb dX8_copyFrom_107 rfl (lv_at hl 1 rfl) ?_
  refine gf_RX8_30 hC hR ok_a1 dX8_copyFrom_108 ?_
  refine pf_RX8_30 hC hR hS ok_this dX8_copyFrom_111 hf (fun S47 H locs hf hR hS hE48 => ?_)
  have ok_this := hE48 _ _ ok_this
  have ok_a1 := hE48 _ _ ok_a1
  have ok_q1 := hE48 _ _ ok_q1
  have ok_q3 := hE48 _ _ ok_q3
  have ok_q8 := hE48 _ _ ok_q8
  have ok_q10 := hE48 _ _ ok_q10
  have ok_q15 := hE48 _ _ ok_q15
  have ok_q17 := hE48 _ _ ok_q17
  have ok_q22 := hE48 _ _ ok_q22
  have ok_q24 := hE48 _ _ ok_q24
  have ok_q29 := hE48 _ _ ok_q29
  have ok_q31 := hE48 _ _ ok_q31
  have ok_q36 := hE48 _ _ ok_q36
  have ok_q38 := hE48 _ _ ok_q38
  have hE := hE.tr hE48
  exact r_vret hC hR hS hE hf dX8_copyFrom_114
