abbrev rX11_gates : Room := { frames := 3, cells := 0, slots := 0, locals := 69 }
def f_X11_gates_L21 (n : Nat) (this : Nat) (a1 : Int32) (x3 : Int32) (x4 : Int32) (j112_11 : Int32 → Int32 → MS → Option (Int32 × MS)) : Nat → Int32 → Int32 → Int32 → MS → Option (Int32 × MS)
  | 0, _, _, _, _ => none
  | k + 1, x33, x34, x35, S36 => jn (f_X11_gates_L21 n this a1 x3 x4 j112_11 k) fun rec21_32 => (if (4 : Int32) ≤ x35 then j112_11 x33 x34 S36 else cl (f_X11_cellOf n this x4 S36) fun x40 S37 => cl (f_X11_sideOf n this x40 x35 S37) fun x44 S41 => jn (fun (x47 : Int32) (S48 : MS) => jn (fun (x51 : Int32) (S52 : MS) => bd (x35 + (1 : Int32)) fun x53 => rec21_32 x47 x51 x53 S52) fun j104_50 => jn (fun (S56 : MS) => j104_50 (1 : Int32) S56) fun j99_55 => (if x34 = 0 then jn (fun (S59 : MS) => j104_50 (0 : Int32) S59) fun j103_58 => (if x44 < 0 then j103_58 S48 else gR S48 (mR S48 this 30) 12 fun q60 => ck (inb x44 (mN S48 q60)) ((if (mI S48 q60 x44.toNatClampNeg) < 0 then j103_58 S48 else gR S48 (mR S48 this 30) 12 fun q63 => ck (inb x44 (mN S48 q63)) ((if (mI S48 q63 x44.toNatClampNeg) = a1 then j103_58 S48 else j99_55 S48))))) else j99_55 S48)) fun j66_46 => jn (fun (S72 : MS) => j66_46 (1 : Int32) S72) fun j61_71 => (if x33 = 0 then jn (fun (S75 : MS) => j66_46 (0 : Int32) S75) fun j65_74 => (if x44 < 0 then j65_74 S41 else gR S41 (mR S41 this 30) 12 fun q76 => ck (inb x44 (mN S41 q76)) ((if (mI S41 q76 x44.toNatClampNeg) = a1 then j61_71 S41 else j65_74 S41))) else j61_71 S41))
def f_X11_gates_L4 (n : Nat) (this : Nat) (a1 : Int32) : Nat → Int32 → Int32 → MS → Option (Int32 × MS)
  | 0, _, _, _ => none
  | k + 1, x3, x4, S5 => jn (f_X11_gates_L4 n this a1 k) fun rec4_2 => cl (f_X11_bones n this S5) fun x9 S6 => (if x9 ≤ x4 then some (x3, S6) else jn (fun (x12 : Int32) (x13 : Int32) (S14 : MS) => jn (fun (x17 : Int32) (x18 : Int32) (S19 : MS) => bd (x17 + x18) fun x20 => bd (x4 + (1 : Int32)) fun x21 => rec4_2 x20 x21 S19) fun j128_16 => jn (fun (x24 : Int32) (S25 : MS) => j128_16 x24 (0 : Int32) S25) fun j127_23 => (if x12 = 0 then j127_23 x3 S14 else (if x13 = 0 then j127_23 x3 S14 else j128_16 x3 (1 : Int32) S14))) fun j112_11 => f_X11_gates_L21 n this a1 x3 x4 j112_11 n (0 : Int32) (0 : Int32) (0 : Int32) S6)
def f_X11_gates (n : Nat) (this : Nat) (a1 : Int32) (S : MS) : Option (Int32 × MS) :=
  f_X11_gates_L4 n this a1 n (0 : Int32) (0 : Int32) S
set_option maxRecDepth 100000 in
set_option maxHeartbeats 4000000 in
theorem c_X11_gates (l : Launch) (G : Gx) (n : Nat) (this : Nat) (a1 : Int32) (S : MS) (ro : Int32) (So : MS) (hf : f_X11_gates n this a1 S = some (ro, So)) (ok_this : Ok S this 11) : Cn G l yX11_gates cX11_gates 8 (some .int) rX11_gates [.ref this, .int a1] S (some (.int ro)) So := by
  refine Cn.of (by decide) (Nat.le_of_ble_eq_true rfl) ?_
  intro p e s m args below meth c hC hname hR ls hl
  have hC : Cx G RX11 cX11_gates 8 (some .int) p s m args meth c := hC
  have hl : lv_has ls 8 [(0, .ref this), (1, .int a1)] := hl
  have hx := hC.x
  have hb := hC.b
  have hS : va_S (gA G) s.heap s.heap [] := va_S.rf
  have hE : Ex S S := Ex.rf S
  unfold f_X11_gates at hf
  refine lv_iconst (v := 0) hx hb dX11_gates_0 (by decide) ?_
  refine lv_istore_n (lv' := [(2, .int (0 : Int32)), (0, .ref this), (1, .int a1)]) hx hb dX11_gates_1 rfl hl (by decide) rfl (fun ls hl => ?_)
  refine lv_iconst (v := 0) hx hb dX11_gates_2 (by decide) ?_
  refine lv_istore_n (lv' := [(3, .int (0 : Int32)), (2, .int (0 : Int32)), (0, .ref this), (1, .int a1)]) hx hb dX11_gates_3 rfl hl (by decide) rfl (fun ls hl => ?_)
  have hh87 : ∀ k : Nat, ∀ (x3 : Int32) (x4 : Int32) (S5 : MS) (H : Heap) (locs : List Loc) (ls : Array Slot), f_X11_gates_L4 n this a1 k x3 x4 S5 = some (ro, So) → Rp G S5 H → va_S (gA G) s.heap H locs → Ex S S5 → Ok S5 this 11 → lv_has ls 8 [(0, .ref this), (1, .int a1), (2, .int x3), (3, .int x4)] → W p l e rX11_gates s m args below meth c H locs 0 0 (MQ below (Qn G S (some (.int ro)) So) args s 0 0 (gA G)) (F0 m 4 ls []) := by
    intro k
    induction k with
    | zero =>
      intro x3 x4 S5 H locs ls hf hR hS hE ok_this hl
      exact absurd hf (by rw [f_X11_gates_L4]; exact fun h => by cases h)
    | succ k ih =>
      intro x3 x4 S5 H locs ls hf hR hS hE ok_this hl
      rw [f_X11_gates_L4] at hf
      obtain ⟨rec4_2, erec4_2, hf⟩ := jn_of3 hf
      have hL4_1 : ∀ (x3 : Int32) (x4 : Int32) (S5 : MS) (H : Heap) (locs : List Loc) (ls : Array Slot), rec4_2 x3 x4 S5 = some (ro, So) → Rp G S5 H → va_S (gA G) s.heap H locs → Ex S S5 → Ok S5 this 11 → lv_has ls 8 [(0, .ref this), (1, .int a1), (2, .int x3), (3, .int x4)] → W p l e rX11_gates s m args below meth c H locs 0 0 (MQ below (Qn G S (some (.int ro)) So) args s 0 0 (gA G)) (F0 m 4 ls []) := by
        intro x3 x4 S5 H locs ls hf hR hS hE ok_this hl
        rw [erec4_2] at hf
        exact ih x3 x4 S5 _ _ _ hf hR hS hE ok_this hl
      refine lv_iload_n hx hb dX11_gates_4 rfl (lv_at hl 3 rfl) ?_
      refine lv_aload_n hx hb dX11_gates_5 rfl (lv_at hl 0 rfl) ?_
      obtain ⟨x9, S6, hc7, hf⟩ := cl_of hf
      refine cl_RX11_316 (As := []) (rest := [.int x4]) hC hR hS (c_X11_bones l G n this S5 x9 S6 hc7 ok_this) ok_this rfl ⟨Nat.le_of_ble_eq_true rfl, Nat.le_of_ble_eq_true rfl⟩ hl.1 rfl (Nat.le_of_ble_eq_true rfl) dX11_gates_6 (Nat.zero_le _) (Nat.zero_le _) (fun H locs hR hS hE8 => ?_)
      have ok_this := hE8 _ _ ok_this
      have hE := hE.tr hE8
      refine lv_icmp_ge (tgt := 136) hx hb dX11_gates_9 (by decide) (fun hc => ?_) (fun hc => ?_)
      · replace hf := if_t hf hc
        refine lv_iload_n hx hb dX11_gates_136 rfl (lv_at hl 2 rfl) ?_
        exact r_iret hC hR hS hE hf dX11_gates_137
      · replace hf := if_f hf hc
        refine lv_iconst (v := 0) hx hb dX11_gates_12 (by decide) ?_
        refine lv_istore (lv' := [(4, .int (0 : Int32)), (0, .ref this), (1, .int a1), (2, .int x3), (3, .int x4)]) hx hb dX11_gates_13 hl (by decide) rfl (fun ls hl => ?_)
        refine lv_iconst (v := 0) hx hb dX11_gates_15 (by decide) ?_
        refine lv_istore (lv' := [(5, .int (0 : Int32)), (4, .int (0 : Int32)), (0, .ref this), (1, .int a1), (2, .int x3), (3, .int x4)]) hx hb dX11_gates_16 hl (by decide) rfl (fun ls hl => ?_)
        refine lv_iconst (v := 0) hx hb dX11_gates_18 (by decide) ?_
        refine lv_istore (lv' := [(6, .int (0 : Int32)), (5, .int (0 : Int32)), (4, .int (0 : Int32)), (0, .ref this), (1, .int a1), (2, .int x3), (3, .int x4)]) hx hb dX11_gates_19 hl (by decide) rfl (fun ls hl => ?_)
        obtain ⟨j112_11, ej112_11, hf⟩ := jn_of3 hf
        have hj112_10 : ∀ (x12 : Int32) (x13 : Int32) (S14 : MS) (H : Heap) (locs : List Loc) (ls : Array Slot), j112_11 x12 x13 S14 = some (ro, So) → Rp G S14 H → va_S (gA G) s.heap H locs → Ex S S14 → Ok S14 this 11 → lv_has ls 8 [(0, .ref this), (1, .int a1), (2, .int x3), (3, .int x4), (4, .int x12), (5, .int x13)] → W p l e rX11_gates s m args below meth c H locs 0 0 (MQ below (Qn G S (some (.int ro)) So) args s 0 0 (gA G)) (F0 m 112 ls []) := by
          intro x12 x13 S14 H locs ls hf hR hS hE ok_this hl
          rw [ej112_11] at hf
          refine lv_iload_n hx hb dX11_gates_112 rfl (lv_at hl 2 rfl) ?_
          refine lv_iload hx hb dX11_gates_113 (lv_at hl 4 rfl) ?_
          obtain ⟨j128_16, ej128_16, hf⟩ := jn_of3 hf
          have hj128_15 : ∀ (x17 : Int32) (x18 : Int32) (S19 : MS) (H : Heap) (locs : List Loc) (ls : Array Slot), j128_16 x17 x18 S19 = some (ro, So) → Rp G S19 H → va_S (gA G) s.heap H locs → Ex S S19 → Ok S19 this 11 → lv_has ls 8 [(0, .ref this), (1, .int a1), (3, .int x4)] → W p l e rX11_gates s m args below meth c H locs 0 0 (MQ below (Qn G S (some (.int ro)) So) args s 0 0 (gA G)) (F0 m 128 ls [.int x18, .int x17]) := by
            intro x17 x18 S19 H locs ls hf hR hS hE ok_this hl
            rw [ej128_16] at hf
            refine lv_iadd hx hb dX11_gates_128 ?_
            refine bdi hf (fun x20 hf => ?_)
            refine lv_istore_n (lv' := [(2, .int x20), (0, .ref this), (1, .int a1), (3, .int x4)]) hx hb dX11_gates_129 rfl hl (by decide) rfl (fun ls hl => ?_)
            refine r_iinc (n := 1) (z := 1) (lv' := fun x21 => [(3, .int x21), (2, .int x20), (0, .ref this), (1, .int a1)]) hx hb dX11_gates_130 hl (k := 3) rfl (by decide) (by decide) (fun _ => rfl) hf (fun x21 ls hf hl => ?_)
            refine lv_goto (tgt := 4) hx hb dX11_gates_133 (by decide) ?_
            exact hL4_1 x20 x21 S19 _ _ _ hf hR hS hE ok_this (lv_sub hl [2, 3, 1, 0] rfl)
          obtain ⟨j127_23, ej127_23, hf⟩ := jn_of2 hf
          have hj127_22 : ∀ (x24 : Int32) (S25 : MS) (H : Heap) (locs : List Loc) (ls : Array Slot), j127_23 x24 S25 = some (ro, So) → Rp G S25 H → va_S (gA G) s.heap H locs → Ex S S25 → Ok S25 this 11 → lv_has ls 8 [(0, .ref this), (1, .int a1), (3, .int x4)] → W p l e rX11_gates s m args below meth c H locs 0 0 (MQ below (Qn G S (some (.int ro)) So) args s 0 0 (gA G)) (F0 m 127 ls [.int x24]) := by
            intro x24 S25 H locs ls hf hR hS hE ok_this hl
            rw [ej127_23] at hf
            refine lv_iconst (v := 0) hx hb dX11_gates_127 (by decide) ?_
            exact hj128_15 x24 (0 : Int32) S25 _ _ _ hf hR hS hE ok_this (lv_sub hl [0, 1, 2] rfl)
          refine lv_if_eq (tgt := 127) hx hb dX11_gates_115 (by decide) (fun hc => ?_) (fun hc => ?_)
          · replace hf := if_t hf hc
            exact hj127_22 x3 S14 _ _ _ hf hR hS hE ok_this (lv_sub hl [0, 1, 3] rfl)
          · replace hf := if_f hf hc
            refine lv_iload hx hb dX11_gates_118 (lv_at hl 5 rfl) ?_
            refine lv_if_eq (tgt := 127) hx hb dX11_gates_120 (by decide) (fun hc => ?_) (fun hc => ?_)
            · replace hf := if_t hf hc
              exact hj127_22 x3 S14 _ _ _ hf hR hS hE ok_this (lv_sub hl [0, 1, 3] rfl)
            · replace hf := if_f hf hc
              refine lv_iconst (v := 1) hx hb dX11_gates_123 (by decide) ?_
              refine lv_goto (tgt := 128) hx hb dX11_gates_124 (by decide) ?_
              exact hj128_15 x3 (1 : Int32) S14 _ _ _ hf hR hS hE ok_this (lv_sub hl [0, 1, 3] rfl)
        have hh83 : ∀ k : Nat, ∀ (x33 : Int32) (x34 : Int32) (x35 : Int32) (S36 : MS) (H : Heap) (locs : List Loc) (ls : Array Slot), f_X11_gates_L21 n this a1 x3 x4 j112_11 k x33 x34 x35 S36 = some (ro, So) → Rp G S36 H → va_S (gA G) s.heap H locs → Ex S S36 → Ok S36 this 11 → lv_has ls 8 [(0, .ref this), (1, .int a1), (2, .int x3), (3, .int x4), (4, .int x33), (5, .int x34), (6, .int x35)] → W p l e rX11_gates s m args below meth c H locs 0 0 (MQ below (Qn G S (some (.int ro)) So) args s 0 0 (gA G)) (F0 m 21 ls []) := by
          intro k
          induction k with
          | zero =>
            intro x33 x34 x35 S36 H locs ls hf hR hS hE ok_this hl
            exact absurd hf (by rw [f_X11_gates_L21]; exact fun h => by cases h)
          | succ k ih =>
            intro x33 x34 x35 S36 H locs ls hf hR hS hE ok_this hl
            rw [f_X11_gates_L21] at hf
            obtain ⟨rec21_32, erec21_32, hf⟩ := jn_of4 hf
            have hL21_31 : ∀ (x33 : Int32) (x34 : Int32) (x35 : Int32) (S36 : MS) (H : Heap) (locs : List Loc) (ls : Array Slot), rec21_32 x33 x34 x35 S36 = some (ro, So) → Rp G S36 H → va_S (gA G) s.heap H locs → Ex S S36 → Ok S36 this 11 → lv_has ls 8 [(0, .ref this), (1, .int a1), (2, .int x3), (3, .int x4), (4, .int x33), (5, .int x34), (6, .int x35)] → W p l e rX11_gates s m args below meth c H locs 0 0 (MQ below (Qn G S (some (.int ro)) So) args s 0 0 (gA G)) (F0 m 21 ls []) := by
              intro x33 x34 x35 S36 H locs ls hf hR hS hE ok_this hl
              rw [erec21_32] at hf
              exact ih x33 x34 x35 S36 _ _ _ hf hR hS hE ok_this hl
            refine lv_iload hx hb dX11_gates_21 (lv_at hl 6 rfl) ?_
            refine lv_iconst (v := 4) hx hb dX11_gates_23 (by decide) ?_
            refine lv_icmp_ge (tgt := 112) hx hb dX11_gates_24 (by decide) (fun hc => ?_) (fun hc => ?_)
            · replace hf := if_t hf hc
              exact hj112_10 x33 x34 S36 _ _ _ hf hR hS hE ok_this (lv_sub hl [0, 1, 2, 3, 4, 5] rfl)
            · replace hf := if_f hf hc
              refine lv_aload_n hx hb dX11_gates_27 rfl (lv_at hl 0 rfl) ?_
              refine lv_aload_n hx hb dX11_gates_28 rfl (lv_at hl 0 rfl) ?_
              refine lv_iload_n hx hb dX11_gates_29 rfl (lv_at hl 3 rfl) ?_
              obtain ⟨x40, S37, hc38, hf⟩ := cl_of hf
              refine cl_RX11_291 (As := [.int x4]) (rest := [.ref this]) hC hR hS (c_X11_cellOf l G n this x4 S36 x40 S37 hc38 ok_this) ok_this rfl ⟨Nat.le_of_ble_eq_true rfl, Nat.le_of_ble_eq_true rfl⟩ hl.1 rfl (Nat.le_of_ble_eq_true rfl) dX11_gates_30 (Nat.zero_le _) (Nat.zero_le _) (fun H locs hR hS hE39 => ?_)
              have ok_this := hE39 _ _ ok_this
              have hE := hE.tr hE39
              refine lv_iload hx hb dX11_gates_33 (lv_at hl 6 rfl) ?_
              obtain ⟨x44, S41, hc42, hf⟩ := cl_of hf
              refine cl_RX11_294 (As := [.int x40, .int x35]) (rest := []) hC hR hS (c_X11_sideOf l G n this x40 x35 S37 x44 S41 hc42 ok_this) ok_this rfl ⟨Nat.le_of_ble_eq_true rfl, Nat.le_of_ble_eq_true rfl⟩ hl.1 rfl (Nat.le_of_ble_eq_true rfl) dX11_gates_35 (Nat.zero_le _) (Nat.zero_le _) (fun H locs hR hS hE43 => ?_)
              have ok_this := hE43 _ _ ok_this
              have hE := hE.tr hE43
              refine lv_istore (lv' := [(7, .int x44), (0, .ref this), (1, .int a1), (2, .int x3), (3, .int x4), (4, .int x33), (5, .int x34), (6, .int x35)]) hx hb dX11_gates_38 hl (by decide) rfl (fun ls hl => ?_)
              refine lv_iload hx hb dX11_gates_40 (lv_at hl 5 rfl) ?_
              obtain ⟨j66_46, ej66_46, hf⟩ := jn_of2 hf
              have hj66_45 : ∀ (x47 : Int32) (S48 : MS) (H : Heap) (locs : List Loc) (ls : Array Slot), j66_46 x47 S48 = some (ro, So) → Rp G S48 H → va_S (gA G) s.heap H locs → Ex S S48 → Ok S48 this 11 → lv_has ls 8 [(0, .ref this), (1, .int a1), (2, .int x3), (3, .int x4), (5, .int x34), (6, .int x35), (7, .int x44)] → W p l e rX11_gates s m args below meth c H locs 0 0 (MQ below (Qn G S (some (.int ro)) So) args s 0 0 (gA G)) (F0 m 66 ls [.int x47]) := by
                intro x47 S48 H locs ls hf hR hS hE ok_this hl
                rw [ej66_46] at hf
                refine lv_istore (lv' := [(4, .int x47), (0, .ref this), (1, .int a1), (2, .int x3), (3, .int x4), (5, .int x34), (6, .int x35), (7, .int x44)]) hx hb dX11_gates_66 hl (by decide) rfl (fun ls hl => ?_)
                refine lv_iload hx hb dX11_gates_68 (lv_at hl 5 rfl) ?_
                obtain ⟨j104_50, ej104_50, hf⟩ := jn_of2 hf
                have hj104_49 : ∀ (x51 : Int32) (S52 : MS) (H : Heap) (locs : List Loc) (ls : Array Slot), j104_50 x51 S52 = some (ro, So) → Rp G S52 H → va_S (gA G) s.heap H locs → Ex S S52 → Ok S52 this 11 → lv_has ls 8 [(0, .ref this), (1, .int a1), (2, .int x3), (3, .int x4), (4, .int x47), (6, .int x35)] → W p l e rX11_gates s m args below meth c H locs 0 0 (MQ below (Qn G S (some (.int ro)) So) args s 0 0 (gA G)) (F0 m 104 ls [.int x51]) := by
                  intro x51 S52 H locs ls hf hR hS hE ok_this hl
                  rw [ej104_50] at hf
                  refine lv_istore (lv' := [(5, .int x51), (0, .ref this), (1, .int a1), (2, .int x3), (3, .int x4), (4, .int x47), (6, .int x35)]) hx hb dX11_gates_104 hl (by decide) rfl (fun ls hl => ?_)
                  refine r_iinc (n := 1) (z := 1) (lv' := fun x53 => [(6, .int x53), (5, .int x51), (0, .ref this), (1, .int a1), (2, .int x3), (3, .int x4), (4, .int x47)]) hx hb dX11_gates_106 hl (k := 6) rfl (by decide) (by decide) (fun _ => rfl) hf (fun x53 ls hf hl => ?_)
                  refine lv_goto (tgt := 21) hx hb dX11_gates_109 (by decide) ?_
                  exact hL21_31 x47 x51 x53 S52 _ _ _ hf hR hS hE ok_this (lv_sub hl [2, 3, 4, 5, 6, 1, 0] rfl)
                obtain ⟨j99_55, ej99_55, hf⟩ := jn_of1 hf
                have hj99_54 : ∀ (S56 : MS) (H : Heap) (locs : List Loc) (ls : Array Slot), j99_55 S56 = some (ro, So) → Rp G S56 H → va_S (gA G) s.heap H locs → Ex S S56 → Ok S56 this 11 → lv_has ls 8 [(0, .ref this), (1, .int a1), (2, .int x3), (3, .int x4), (4, .int x47), (6, .int x35)] → W p l e rX11_gates s m args below meth c H locs 0 0 (MQ below (Qn G S (some (.int ro)) So) args s 0 0 (gA G)) (F0 m 99 ls []) := by
                  intro S56 H locs ls hf hR hS hE ok_this hl
                  rw [ej99_55] at hf
                  refine lv_iconst (v := 1) hx hb dX11_gates_99 (by decide) ?_
                  refine lv_goto (tgt := 104) hx hb dX11_gates_100 (by decide) ?_
                  exact hj104_49 (1 : Int32) S56 _ _ _ hf hR hS hE ok_this (lv_sub hl [0, 1, 2, 3, 4, 5] rfl)
                refine lv_if_ne (tgt := 99) hx hb dX11_gates_70 (by decide) (fun hc => ?_) (fun hc => ?_)
                · replace hf := if_f hf hc
                  exact hj99_54 S48 _ _ _ hf hR hS hE ok_this (lv_sub hl [1, 2, 3, 4, 0, 6] rfl)
                · replace hf := if_t hf hc
                  refine lv_iload hx hb dX11_gates_73 (lv_at hl 7 rfl) ?_
                  obtain ⟨j103_58, ej103_58, hf⟩ := jn_of1 hf
                  have hj103_57 : ∀ (S59 : MS) (H : Heap) (locs : List Loc) (ls : Array Slot), j103_58 S59 = some (ro, So) → Rp G S59 H → va_S (gA G) s.heap H locs → Ex S S59 → Ok S59 this 11 → lv_has ls 8 [(0, .ref this), (1, .int a1), (2, .int x3), (3, .int x4), (4, .int x47), (6, .int x35)] → W p l e rX11_gates s m args below meth c H locs 0 0 (MQ below (Qn G S (some (.int ro)) So) args s 0 0 (gA G)) (F0 m 103 ls []) := by
                    intro S59 H locs ls hf hR hS hE ok_this hl
                    rw [ej103_58] at hf
                    refine lv_iconst (v := 0) hx hb dX11_gates_103 (by decide) ?_
                    exact hj104_49 (0 : Int32) S59 _ _ _ hf hR hS hE ok_this (lv_sub hl [0, 1, 2, 3, 4, 5] rfl)
                  refine lv_if_lt (tgt := 103) hx hb dX11_gates_75 (by decide) (fun hc => ?_) (fun hc => ?_)
                  · replace hf := if_t hf hc
                    exact hj103_57 S48 _ _ _ hf hR hS hE ok_this (lv_sub hl [1, 2, 3, 4, 0, 6] rfl)
                  · replace hf := if_f hf hc
                    refine lv_aload_n hx hb dX11_gates_78 rfl (lv_at hl 1 rfl) ?_
                    obtain ⟨q60, hq61, ok_q60, hf⟩ := gR_of hf
                    refine gf_RX11_46 hC hR ok_this hq61 dX11_gates_79 ?_
                    refine lv_iload hx hb dX11_gates_82 (lv_at hl 7 rfl) ?_
                    obtain ⟨hi62, hf⟩ := ck_of hf
                    refine r_iald hC hR ok_q60 hi62 dX11_gates_84 ?_
                    refine lv_if_lt (tgt := 103) hx hb dX11_gates_85 (by decide) (fun hc => ?_) (fun hc => ?_)
                    · replace hf := if_t hf hc
                      exact hj103_57 S48 _ _ _ hf hR hS hE ok_this (lv_sub hl [1, 2, 3, 4, 0, 6] rfl)
                    · replace hf := if_f hf hc
                      refine lv_aload_n hx hb dX11_gates_88 rfl (lv_at hl 1 rfl) ?_
                      obtain ⟨q63, hq64, ok_q63, hf⟩ := gR_of hf
                      refine gf_RX11_46 hC hR ok_this hq64 dX11_gates_89 ?_
                      refine lv_iload hx hb dX11_gates_92 (lv_at hl 7 rfl) ?_
                      obtain ⟨hi65, hf⟩ := ck_of hf
                      refine r_iald hC hR ok_q63 hi65 dX11_gates_94 ?_
                      refine lv_iload_n hx hb dX11_gates_95 rfl (lv_at hl 2 rfl) ?_
                      refine lv_icmp_eq (tgt := 103) hx hb dX11_gates_96 (by decide) (fun hc => ?_) (fun hc => ?_)
                      · replace hf := if_t hf hc
                        exact hj103_57 S48 _ _ _ hf hR hS hE ok_this (lv_sub hl [1, 2, 3, 4, 0, 6] rfl)
                      · replace hf := if_f hf hc
                        exact hj99_54 S48 _ _ _ hf hR hS hE ok_this (lv_sub hl [1, 2, 3, 4, 0, 6] rfl)
              obtain ⟨j61_71, ej61_71, hf⟩ := jn_of1 hf
              have hj61_70 : ∀ (S72 : MS) (H : Heap) (locs : List Loc) (ls : Array Slot), j61_71 S72 = some (ro, So) → Rp G S72 H → va_S (gA G) s.heap H locs → Ex S S72 → Ok S72 this 11 → lv_has ls 8 [(0, .ref this), (1, .int a1), (2, .int x3), (3, .int x4), (5, .int x34), (6, .int x35), (7, .int x44)] → W p l e rX11_gates s m args below meth c H locs 0 0 (MQ below (Qn G S (some (.int ro)) So) args s 0 0 (gA G)) (F0 m 61 ls []) := by
                intro S72 H locs ls hf hR hS hE ok_this hl
                rw [ej61_71] at hf
                refine lv_iconst (v := 1) hx hb dX11_gates_61 (by decide) ?_
                refine lv_goto (tgt := 66) hx hb dX11_gates_62 (by decide) ?_
                exact hj66_45 (1 : Int32) S72 _ _ _ hf hR hS hE ok_this (lv_sub hl [0, 1, 2, 3, 4, 5, 6] rfl)
              refine lv_if_ne (tgt := 61) hx hb dX11_gates_42 (by decide) (fun hc => ?_) (fun hc => ?_)
              · replace hf := if_f hf hc
                exact hj61_70 S41 _ _ _ hf hR hS hE ok_this (lv_sub hl [1, 2, 3, 4, 6, 7, 0] rfl)
              · replace hf := if_t hf hc
                refine lv_iload hx hb dX11_gates_45 (lv_at hl 0 rfl) ?_
                obtain ⟨j65_74, ej65_74, hf⟩ := jn_of1 hf
                have hj65_73 : ∀ (S75 : MS) (H : Heap) (locs : List Loc) (ls : Array Slot), j65_74 S75 = some (ro, So) → Rp G S75 H → va_S (gA G) s.heap H locs → Ex S S75 → Ok S75 this 11 → lv_has ls 8 [(0, .ref this), (1, .int a1), (2, .int x3), (3, .int x4), (5, .int x34), (6, .int x35), (7, .int x44)] → W p l e rX11_gates s m args below meth c H locs 0 0 (MQ below (Qn G S (some (.int ro)) So) args s 0 0 (gA G)) (F0 m 65 ls []) := by
                  intro S75 H locs ls hf hR hS hE ok_this hl
                  rw [ej65_74] at hf
                  refine lv_iconst (v := 0) hx hb dX11_gates_65 (by decide) ?_
                  exact hj66_45 (0 : Int32) S75 _ _ _ hf hR hS hE ok_this (lv_sub hl [0, 1, 2, 3, 4, 5, 6] rfl)
                refine lv_if_lt (tgt := 65) hx hb dX11_gates_47 (by decide) (fun hc => ?_) (fun hc => ?_)
                · replace hf := if_t hf hc
                  exact hj65_73 S41 _ _ _ hf hR hS hE ok_this (lv_sub hl [1, 2, 3, 4, 6, 7, 0] rfl)
                · replace hf := if_f hf hc
                  refine lv_aload_n hx hb dX11_gates_50 rfl (lv_at hl 1 rfl) ?_
                  obtain ⟨q76, hq77, ok_q76, hf⟩ := gR_of hf
                  refine gf_RX11_46 hC hR ok_this hq77 dX11_gates_51 ?_
                  refine lv_iload hx hb dX11_gates_54 (lv_at hl 0 rfl) ?_
                  obtain ⟨hi78, hf⟩ := ck_of hf
                  refine r_iald hC hR ok_q76 hi78 dX11_gates_56 ?_
                  refine lv_iload_n hx hb dX11_gates_57 rfl (lv_at hl 2 rfl) ?_
                  refine lv_icmp_ne (tgt := 65) hx hb dX11_gates_58 (by decide) (fun hc => ?_) (fun hc => ?_)
                  · replace hf := if_f hf hc
                    exact hj65_73 S41 _ _ _ hf hR hS hE ok_this (lv_sub hl [1, 2, 3, 4, 6, 7, 0] rfl)
                  · replace hf := if_t hf hc
                    exact hj61_70 S41 _ _ _ hf hR hS hE ok_this (lv_sub hl [1, 2, 3, 4, 6, 7, 0] rfl)
        exact hh83 n (0 : Int32) (0 : Int32) (0 : Int32) S6 _ _ _ hf hR hS hE ok_this (lv_sub hl [3, 4, 5, 6, 2, 1, 0] rfl)
  exact hh87 n (0 : Int32) (0 : Int32) S _ _ _ hf hR hS hE ok_this (lv_sub hl [2, 3, 1, 0] rfl)
abbrev rX11_fields : Room := { frames := 4, cells := 0, slots := 0, locals := 93 }
def f_X11_fields_L8 (n : Nat) (this : Nat) : Nat → Int32 → Int32 → MS → Option (Int32 × MS)
  | 0, _, _, _ => none
  | k + 1, x6, x7, S8 => jn (f_X11_fields_L8 n this k) fun rec8_5 => (if (mI S8 this 3) ≤ x7 then some (x6, S8) else gR S8 (mR S8 this 30) 12 fun q9 => ck (inb x7 (mN S8 q9)) (jn (fun (x14 : Int32) (x15 : Int32) (S16 : MS) => bd (x14 + x15) fun x17 => bd (x7 + (1 : Int32)) fun x18 => rec8_5 x17 x18 S16) fun j32_13 => (if (mI S8 q9 x7.toNatClampNeg) = x7 then j32_13 x6 (1 : Int32) S8 else j32_13 x6 (0 : Int32) S8)))
def f_X11_fields (n : Nat) (this : Nat) (S : MS) : Option (Int32 × MS) :=
  cv (f_X11_findFields n this S) fun S1 => f_X11_fields_L8 n this n (0 : Int32) (0 : Int32) S1
set_option maxRecDepth 100000 in
set_option maxHeartbeats 4000000 in
theorem c_X11_fields (l : Launch) (G : Gx) (n : Nat) (this : Nat) (S : MS) (ro : Int32) (So : MS) (hf : f_X11_fields n this S = some (ro, So)) (ok_this : Ok S this 11) : Cn G l yX11_fields cX11_fields 3 (some .int) rX11_fields [.ref this] S (some (.int ro)) So := by
  refine Cn.of (by decide) (Nat.le_of_ble_eq_true rfl) ?_
  intro p e s m args below meth c hC hname hR ls hl
  have hC : Cx G RX11 cX11_fields 3 (some .int) p s m args meth c := hC
  have hl : lv_has ls 3 [(0, .ref this)] := hl
  have hx := hC.x
  have hb := hC.b
  have hS : va_S (gA G) s.heap s.heap [] := va_S.rf
  have hE : Ex S S := Ex.rf S
  unfold f_X11_fields at hf
  refine lv_aload_n hx hb dX11_fields_0 rfl (lv_at hl 0 rfl) ?_
  obtain ⟨S1, hc2, hf⟩ := cv_of hf
  refine cl_RX11_337 (As := []) (rest := []) hC hR hS (c_X11_findFields l G n this S S1 hc2 ok_this) ok_this rfl ⟨Nat.le_of_ble_eq_true rfl, Nat.le_of_ble_eq_true rfl⟩ hl.1 rfl (Nat.le_of_ble_eq_true rfl) dX11_fields_1 (Nat.zero_le _) (Nat.zero_le _) (fun H locs hR hS hE3 => ?_)
  have ok_this := hE3 _ _ ok_this
  have hE := hE.tr hE3
  refine lv_iconst (v := 0) hx hb dX11_fields_4 (by decide) ?_
  refine lv_istore_n (lv' := [(1, .int (0 : Int32)), (0, .ref this)]) hx hb dX11_fields_5 rfl hl (by decide) rfl (fun ls hl => ?_)
  refine lv_iconst (v := 0) hx hb dX11_fields_6 (by decide) ?_
  refine lv_istore_n (lv' := [(2, .int (0 : Int32)), (1, .int (0 : Int32)), (0, .ref this)]) hx hb dX11_fields_7 rfl hl (by decide) rfl (fun ls hl => ?_)
  have hh22 : ∀ k : Nat, ∀ (x6 : Int32) (x7 : Int32) (S8 : MS) (H : Heap) (locs : List Loc) (ls : Array Slot), f_X11_fields_L8 n this k x6 x7 S8 = some (ro, So) → Rp G S8 H → va_S (gA G) s.heap H locs → Ex S S8 → Ok S8 this 11 → lv_has ls 3 [(0, .ref this), (1, .int x6), (2, .int x7)] → W p l e rX11_fields s m args below meth c H locs 0 0 (MQ below (Qn G S (some (.int ro)) So) args s 0 0 (gA G)) (F0 m 8 ls []) := by
    intro k
    induction k with
    | zero =>
      intro x6 x7 S8 H locs ls hf hR hS hE ok_this hl
      exact absurd hf (by rw [f_X11_fields_L8]; exact fun h => by cases h)
    | succ k ih =>
      intro x6 x7 S8 H locs ls hf hR hS hE ok_this hl
      rw [f_X11_fields_L8] at hf
      obtain ⟨rec8_5, erec8_5, hf⟩ := jn_of3 hf
      have hL8_4 : ∀ (x6 : Int32) (x7 : Int32) (S8 : MS) (H : Heap) (locs : List Loc) (ls : Array Slot), rec8_5 x6 x7 S8 = some (ro, So) → Rp G S8 H → va_S (gA G) s.heap H locs → Ex S S8 → Ok S8 this 11 → lv_has ls 3 [(0, .ref this), (1, .int x6), (2, .int x7)] → W p l e rX11_fields s m args below meth c H locs 0 0 (MQ below (Qn G S (some (.int ro)) So) args s 0 0 (gA G)) (F0 m 8 ls []) := by
        intro x6 x7 S8 H locs ls hf hR hS hE ok_this hl
        rw [erec8_5] at hf
        exact ih x6 x7 S8 _ _ _ hf hR hS hE ok_this hl
      refine lv_iload_n hx hb dX11_fields_8 rfl (lv_at hl 2 rfl) ?_
      refine lv_aload_n hx hb dX11_fields_9 rfl (lv_at hl 0 rfl) ?_
      refine gf_RX11_64 hC hR ok_this dX11_fields_10 ?_
      refine lv_icmp_ge (tgt := 40) hx hb dX11_fields_13 (by decide) (fun hc => ?_) (fun hc => ?_)
      · replace hf := if_t hf hc
        refine lv_iload_n hx hb dX11_fields_40 rfl (lv_at hl 1 rfl) ?_
        exact r_iret hC hR hS hE hf dX11_fields_41
      · replace hf := if_f hf hc
        refine lv_iload_n hx hb dX11_fields_16 rfl (lv_at hl 1 rfl) ?_
        refine lv_aload_n hx hb dX11_fields_17 rfl (lv_at hl 0 rfl) ?_
        obtain ⟨q9, hq10, ok_q9, hf⟩ := gR_of hf
        refine gf_RX11_46 hC hR ok_this hq10 dX11_fields_18 ?_
        refine lv_iload_n hx hb dX11_fields_21 rfl (lv_at hl 2 rfl) ?_
        obtain ⟨hi11, hf⟩ := ck_of hf
        refine r_iald hC hR ok_q9 hi11 dX11_fields_22 ?_
        refine lv_iload_n hx hb dX11_fields_23 rfl (lv_at hl 2 rfl) ?_
        obtain ⟨j32_13, ej32_13, hf⟩ := jn_of3 hf
        have hj32_12 : ∀ (x14 : Int32) (x15 : Int32) (S16 : MS) (H : Heap) (locs : List Loc) (ls : Array Slot), j32_13 x14 x15 S16 = some (ro, So) → Rp G S16 H → va_S (gA G) s.heap H locs → Ex S S16 → Ok S16 this 11 → lv_has ls 3 [(0, .ref this), (2, .int x7)] → W p l e rX11_fields s m args below meth c H locs 0 0 (MQ below (Qn G S (some (.int ro)) So) args s 0 0 (gA G)) (F0 m 32 ls [.int x15, .int x14]) := by
          intro x14 x15 S16 H locs ls hf hR hS hE ok_this hl
          rw [ej32_13] at hf
          refine lv_iadd hx hb dX11_fields_32 ?_
          refine bdi hf (fun x17 hf => ?_)
          refine lv_istore_n (lv' := [(1, .int x17), (0, .ref this), (2, .int x7)]) hx hb dX11_fields_33 rfl hl (by decide) rfl (fun ls hl => ?_)
          refine r_iinc (n := 1) (z := 1) (lv' := fun x18 => [(2, .int x18), (1, .int x17), (0, .ref this)]) hx hb dX11_fields_34 hl (k := 2) rfl (by decide) (by decide) (fun _ => rfl) hf (fun x18 ls hf hl => ?_)
          refine lv_goto (tgt := 8) hx hb dX11_fields_37 (by decide) ?_
          exact hL8_4 x17 x18 S16 _ _ _ hf hR hS hE ok_this (lv_sub hl [2, 1, 0] rfl)
        refine lv_icmp_ne (tgt := 31) hx hb dX11_fields_24 (by decide) (fun hc => ?_) (fun hc => ?_)
        · replace hf := if_f hf hc
          refine lv_iconst (v := 0) hx hb dX11_fields_31 (by decide) ?_
          exact hj32_12 x6 (0 : Int32) S8 _ _ _ hf hR hS hE ok_this (lv_sub hl [0, 2] rfl)
        · replace hf := if_t hf hc
          refine lv_iconst (v := 1) hx hb dX11_fields_27 (by decide) ?_
          refine lv_goto (tgt := 32) hx hb dX11_fields_28 (by decide) ?_
          exact hj32_12 x6 (1 : Int32) S8 _ _ _ hf hR hS hE ok_this (lv_sub hl [0, 2] rfl)
  exact hh22 n (0 : Int32) (0 : Int32) S1 _ _ _ hf hR hS hE ok_this (lv_sub hl [2, 1, 0] rfl)
abbrev rX11_disputed : Room := { frames := 4, cells := 0, slots := 0, locals := 93 }
def f_X11_disputed_L8 (n : Nat) (this : Nat) : Nat → Int32 → Int32 → MS → Option (Int32 × MS)
  | 0, _, _, _ => none
  | k + 1, x6, x7, S8 => jn (f_X11_disputed_L8 n this k) fun rec8_5 => (if (mI S8 this 3) ≤ x7 then some (x6, S8) else gR S8 (mR S8 this 30) 12 fun q9 => ck (inb x7 (mN S8 q9)) (jn (fun (x14 : Int32) (x15 : Int32) (S16 : MS) => bd (x14 + x15) fun x17 => bd (x7 + (1 : Int32)) fun x18 => rec8_5 x17 x18 S16) fun j41_13 => jn (fun (x21 : Int32) (S22 : MS) => j41_13 x21 (0 : Int32) S22) fun j40_20 => (if (mI S8 q9 x7.toNatClampNeg) = x7 then cl (f_X11_havers n this x7 S8) fun x26 S23 => (if x26 ≤ (1 : Int32) then j40_20 x6 S23 else j41_13 x6 (1 : Int32) S23) else j40_20 x6 S8)))
def f_X11_disputed (n : Nat) (this : Nat) (S : MS) : Option (Int32 × MS) :=
  cv (f_X11_findFields n this S) fun S1 => f_X11_disputed_L8 n this n (0 : Int32) (0 : Int32) S1
set_option maxRecDepth 100000 in
set_option maxHeartbeats 4000000 in
theorem c_X11_disputed (l : Launch) (G : Gx) (n : Nat) (this : Nat) (S : MS) (ro : Int32) (So : MS) (hf : f_X11_disputed n this S = some (ro, So)) (ok_this : Ok S this 11) : Cn G l yX11_disputed cX11_disputed 3 (some .int) rX11_disputed [.ref this] S (some (.int ro)) So := by
  refine Cn.of (by decide) (Nat.le_of_ble_eq_true rfl) ?_
  intro p e s m args below meth c hC hname hR ls hl
  have hC : Cx G RX11 cX11_disputed 3 (some .int) p s m args meth c := hC
  have hl : lv_has ls 3 [(0, .ref this)] := hl
  have hx := hC.x
  have hb := hC.b
  have hS : va_S (gA G) s.heap s.heap [] := va_S.rf
  have hE : Ex S S := Ex.rf S
  unfold f_X11_disputed at hf
  refine lv_aload_n hx hb dX11_disputed_0 rfl (lv_at hl 0 rfl) ?_
  obtain ⟨S1, hc2, hf⟩ := cv_of hf
  refine cl_RX11_337 (As := []) (rest := []) hC hR hS (c_X11_findFields l G n this S S1 hc2 ok_this) ok_this rfl ⟨Nat.le_of_ble_eq_true rfl, Nat.le_of_ble_eq_true rfl⟩ hl.1 rfl (Nat.le_of_ble_eq_true rfl) dX11_disputed_1 (Nat.zero_le _) (Nat.zero_le _) (fun H locs hR hS hE3 => ?_)
  have ok_this := hE3 _ _ ok_this
  have hE := hE.tr hE3
  refine lv_iconst (v := 0) hx hb dX11_disputed_4 (by decide) ?_
  refine lv_istore_n (lv' := [(1, .int (0 : Int32)), (0, .ref this)]) hx hb dX11_disputed_5 rfl hl (by decide) rfl (fun ls hl => ?_)
  refine lv_iconst (v := 0) hx hb dX11_disputed_6 (by decide) ?_
  refine lv_istore_n (lv' := [(2, .int (0 : Int32)), (1, .int (0 : Int32)), (0, .ref this)]) hx hb dX11_disputed_7 rfl hl (by decide) rfl (fun ls hl => ?_)
  have hh32 : ∀ k : Nat, ∀ (x6 : Int32) (x7 : Int32) (S8 : MS) (H : Heap) (locs : List Loc) (ls : Array Slot), f_X11_disputed_L8 n this k x6 x7 S8 = some (ro, So) → Rp G S8 H → va_S (gA G) s.heap H locs → Ex S S8 → Ok S8 this 11 → lv_has ls 3 [(0, .ref this), (1, .int x6), (2, .int x7)] → W p l e rX11_disputed s m args below meth c H locs 0 0 (MQ below (Qn G S (some (.int ro)) So) args s 0 0 (gA G)) (F0 m 8 ls []) := by
    intro k
    induction k with
    | zero =>
      intro x6 x7 S8 H locs ls hf hR hS hE ok_this hl
      exact absurd hf (by rw [f_X11_disputed_L8]; exact fun h => by cases h)
    | succ k ih =>
      intro x6 x7 S8 H locs ls hf hR hS hE ok_this hl
      rw [f_X11_disputed_L8] at hf
      obtain ⟨rec8_5, erec8_5, hf⟩ := jn_of3 hf
      have hL8_4 : ∀ (x6 : Int32) (x7 : Int32) (S8 : MS) (H : Heap) (locs : List Loc) (ls : Array Slot), rec8_5 x6 x7 S8 = some (ro, So) → Rp G S8 H → va_S (gA G) s.heap H locs → Ex S S8 → Ok S8 this 11 → lv_has ls 3 [(0, .ref this), (1, .int x6), (2, .int x7)] → W p l e rX11_disputed s m args below meth c H locs 0 0 (MQ below (Qn G S (some (.int ro)) So) args s 0 0 (gA G)) (F0 m 8 ls []) := by
        intro x6 x7 S8 H locs ls hf hR hS hE ok_this hl
        rw [erec8_5] at hf
        exact ih x6 x7 S8 _ _ _ hf hR hS hE ok_this hl
      refine lv_iload_n hx hb dX11_disputed_8 rfl (lv_at hl 2 rfl) ?_
      refine lv_aload_n hx hb dX11_disputed_9 rfl (lv_at hl 0 rfl) ?_
      refine gf_RX11_64 hC hR ok_this dX11_disputed_10 ?_
      refine lv_icmp_ge (tgt := 49) hx hb dX11_disputed_13 (by decide) (fun hc => ?_) (fun hc => ?_)
      · replace hf := if_t hf hc
        refine lv_iload_n hx hb dX11_disputed_49 rfl (lv_at hl 1 rfl) ?_
        exact r_iret hC hR hS hE hf dX11_disputed_50
      · replace hf := if_f hf hc
        refine lv_iload_n hx hb dX11_disputed_16 rfl (lv_at hl 1 rfl) ?_
        refine lv_aload_n hx hb dX11_disputed_17 rfl (lv_at hl 0 rfl) ?_
        obtain ⟨q9, hq10, ok_q9, hf⟩ := gR_of hf
        refine gf_RX11_46 hC hR ok_this hq10 dX11_disputed_18 ?_
        refine lv_iload_n hx hb dX11_disputed_21 rfl (lv_at hl 2 rfl) ?_
        obtain ⟨hi11, hf⟩ := ck_of hf
        refine r_iald hC hR ok_q9 hi11 dX11_disputed_22 ?_
        refine lv_iload_n hx hb dX11_disputed_23 rfl (lv_at hl 2 rfl) ?_
        obtain ⟨j41_13, ej41_13, hf⟩ := jn_of3 hf
        have hj41_12 : ∀ (x14 : Int32) (x15 : Int32) (S16 : MS) (H : Heap) (locs : List Loc) (ls : Array Slot), j41_13 x14 x15 S16 = some (ro, So) → Rp G S16 H → va_S (gA G) s.heap H locs → Ex S S16 → Ok S16 this 11 → lv_has ls 3 [(0, .ref this), (2, .int x7)] → W p l e rX11_disputed s m args below meth c H locs 0 0 (MQ below (Qn G S (some (.int ro)) So) args s 0 0 (gA G)) (F0 m 41 ls [.int x15, .int x14]) := by
          intro x14 x15 S16 H locs ls hf hR hS hE ok_this hl
          rw [ej41_13] at hf
          refine lv_iadd hx hb dX11_disputed_41 ?_
          refine bdi hf (fun x17 hf => ?_)
          refine lv_istore_n (lv' := [(1, .int x17), (0, .ref this), (2, .int x7)]) hx hb dX11_disputed_42 rfl hl (by decide) rfl (fun ls hl => ?_)
          refine r_iinc (n := 1) (z := 1) (lv' := fun x18 => [(2, .int x18), (1, .int x17), (0, .ref this)]) hx hb dX11_disputed_43 hl (k := 2) rfl (by decide) (by decide) (fun _ => rfl) hf (fun x18 ls hf hl => ?_)
          refine lv_goto (tgt := 8) hx hb dX11_disputed_46 (by decide) ?_
          exact hL8_4 x17 x18 S16 _ _ _ hf hR hS hE ok_this (lv_sub hl [2, 1, 0] rfl)
        obtain ⟨j40_20, ej40_20, hf⟩ := jn_of2 hf
        have hj40_19 : ∀ (x21 : Int32) (S22 : MS) (H : Heap) (locs : List Loc) (ls : Array Slot), j40_20 x21 S22 = some (ro, So) → Rp G S22 H → va_S (gA G) s.heap H locs → Ex S S22 → Ok S22 this 11 → lv_has ls 3 [(0, .ref this), (2, .int x7)] → W p l e rX11_disputed s m args below meth c H locs 0 0 (MQ below (Qn G S (some (.int ro)) So) args s 0 0 (gA G)) (F0 m 40 ls [.int x21]) := by
          intro x21 S22 H locs ls hf hR hS hE ok_this hl
          rw [ej40_20] at hf
          refine lv_iconst (v := 0) hx hb dX11_disputed_40 (by decide) ?_
          exact hj41_12 x21 (0 : Int32) S22 _ _ _ hf hR hS hE ok_this (lv_sub hl [0, 1] rfl)
        refine lv_icmp_ne (tgt := 40) hx hb dX11_disputed_24 (by decide) (fun hc => ?_) (fun hc => ?_)
        · replace hf := if_f hf hc
          exact hj40_19 x6 S8 _ _ _ hf hR hS hE ok_this (lv_sub hl [0, 2] rfl)
        · replace hf := if_t hf hc
          refine lv_aload_n hx hb dX11_disputed_27 rfl (lv_at hl 0 rfl) ?_
          refine lv_iload_n hx hb dX11_disputed_28 rfl (lv_at hl 2 rfl) ?_
          obtain ⟨x26, S23, hc24, hf⟩ := cl_of hf
          refine cl_RX11_334 (As := [.int x7]) (rest := [.int x6]) hC hR hS (c_X11_havers l G n this x7 S8 x26 S23 hc24 ok_this) ok_this rfl ⟨Nat.le_of_ble_eq_true rfl, Nat.le_of_ble_eq_true rfl⟩ hl.1 rfl (Nat.le_of_ble_eq_true rfl) dX11_disputed_29 (Nat.zero_le _) (Nat.zero_le _) (fun H locs hR hS hE25 => ?_)
          have ok_this := hE25 _ _ ok_this
          have ok_q9 := hE25 _ _ ok_q9
          have hE := hE.tr hE25
          refine lv_iconst (v := 1) hx hb dX11_disputed_32 (by decide) ?_
          refine lv_icmp_le (tgt := 40) hx hb dX11_disputed_33 (by decide) (fun hc => ?_) (fun hc => ?_)
          · replace hf := if_t hf hc
            exact hj40_19 x6 S23 _ _ _ hf hR hS hE ok_this (lv_sub hl [0, 2] rfl)
          · replace hf := if_f hf hc
            refine lv_iconst (v := 1) hx hb dX11_disputed_36 (by decide) ?_
            refine lv_goto (tgt := 41) hx hb dX11_disputed_37 (by decide) ?_
            exact hj41_12 x6 (1 : Int32) S23 _ _ _ hf hR hS hE ok_this (lv_sub hl [0, 2] rfl)
  exact hh32 n (0 : Int32) (0 : Int32) S1 _ _ _ hf hR hS hE ok_this (lv_sub hl [2, 1, 0] rfl)
abbrev rX11_of : Room := { frames := 5, cells := 0, slots := 0, locals := 116 }
def f_X11_of (n : Nat) (this : Nat) (a1 : Int32) (a2 : Int32) (S : MS) : Option (Int32 × MS) :=
  cl (f_X11_isBone n this a1 S) fun x4 S1 => (if x4 = 0 then some ((-10000000 : Int32), S1) else cl (f_X11_isIn n a2 (0 : Int32) (3 : Int32) S1) fun x8 S5 => (if x8 = 0 then some ((-10000000 : Int32), S5) else (if a2 = (3 : Int32) then cl (f_X11_holdOf n this a1 S5) fun x15 S12 => some (x15, S12) else gR S5 (mR S5 this 0) 12 fun q9 => ck (inb (((10 : Int32) + ((3 : Int32) * a1)) + a2) (mN S5 q9)) (some ((mI S5 q9 (((10 : Int32) + ((3 : Int32) * a1)) + a2).toNatClampNeg), S5)))))
set_option maxRecDepth 100000 in
set_option maxHeartbeats 4000000 in
theorem c_X11_of (l : Launch) (G : Gx) (n : Nat) (this : Nat) (a1 : Int32) (a2 : Int32) (S : MS) (ro : Int32) (So : MS) (hf : f_X11_of n this a1 a2 S = some (ro, So)) (ok_this : Ok S this 11) : Cn G l yX11_of cX11_of 3 (some .int) rX11_of [.ref this, .int a1, .int a2] S (some (.int ro)) So := by
  refine Cn.of (by decide) (Nat.le_of_ble_eq_true rfl) ?_
  intro p e s m args below meth c hC hname hR ls hl
  have hC : Cx G RX11 cX11_of 3 (some .int) p s m args meth c := hC
  have hl : lv_has ls 3 [(0, .ref this), (1, .int a1), (2, .int a2)] := hl
  have hx := hC.x
  have hb := hC.b
  have hS : va_S (gA G) s.heap s.heap [] := va_S.rf
  have hE : Ex S S := Ex.rf S
  unfold f_X11_of at hf
  refine lv_aload_n hx hb dX11_of_0 rfl (lv_at hl 0 rfl) ?_
  refine lv_iload_n hx hb dX11_of_1 rfl (lv_at hl 1 rfl) ?_
  obtain ⟨x4, S1, hc2, hf⟩ := cl_of hf
  refine cl_RX11_340 (As := [.int a1]) (rest := []) hC hR hS (c_X11_isBone l G n this a1 S x4 S1 hc2 ok_this) ok_this rfl ⟨Nat.le_of_ble_eq_true rfl, Nat.le_of_ble_eq_true rfl⟩ hl.1 rfl (Nat.le_of_ble_eq_true rfl) dX11_of_2 (Nat.zero_le _) (Nat.zero_le _) (fun H locs hR hS hE3 => ?_)
  have ok_this := hE3 _ _ ok_this
  have hE := hE.tr hE3
  refine lv_if_eq (tgt := 17) hx hb dX11_of_5 (by decide) (fun hc => ?_) (fun hc => ?_)
  · replace hf := if_t hf hc
    refine lv_ldcw (v := -10000000) hx hb hC.ow (hC.ts _ (bg32 _ (List.mem_of_getElem? (i := 22) rfl))) dX11_of_17 ?_
    exact r_iret hC hR hS hE hf dX11_of_20
  · replace hf := if_f hf hc
    refine lv_iload_n hx hb dX11_of_8 rfl (lv_at hl 2 rfl) ?_
    refine lv_iconst (v := 0) hx hb dX11_of_9 (by decide) ?_
    refine lv_iconst (v := 3) hx hb dX11_of_10 (by decide) ?_
    obtain ⟨x8, S5, hc6, hf⟩ := cl_of hf
    refine cl_RX11_71 (As := [.int a2, .int (0 : Int32), .int (3 : Int32)]) (rest := []) hC hR hS (c_X11_isIn l G n a2 (0 : Int32) (3 : Int32) S1 x8 S5 hc6 ) rfl ⟨Nat.le_of_ble_eq_true rfl, Nat.le_of_ble_eq_true rfl⟩ hl.1 rfl (Nat.le_of_ble_eq_true rfl) dX11_of_11 (Nat.zero_le _) (Nat.zero_le _) (fun H locs hR hS hE7 => ?_)
    have ok_this := hE7 _ _ ok_this
    have hE := hE.tr hE7
    refine lv_if_ne (tgt := 21) hx hb dX11_of_14 (by decide) (fun hc => ?_) (fun hc => ?_)
    · replace hf := if_f hf hc
      refine lv_iload_n hx hb dX11_of_21 rfl (lv_at hl 2 rfl) ?_
      refine lv_iconst (v := 3) hx hb dX11_of_22 (by decide) ?_
      refine lv_icmp_ne (tgt := 34) hx hb dX11_of_23 (by decide) (fun hc => ?_) (fun hc => ?_)
      · replace hf := if_f hf hc
        refine lv_aload_n hx hb dX11_of_34 rfl (lv_at hl 0 rfl) ?_
        obtain ⟨q9, hq10, ok_q9, hf⟩ := gR_of hf
        refine gf_RX11_7 hC hR ok_this hq10 dX11_of_35 ?_
        refine lv_bipush (v := 10) hx hb dX11_of_38 (by decide) ?_
        refine lv_iconst (v := 3) hx hb dX11_of_40 (by decide) ?_
        refine lv_iload_n hx hb dX11_of_41 rfl (lv_at hl 1 rfl) ?_
        refine lv_imul hx hb dX11_of_42 ?_
        refine lv_iadd hx hb dX11_of_43 ?_
        refine lv_iload_n hx hb dX11_of_44 rfl (lv_at hl 2 rfl) ?_
        refine lv_iadd hx hb dX11_of_45 ?_
        obtain ⟨hi11, hf⟩ := ck_of hf
        refine r_iald hC hR ok_q9 hi11 dX11_of_46 ?_
        exact r_iret hC hR hS hE hf dX11_of_47
      · replace hf := if_t hf hc
        refine lv_aload_n hx hb dX11_of_26 rfl (lv_at hl 0 rfl) ?_
        refine lv_iload_n hx hb dX11_of_27 rfl (lv_at hl 1 rfl) ?_
        obtain ⟨x15, S12, hc13, hf⟩ := cl_of hf
        refine cl_RX11_306 (As := [.int a1]) (rest := []) hC hR hS (c_X11_holdOf l G n this a1 S5 x15 S12 hc13 ok_this) ok_this rfl ⟨Nat.le_of_ble_eq_true rfl, Nat.le_of_ble_eq_true rfl⟩ hl.1 rfl (Nat.le_of_ble_eq_true rfl) dX11_of_28 (Nat.zero_le _) (Nat.zero_le _) (fun H locs hR hS hE14 => ?_)
        have ok_this := hE14 _ _ ok_this
        have hE := hE.tr hE14
        refine lv_goto (tgt := 47) hx hb dX11_of_31 (by decide) ?_
        exact r_iret hC hR hS hE hf dX11_of_47
    · replace hf := if_t hf hc
      refine lv_ldcw (v := -10000000) hx hb hC.ow (hC.ts _ (bg32 _ (List.mem_of_getElem? (i := 22) rfl))) dX11_of_17 ?_
      exact r_iret hC hR hS hE hf dX11_of_20
abbrev rX11_whoHave : Room := { frames := 2, cells := 0, slots := 0, locals := 42 }
def f_X11_whoHave_L4 (n : Nat) (this : Nat) (a1 : Int32) : Nat → Int32 → Int32 → MS → Option (Int32 × MS)
  | 0, _, _, _ => none
  | k + 1, x3, x4, S5 => jn (f_X11_whoHave_L4 n this a1 k) fun rec4_2 => (if (6 : Int32) ≤ x4 then some (x3, S5) else cl (f_X11_fieldOf n this x4 S5) fun x9 S6 => jn (fun (x12 : Int32) (x13 : Int32) (S14 : MS) => bd (x12 ||| x13) fun x15 => bd (x4 + (1 : Int32)) fun x16 => rec4_2 x15 x16 S14) fun j27_11 => (if x9 = a1 then j27_11 x3 ((1 : Int32) <<< (x4 &&& 31)) S6 else j27_11 x3 (0 : Int32) S6))
def f_X11_whoHave (n : Nat) (this : Nat) (a1 : Int32) (S : MS) : Option (Int32 × MS) :=
  f_X11_whoHave_L4 n this a1 n (0 : Int32) (0 : Int32) S
set_option maxRecDepth 100000 in
set_option maxHeartbeats 4000000 in
theorem c_X11_whoHave (l : Launch) (G : Gx) (n : Nat) (this : Nat) (a1 : Int32) (S : MS) (ro : Int32) (So : MS) (hf : f_X11_whoHave n this a1 S = some (ro, So)) (ok_this : Ok S this 11) : Cn G l yX11_whoHave cX11_whoHave 4 (some .int) rX11_whoHave [.ref this, .int a1] S (some (.int ro)) So := by
  refine Cn.of (by decide) (Nat.le_of_ble_eq_true rfl) ?_
  intro p e s m args below meth c hC hname hR ls hl
  have hC : Cx G RX11 cX11_whoHave 4 (some .int) p s m args meth c := hC
  have hl : lv_has ls 4 [(0, .ref this), (1, .int a1)] := hl
  have hx := hC.x
  have hb := hC.b
  have hS : va_S (gA G) s.heap s.heap [] := va_S.rf
  have hE : Ex S S := Ex.rf S
  unfold f_X11_whoHave at hf
  refine lv_iconst (v := 0) hx hb dX11_whoHave_0 (by decide) ?_
  refine lv_istore_n (lv' := [(2, .int (0 : Int32)), (0, .ref this), (1, .int a1)]) hx hb dX11_whoHave_1 rfl hl (by decide) rfl (fun ls hl => ?_)
  refine lv_iconst (v := 0) hx hb dX11_whoHave_2 (by decide) ?_
  refine lv_istore_n (lv' := [(3, .int (0 : Int32)), (2, .int (0 : Int32)), (0, .ref this), (1, .int a1)]) hx hb dX11_whoHave_3 rfl hl (by decide) rfl (fun ls hl => ?_)
  have hh20 : ∀ k : Nat, ∀ (x3 : Int32) (x4 : Int32) (S5 : MS) (H : Heap) (locs : List Loc) (ls : Array Slot), f_X11_whoHave_L4 n this a1 k x3 x4 S5 = some (ro, So) → Rp G S5 H → va_S (gA G) s.heap H locs → Ex S S5 → Ok S5 this 11 → lv_has ls 4 [(0, .ref this), (1, .int a1), (2, .int x3), (3, .int x4)] → W p l e rX11_whoHave s m args below meth c H locs 0 0 (MQ below (Qn G S (some (.int ro)) So) args s 0 0 (gA G)) (F0 m 4 ls []) := by
    intro k
    induction k with
    | zero =>
      intro x3 x4 S5 H locs ls hf hR hS hE ok_this hl
      exact absurd hf (by rw [f_X11_whoHave_L4]; exact fun h => by cases h)
    | succ k ih =>
      intro x3 x4 S5 H locs ls hf hR hS hE ok_this hl
      rw [f_X11_whoHave_L4] at hf
      obtain ⟨rec4_2, erec4_2, hf⟩ := jn_of3 hf
      have hL4_1 : ∀ (x3 : Int32) (x4 : Int32) (S5 : MS) (H : Heap) (locs : List Loc) (ls : Array Slot), rec4_2 x3 x4 S5 = some (ro, So) → Rp G S5 H → va_S (gA G) s.heap H locs → Ex S S5 → Ok S5 this 11 → lv_has ls 4 [(0, .ref this), (1, .int a1), (2, .int x3), (3, .int x4)] → W p l e rX11_whoHave s m args below meth c H locs 0 0 (MQ below (Qn G S (some (.int ro)) So) args s 0 0 (gA G)) (F0 m 4 ls []) := by
        intro x3 x4 S5 H locs ls hf hR hS hE ok_this hl
        rw [erec4_2] at hf
        exact ih x3 x4 S5 _ _ _ hf hR hS hE ok_this hl
      refine lv_iload_n hx hb dX11_whoHave_4 rfl (lv_at hl 3 rfl) ?_
      refine lv_bipush (v := 6) hx hb dX11_whoHave_5 (by decide) ?_
      refine lv_icmp_ge (tgt := 35) hx hb dX11_whoHave_7 (by decide) (fun hc => ?_) (fun hc => ?_)
      · replace hf := if_t hf hc
        refine lv_iload_n hx hb dX11_whoHave_35 rfl (lv_at hl 2 rfl) ?_
        exact r_iret hC hR hS hE hf dX11_whoHave_36
      · replace hf := if_f hf hc
        refine lv_iload_n hx hb dX11_whoHave_10 rfl (lv_at hl 2 rfl) ?_
        refine lv_aload_n hx hb dX11_whoHave_11 rfl (lv_at hl 0 rfl) ?_
        refine lv_iload_n hx hb dX11_whoHave_12 rfl (lv_at hl 3 rfl) ?_
        obtain ⟨x9, S6, hc7, hf⟩ := cl_of hf
        refine cl_RX11_328 (As := [.int x4]) (rest := [.int x3]) hC hR hS (c_X11_fieldOf l G n this x4 S5 x9 S6 hc7 ok_this) ok_this rfl ⟨Nat.le_of_ble_eq_true rfl, Nat.le_of_ble_eq_true rfl⟩ hl.1 rfl (Nat.le_of_ble_eq_true rfl) dX11_whoHave_13 (Nat.zero_le _) (Nat.zero_le _) (fun H locs hR hS hE8 => ?_)
        have ok_this := hE8 _ _ ok_this
        have hE := hE.tr hE8
        refine lv_iload_n hx hb dX11_whoHave_16 rfl (lv_at hl 1 rfl) ?_
        obtain ⟨j27_11, ej27_11, hf⟩ := jn_of3 hf
        have hj27_10 : ∀ (x12 : Int32) (x13 : Int32) (S14 : MS) (H : Heap) (locs : List Loc) (ls : Array Slot), j27_11 x12 x13 S14 = some (ro, So) → Rp G S14 H → va_S (gA G) s.heap H locs → Ex S S14 → Ok S14 this 11 → lv_has ls 4 [(0, .ref this), (1, .int a1), (3, .int x4)] → W p l e rX11_whoHave s m args below meth c H locs 0 0 (MQ below (Qn G S (some (.int ro)) So) args s 0 0 (gA G)) (F0 m 27 ls [.int x13, .int x12]) := by
          intro x12 x13 S14 H locs ls hf hR hS hE ok_this hl
          rw [ej27_11] at hf
          refine lv_ior hx hb dX11_whoHave_27 ?_
          refine bdi hf (fun x15 hf => ?_)
          refine lv_istore_n (lv' := [(2, .int x15), (0, .ref this), (1, .int a1), (3, .int x4)]) hx hb dX11_whoHave_28 rfl hl (by decide) rfl (fun ls hl => ?_)
          refine r_iinc (n := 1) (z := 1) (lv' := fun x16 => [(3, .int x16), (2, .int x15), (0, .ref this), (1, .int a1)]) hx hb dX11_whoHave_29 hl (k := 3) rfl (by decide) (by decide) (fun _ => rfl) hf (fun x16 ls hf hl => ?_)
          refine lv_goto (tgt := 4) hx hb dX11_whoHave_32 (by decide) ?_
          exact hL4_1 x15 x16 S14 _ _ _ hf hR hS hE ok_this (lv_sub hl [2, 3, 1, 0] rfl)
        refine lv_icmp_ne (tgt := 26) hx hb dX11_whoHave_17 (by decide) (fun hc => ?_) (fun hc => ?_)
        · replace hf := if_f hf hc
          refine lv_iconst (v := 0) hx hb dX11_whoHave_26 (by decide) ?_
          exact hj27_10 x3 (0 : Int32) S6 _ _ _ hf hR hS hE ok_this (lv_sub hl [0, 1, 3] rfl)
        · replace hf := if_t hf hc
          refine lv_iconst (v := 1) hx hb dX11_whoHave_20 (by decide) ?_
          refine lv_iload_n hx hb dX11_whoHave_21 rfl (lv_at hl 3 rfl) ?_
          refine lv_ishl hx hb dX11_whoHave_22 ?_
          refine lv_goto (tgt := 27) hx hb dX11_whoHave_23 (by decide) ?_
          exact hj27_10 x3 ((1 : Int32) <<< (x4 &&& 31)) S6 _ _ _ hf hR hS hE ok_this (lv_sub hl [0, 1, 3] rfl)
  exact hh20 n (0 : Int32) (0 : Int32) S _ _ _ hf hR hS hE ok_this (lv_sub hl [2, 3, 1, 0] rfl)
abbrev rX11_cell : Room := { frames := 4, cells := 0, slots := 0, locals := 93 }
def f_X11_cell (n : Nat) (this : Nat) (a1 : Int32) (a2 : Int32) (S : MS) : Option (Int32 × MS) :=
  cl (f_X11_isCell n this a1 S) fun x4 S1 => (if x4 = 0 then some ((-10 : Int32), S1) else cv (f_X11_findFields n this S1) fun S5 => gR S5 (mR S5 this 30) 12 fun q8 => ck (inb a1 (mN S5 q8)) (jn (fun (x13 : Int32) (S14 : MS) => (if a2 = (0 : Int32) then gR S14 (mR S14 this 30) 12 fun q15 => ck (inb a1 (mN S14 q15)) (some ((mI S14 q15 a1.toNatClampNeg), S14)) else (if a2 = (1 : Int32) then (if x13 = 0 then some ((0 : Int32), S14) else gR S14 (mR S14 this 30) 12 fun q18 => ck (inb a1 (mN S14 q18)) (cl (f_X11_sizeOf n this (mI S14 q18 a1.toNatClampNeg) S14) fun x24 S21 => some (x24, S21))) else (if a2 = (2 : Int32) then (if x13 = 0 then some ((0 : Int32), S14) else gR S14 (mR S14 this 30) 12 fun q25 => ck (inb a1 (mN S14 q25)) (cl (f_X11_whoHave n this (mI S14 q25 a1.toNatClampNeg) S14) fun x31 S28 => some (x31, S28))) else (if a2 = (3 : Int32) then gR S14 (mR S14 this 0) 12 fun q32 => ck (inb ((240 : Int32) + a1) (mN S14 q32)) (some ((mI S14 q32 ((240 : Int32) + a1).toNatClampNeg), S14)) else (if a2 = (4 : Int32) then gR S14 (mR S14 this 0) 12 fun q35 => ck (inb ((190 : Int32) + a1) (mN S14 q35)) (some ((mI S14 q35 ((190 : Int32) + a1).toNatClampNeg), S14)) else some ((-10 : Int32), S14))))))) fun j29_12 => (if (mI S5 q8 a1.toNatClampNeg) < 0 then j29_12 (0 : Int32) S5 else j29_12 (1 : Int32) S5)))
set_option maxRecDepth 100000 in
set_option maxHeartbeats 4000000 in
theorem c_X11_cell (l : Launch) (G : Gx) (n : Nat) (this : Nat) (a1 : Int32) (a2 : Int32) (S : MS) (ro : Int32) (So : MS) (hf : f_X11_cell n this a1 a2 S = some (ro, So)) (ok_this : Ok S this 11) : Cn G l yX11_cell cX11_cell 4 (some .int) rX11_cell [.ref this, .int a1, .int a2] S (some (.int ro)) So := by
  refine Cn.of (by decide) (Nat.le_of_ble_eq_true rfl) ?_
  intro p e s m args below meth c hC hname hR ls hl
  have hC : Cx G RX11 cX11_cell 4 (some .int) p s m args meth c := hC
  have hl : lv_has ls 4 [(0, .ref this), (1, .int a1), (2, .int a2)] := hl
  have hx := hC.x
  have hb := hC.b
  have hS : va_S (gA G) s.heap s.heap [] := va_S.rf
  have hE : Ex S S := Ex.rf S
  unfold f_X11_cell at hf
  refine lv_aload_n hx hb dX11_cell_0 rfl (lv_at hl 0 rfl) ?_
  refine lv_iload_n hx hb dX11_cell_1 rfl (lv_at hl 1 rfl) ?_
  obtain ⟨x4, S1, hc2, hf⟩ := cl_of hf
  refine cl_RX11_82 (As := [.int a1]) (rest := []) hC hR hS (c_X11_isCell l G n this a1 S x4 S1 hc2 ok_this) ok_this rfl ⟨Nat.le_of_ble_eq_true rfl, Nat.le_of_ble_eq_true rfl⟩ hl.1 rfl (Nat.le_of_ble_eq_true rfl) dX11_cell_2 (Nat.zero_le _) (Nat.zero_le _) (fun H locs hR hS hE3 => ?_)
  have ok_this := hE3 _ _ ok_this
  have hE := hE.tr hE3
  refine lv_if_ne (tgt := 11) hx hb dX11_cell_5 (by decide) (fun hc => ?_) (fun hc => ?_)
  · replace hf := if_f hf hc
    refine lv_aload_n hx hb dX11_cell_11 rfl (lv_at hl 0 rfl) ?_
    obtain ⟨S5, hc6, hf⟩ := cv_of hf
    refine cl_RX11_337 (As := []) (rest := []) hC hR hS (c_X11_findFields l G n this S1 S5 hc6 ok_this) ok_this rfl ⟨Nat.le_of_ble_eq_true rfl, Nat.le_of_ble_eq_true rfl⟩ hl.1 rfl (Nat.le_of_ble_eq_true rfl) dX11_cell_12 (Nat.zero_le _) (Nat.zero_le _) (fun H locs hR hS hE7 => ?_)
    have ok_this := hE7 _ _ ok_this
    have hE := hE.tr hE7
    refine lv_aload_n hx hb dX11_cell_15 rfl (lv_at hl 0 rfl) ?_
    obtain ⟨q8, hq9, ok_q8, hf⟩ := gR_of hf
    refine gf_RX11_46 hC hR ok_this hq9 dX11_cell_16 ?_
    refine lv_iload_n hx hb dX11_cell_19 rfl (lv_at hl 1 rfl) ?_
    obtain ⟨hi10, hf⟩ := ck_of hf
    refine r_iald hC hR ok_q8 hi10 dX11_cell_20 ?_
    obtain ⟨j29_12, ej29_12, hf⟩ := jn_of2 hf
    have hj29_11 : ∀ (x13 : Int32) (S14 : MS) (H : Heap) (locs : List Loc) (ls : Array Slot), j29_12 x13 S14 = some (ro, So) → Rp G S14 H → va_S (gA G) s.heap H locs → Ex S S14 → Ok S14 this 11 → lv_has ls 4 [(0, .ref this), (1, .int a1), (2, .int a2)] → W p l e rX11_cell s m args below meth c H locs 0 0 (MQ below (Qn G S (some (.int ro)) So) args s 0 0 (gA G)) (F0 m 29 ls [.int x13]) := by
      intro x13 S14 H locs ls hf hR hS hE ok_this hl
      rw [ej29_12] at hf
      refine lv_istore_n (lv' := [(3, .int x13), (0, .ref this), (1, .int a1), (2, .int a2)]) hx hb dX11_cell_29 rfl hl (by decide) rfl (fun ls hl => ?_)
      refine lv_iload_n hx hb dX11_cell_30 rfl (lv_at hl 3 rfl) ?_
      by_cases hc0 : a2 = (0 : Int32)
      · replace hf := if_t hf hc0
        rw [hc0]
        refine lv_tableIn (tgt := 64) hx hb dX11_cell_31 (by decide) (by decide) rfl (by decide) ?_
        refine lv_aload_n hx hb dX11_cell_64 rfl (lv_at hl 1 rfl) ?_
        obtain ⟨q15, hq16, ok_q15, hf⟩ := gR_of hf
        refine gf_RX11_46 hC hR ok_this hq16 dX11_cell_65 ?_
        refine lv_iload_n hx hb dX11_cell_68 rfl (lv_at hl 2 rfl) ?_
        obtain ⟨hi17, hf⟩ := ck_of hf
        refine r_iald hC hR ok_q15 hi17 dX11_cell_69 ?_
        exact r_iret hC hR hS hE hf dX11_cell_70
      · replace hf := if_f hf hc0
        by_cases hc1 : a2 = (1 : Int32)
        · replace hf := if_t hf hc1
          rw [hc1]
          refine lv_tableIn (tgt := 71) hx hb dX11_cell_31 (by decide) (by decide) rfl (by decide) ?_
          refine lv_iload_n hx hb dX11_cell_71 rfl (lv_at hl 0 rfl) ?_
          refine lv_if_eq (tgt := 88) hx hb dX11_cell_72 (by decide) (fun hc => ?_) (fun hc => ?_)
          · replace hf := if_t hf hc
            refine lv_iconst (v := 0) hx hb dX11_cell_88 (by decide) ?_
            exact r_iret hC hR hS hE hf dX11_cell_89
          · replace hf := if_f hf hc
            refine lv_aload_n hx hb dX11_cell_75 rfl (lv_at hl 1 rfl) ?_
            refine lv_aload_n hx hb dX11_cell_76 rfl (lv_at hl 1 rfl) ?_
            obtain ⟨q18, hq19, ok_q18, hf⟩ := gR_of hf
            refine gf_RX11_46 hC hR ok_this hq19 dX11_cell_77 ?_
            refine lv_iload_n hx hb dX11_cell_80 rfl (lv_at hl 2 rfl) ?_
            obtain ⟨hi20, hf⟩ := ck_of hf
            refine r_iald hC hR ok_q18 hi20 dX11_cell_81 ?_
            obtain ⟨x24, S21, hc22, hf⟩ := cl_of hf
            refine cl_RX11_331 (As := [.int (mI S14 q18 a1.toNatClampNeg)]) (rest := []) hC hR hS (c_X11_sizeOf l G n this (mI S14 q18 a1.toNatClampNeg) S14 x24 S21 hc22 ok_this) ok_this rfl ⟨Nat.le_of_ble_eq_true rfl, Nat.le_of_ble_eq_true rfl⟩ hl.1 rfl (Nat.le_of_ble_eq_true rfl) dX11_cell_82 (Nat.zero_le _) (Nat.zero_le _) (fun H locs hR hS hE23 => ?_)
            have ok_this := hE23 _ _ ok_this
            have ok_q18 := hE23 _ _ ok_q18
            have hE := hE.tr hE23
            refine lv_goto (tgt := 89) hx hb dX11_cell_85 (by decide) ?_
            exact r_iret hC hR hS hE hf dX11_cell_89
        · replace hf := if_f hf hc1
          by_cases hc2 : a2 = (2 : Int32)
          · replace hf := if_t hf hc2
            rw [hc2]
            refine lv_tableIn (tgt := 90) hx hb dX11_cell_31 (by decide) (by decide) rfl (by decide) ?_
            refine lv_iload_n hx hb dX11_cell_90 rfl (lv_at hl 0 rfl) ?_
            refine lv_if_eq (tgt := 107) hx hb dX11_cell_91 (by decide) (fun hc => ?_) (fun hc => ?_)
            · replace hf := if_t hf hc
              refine lv_iconst (v := 0) hx hb dX11_cell_107 (by decide) ?_
              exact r_iret hC hR hS hE hf dX11_cell_108
            · replace hf := if_f hf hc
              refine lv_aload_n hx hb dX11_cell_94 rfl (lv_at hl 1 rfl) ?_
              refine lv_aload_n hx hb dX11_cell_95 rfl (lv_at hl 1 rfl) ?_
              obtain ⟨q25, hq26, ok_q25, hf⟩ := gR_of hf
              refine gf_RX11_46 hC hR ok_this hq26 dX11_cell_96 ?_
              refine lv_iload_n hx hb dX11_cell_99 rfl (lv_at hl 2 rfl) ?_
              obtain ⟨hi27, hf⟩ := ck_of hf
              refine r_iald hC hR ok_q25 hi27 dX11_cell_100 ?_
              obtain ⟨x31, S28, hc29, hf⟩ := cl_of hf
              refine cl_RX11_344 (As := [.int (mI S14 q25 a1.toNatClampNeg)]) (rest := []) hC hR hS (c_X11_whoHave l G n this (mI S14 q25 a1.toNatClampNeg) S14 x31 S28 hc29 ok_this) ok_this rfl ⟨Nat.le_of_ble_eq_true rfl, Nat.le_of_ble_eq_true rfl⟩ hl.1 rfl (Nat.le_of_ble_eq_true rfl) dX11_cell_101 (Nat.zero_le _) (Nat.zero_le _) (fun H locs hR hS hE30 => ?_)
              have ok_this := hE30 _ _ ok_this
              have ok_q25 := hE30 _ _ ok_q25
              have hE := hE.tr hE30
              refine lv_goto (tgt := 108) hx hb dX11_cell_104 (by decide) ?_
              exact r_iret hC hR hS hE hf dX11_cell_108
          · replace hf := if_f hf hc2
            by_cases hc3 : a2 = (3 : Int32)
            · replace hf := if_t hf hc3
              rw [hc3]
              refine lv_tableIn (tgt := 109) hx hb dX11_cell_31 (by decide) (by decide) rfl (by decide) ?_
              refine lv_aload_n hx hb dX11_cell_109 rfl (lv_at hl 1 rfl) ?_
              obtain ⟨q32, hq33, ok_q32, hf⟩ := gR_of hf
              refine gf_RX11_7 hC hR ok_this hq33 dX11_cell_110 ?_
              refine lv_sipush (v := 240) hx hb dX11_cell_113 (by decide) ?_
              refine lv_iload_n hx hb dX11_cell_116 rfl (lv_at hl 2 rfl) ?_
              refine lv_iadd hx hb dX11_cell_117 ?_
              obtain ⟨hi34, hf⟩ := ck_of hf
              refine r_iald hC hR ok_q32 hi34 dX11_cell_118 ?_
              exact r_iret hC hR hS hE hf dX11_cell_119
            · replace hf := if_f hf hc3
              by_cases hc4 : a2 = (4 : Int32)
              · replace hf := if_t hf hc4
                rw [hc4]
                refine lv_tableIn (tgt := 120) hx hb dX11_cell_31 (by decide) (by decide) rfl (by decide) ?_
                refine lv_aload_n hx hb dX11_cell_120 rfl (lv_at hl 1 rfl) ?_
                obtain ⟨q35, hq36, ok_q35, hf⟩ := gR_of hf
                refine gf_RX11_7 hC hR ok_this hq36 dX11_cell_121 ?_
                refine lv_sipush (v := 190) hx hb dX11_cell_124 (by decide) ?_
                refine lv_iload_n hx hb dX11_cell_127 rfl (lv_at hl 2 rfl) ?_
                refine lv_iadd hx hb dX11_cell_128 ?_
                obtain ⟨hi37, hf⟩ := ck_of hf
                refine r_iald hC hR ok_q35 hi37 dX11_cell_129 ?_
                exact r_iret hC hR hS hE hf dX11_cell_130
              · replace hf := if_f hf hc4
                refine lv_tableOut (tgt := 131) hx hb dX11_cell_31 (by have := ne_toInt hc0 (z := 0) (by decide); have := ne_toInt hc1 (z := 1) (by decide); have := ne_toInt hc2 (z := 2) (by decide); have := ne_toInt hc3 (z := 3) (by decide); have := ne_toInt hc4 (z := 4) (by decide); omega) (by decide) ?_
                refine lv_bipush (v := -10) hx hb dX11_cell_131 (by decide) ?_
                exact r_iret hC hR hS hE hf dX11_cell_133
    refine lv_if_lt (tgt := 28) hx hb dX11_cell_21 (by decide) (fun hc => ?_) (fun hc => ?_)
    · replace hf := if_t hf hc
      refine lv_iconst (v := 0) hx hb dX11_cell_28 (by decide) ?_
      exact hj29_11 (0 : Int32) S5 _ _ _ hf hR hS hE ok_this (lv_sub hl [0, 1, 2] rfl)
    · replace hf := if_f hf hc
      refine lv_iconst (v := 1) hx hb dX11_cell_24 (by decide) ?_
      refine lv_goto (tgt := 29) hx hb dX11_cell_25 (by decide) ?_
      exact hj29_11 (1 : Int32) S5 _ _ _ hf hR hS hE ok_this (lv_sub hl [0, 1, 2] rfl)
  · replace hf := if_t hf hc
    refine lv_bipush (v := -10) hx hb dX11_cell_8 (by decide) ?_
    exact r_iret hC hR hS hE hf dX11_cell_10
abbrev rX11_farmer : Room := { frames := 4, cells := 0, slots := 0, locals := 96 }
def f_X11_farmer (n : Nat) (this : Nat) (a1 : Int32) (a2 : Int32) (S : MS) : Option (Int32 × MS) :=
  cl (f_X11_isFarmer n a1 S) fun x4 S1 => (if x4 = 0 then some ((-10 : Int32), S1) else cv (f_X11_findFields n this S1) fun S5 => cl (f_X11_fieldOf n this a1 S5) fun x11 S8 => (if a2 = (0 : Int32) then cl (f_X11_areaOf n this a1 S8) fun x15 S12 => some (x15, S12) else (if a2 = (1 : Int32) then (if x11 < 0 then some ((0 : Int32), S8) else cl (f_X11_isRing n this x11 S8) fun x19 S16 => (if x19 = 0 then some ((0 : Int32), S16) else some ((1 : Int32), S16))) else (if a2 = (2 : Int32) then (if 0 ≤ x11 then cl (f_X11_gates n this x11 S8) fun x23 S20 => some (x23, S20) else some ((0 : Int32), S8)) else (if a2 = (3 : Int32) then gR S8 (mR S8 this 0) 12 fun q24 => ck (inb ((92 : Int32) + a1) (mN S8 q24)) (some ((mI S8 q24 ((92 : Int32) + a1).toNatClampNeg), S8)) else (if a2 = (4 : Int32) then (if 0 ≤ x11 then cl (f_X11_wellsIn n this x11 S8) fun x30 S27 => some (x30, S27) else some ((0 : Int32), S8)) else (if a2 = (5 : Int32) then gR S8 (mR S8 this 0) 12 fun q31 => ck (inb ((85 : Int32) + a1) (mN S8 q31)) (some ((mI S8 q31 ((85 : Int32) + a1).toNatClampNeg), S8)) else some ((-10 : Int32), S8))))))))
set_option maxRecDepth 100000 in
set_option maxHeartbeats 4000000 in
theorem c_X11_farmer (l : Launch) (G : Gx) (n : Nat) (this : Nat) (a1 : Int32) (a2 : Int32) (S : MS) (ro : Int32) (So : MS) (hf : f_X11_farmer n this a1 a2 S = some (ro, So)) (ok_this : Ok S this 11) : Cn G l yX11_farmer cX11_farmer 4 (some .int) rX11_farmer [.ref this, .int a1, .int a2] S (some (.int ro)) So := by
  refine Cn.of (by decide) (Nat.le_of_ble_eq_true rfl) ?_
  intro p e s m args below meth c hC hname hR ls hl
  have hC : Cx G RX11 cX11_farmer 4 (some .int) p s m args meth c := hC
  have hl : lv_has ls 4 [(0, .ref this), (1, .int a1), (2, .int a2)] := hl
  have hx := hC.x
  have hb := hC.b
  have hS : va_S (gA G) s.heap s.heap [] := va_S.rf
  have hE : Ex S S := Ex.rf S
  unfold f_X11_farmer at hf
  refine lv_iload_n hx hb dX11_farmer_0 rfl (lv_at hl 1 rfl) ?_
  obtain ⟨x4, S1, hc2, hf⟩ := cl_of hf
  refine cl_RX11_88 (As := [.int a1]) (rest := []) hC hR hS (c_X11_isFarmer l G n a1 S x4 S1 hc2 ) rfl ⟨Nat.le_of_ble_eq_true rfl, Nat.le_of_ble_eq_true rfl⟩ hl.1 rfl (Nat.le_of_ble_eq_true rfl) dX11_farmer_1 (Nat.zero_le _) (Nat.zero_le _) (fun H locs hR hS hE3 => ?_)
  have ok_this := hE3 _ _ ok_this
  have hE := hE.tr hE3
  refine lv_if_ne (tgt := 10) hx hb dX11_farmer_4 (by decide) (fun hc => ?_) (fun hc => ?_)
  · replace hf := if_f hf hc
    refine lv_aload_n hx hb dX11_farmer_10 rfl (lv_at hl 0 rfl) ?_
    obtain ⟨S5, hc6, hf⟩ := cv_of hf
    refine cl_RX11_337 (As := []) (rest := []) hC hR hS (c_X11_findFields l G n this S1 S5 hc6 ok_this) ok_this rfl ⟨Nat.le_of_ble_eq_true rfl, Nat.le_of_ble_eq_true rfl⟩ hl.1 rfl (Nat.le_of_ble_eq_true rfl) dX11_farmer_11 (Nat.zero_le _) (Nat.zero_le _) (fun H locs hR hS hE7 => ?_)
    have ok_this := hE7 _ _ ok_this
    have hE := hE.tr hE7
    refine lv_aload_n hx hb dX11_farmer_14 rfl (lv_at hl 0 rfl) ?_
    refine lv_iload_n hx hb dX11_farmer_15 rfl (lv_at hl 1 rfl) ?_
    obtain ⟨x11, S8, hc9, hf⟩ := cl_of hf
    refine cl_RX11_328 (As := [.int a1]) (rest := []) hC hR hS (c_X11_fieldOf l G n this a1 S5 x11 S8 hc9 ok_this) ok_this rfl ⟨Nat.le_of_ble_eq_true rfl, Nat.le_of_ble_eq_true rfl⟩ hl.1 rfl (Nat.le_of_ble_eq_true rfl) dX11_farmer_16 (Nat.zero_le _) (Nat.zero_le _) (fun H locs hR hS hE10 => ?_)
    have ok_this := hE10 _ _ ok_this
    have hE := hE.tr hE10
    refine lv_istore_n (lv' := [(3, .int x11), (0, .ref this), (1, .int a1), (2, .int a2)]) hx hb dX11_farmer_19 rfl hl (by decide) rfl (fun ls hl => ?_)
    refine lv_iload_n hx hb dX11_farmer_20 rfl (lv_at hl 3 rfl) ?_
    by_cases hc0 : a2 = (0 : Int32)
    · replace hf := if_t hf hc0
      rw [hc0]
      refine lv_tableIn (tgt := 60) hx hb dX11_farmer_21 (by decide) (by decide) rfl (by decide) ?_
      refine lv_aload_n hx hb dX11_farmer_60 rfl (lv_at hl 1 rfl) ?_
      refine lv_iload_n hx hb dX11_farmer_61 rfl (lv_at hl 2 rfl) ?_
      obtain ⟨x15, S12, hc13, hf⟩ := cl_of hf
      refine cl_RX11_347 (As := [.int a1]) (rest := []) hC hR hS (c_X11_areaOf l G n this a1 S8 x15 S12 hc13 ok_this) ok_this rfl ⟨Nat.le_of_ble_eq_true rfl, Nat.le_of_ble_eq_true rfl⟩ hl.1 rfl (Nat.le_of_ble_eq_true rfl) dX11_farmer_62 (Nat.zero_le _) (Nat.zero_le _) (fun H locs hR hS hE14 => ?_)
      have ok_this := hE14 _ _ ok_this
      have hE := hE.tr hE14
      exact r_iret hC hR hS hE hf dX11_farmer_65
    · replace hf := if_f hf hc0
      by_cases hc1 : a2 = (1 : Int32)
      · replace hf := if_t hf hc1
        rw [hc1]
        refine lv_tableIn (tgt := 66) hx hb dX11_farmer_21 (by decide) (by decide) rfl (by decide) ?_
        refine lv_iload_n hx hb dX11_farmer_66 rfl (lv_at hl 0 rfl) ?_
        refine lv_if_lt (tgt := 82) hx hb dX11_farmer_67 (by decide) (fun hc => ?_) (fun hc => ?_)
        · replace hf := if_t hf hc
          refine lv_iconst (v := 0) hx hb dX11_farmer_82 (by decide) ?_
          exact r_iret hC hR hS hE hf dX11_farmer_83
        · replace hf := if_f hf hc
          refine lv_aload_n hx hb dX11_farmer_70 rfl (lv_at hl 1 rfl) ?_
          refine lv_iload_n hx hb dX11_farmer_71 rfl (lv_at hl 0 rfl) ?_
          obtain ⟨x19, S16, hc17, hf⟩ := cl_of hf
          refine cl_RX11_350 (As := [.int x11]) (rest := []) hC hR hS (c_X11_isRing l G n this x11 S8 x19 S16 hc17 ok_this) ok_this rfl ⟨Nat.le_of_ble_eq_true rfl, Nat.le_of_ble_eq_true rfl⟩ hl.1 rfl (Nat.le_of_ble_eq_true rfl) dX11_farmer_72 (Nat.zero_le _) (Nat.zero_le _) (fun H locs hR hS hE18 => ?_)
          have ok_this := hE18 _ _ ok_this
          have hE := hE.tr hE18
          refine lv_if_eq (tgt := 82) hx hb dX11_farmer_75 (by decide) (fun hc => ?_) (fun hc => ?_)
          · replace hf := if_t hf hc
            refine lv_iconst (v := 0) hx hb dX11_farmer_82 (by decide) ?_
            exact r_iret hC hR hS hE hf dX11_farmer_83
          · replace hf := if_f hf hc
            refine lv_iconst (v := 1) hx hb dX11_farmer_78 (by decide) ?_
            refine lv_goto (tgt := 83) hx hb dX11_farmer_79 (by decide) ?_
            exact r_iret hC hR hS hE hf dX11_farmer_83
      · replace hf := if_f hf hc1
        by_cases hc2 : a2 = (2 : Int32)
        · replace hf := if_t hf hc2
          rw [hc2]
          refine lv_tableIn (tgt := 84) hx hb dX11_farmer_21 (by decide) (by decide) rfl (by decide) ?_
          refine lv_iload_n hx hb dX11_farmer_84 rfl (lv_at hl 0 rfl) ?_
          refine lv_if_ge (tgt := 92) hx hb dX11_farmer_85 (by decide) (fun hc => ?_) (fun hc => ?_)
          · replace hf := if_t hf hc
            refine lv_aload_n hx hb dX11_farmer_92 rfl (lv_at hl 1 rfl) ?_
            refine lv_iload_n hx hb dX11_farmer_93 rfl (lv_at hl 0 rfl) ?_
            obtain ⟨x23, S20, hc21, hf⟩ := cl_of hf
            refine cl_RX11_353 (As := [.int x11]) (rest := []) hC hR hS (c_X11_gates l G n this x11 S8 x23 S20 hc21 ok_this) ok_this rfl ⟨Nat.le_of_ble_eq_true rfl, Nat.le_of_ble_eq_true rfl⟩ hl.1 rfl (Nat.le_of_ble_eq_true rfl) dX11_farmer_94 (Nat.zero_le _) (Nat.zero_le _) (fun H locs hR hS hE22 => ?_)
            have ok_this := hE22 _ _ ok_this
            have hE := hE.tr hE22
            exact r_iret hC hR hS hE hf dX11_farmer_97
          · replace hf := if_f hf hc
            refine lv_iconst (v := 0) hx hb dX11_farmer_88 (by decide) ?_
            refine lv_goto (tgt := 97) hx hb dX11_farmer_89 (by decide) ?_
            exact r_iret hC hR hS hE hf dX11_farmer_97
        · replace hf := if_f hf hc2
          by_cases hc3 : a2 = (3 : Int32)
          · replace hf := if_t hf hc3
            rw [hc3]
            refine lv_tableIn (tgt := 98) hx hb dX11_farmer_21 (by decide) (by decide) rfl (by decide) ?_
            refine lv_aload_n hx hb dX11_farmer_98 rfl (lv_at hl 1 rfl) ?_
            obtain ⟨q24, hq25, ok_q24, hf⟩ := gR_of hf
            refine gf_RX11_7 hC hR ok_this hq25 dX11_farmer_99 ?_
            refine lv_bipush (v := 92) hx hb dX11_farmer_102 (by decide) ?_
            refine lv_iload_n hx hb dX11_farmer_104 rfl (lv_at hl 2 rfl) ?_
            refine lv_iadd hx hb dX11_farmer_105 ?_
            obtain ⟨hi26, hf⟩ := ck_of hf
            refine r_iald hC hR ok_q24 hi26 dX11_farmer_106 ?_
            exact r_iret hC hR hS hE hf dX11_farmer_107
          · replace hf := if_f hf hc3
            by_cases hc4 : a2 = (4 : Int32)
            · replace hf := if_t hf hc4
              rw [hc4]
              refine lv_tableIn (tgt := 108) hx hb dX11_farmer_21 (by decide) (by decide) rfl (by decide) ?_
              refine lv_iload_n hx hb dX11_farmer_108 rfl (lv_at hl 0 rfl) ?_
              refine lv_if_ge (tgt := 116) hx hb dX11_farmer_109 (by decide) (fun hc => ?_) (fun hc => ?_)
              · replace hf := if_t hf hc
                refine lv_aload_n hx hb dX11_farmer_116 rfl (lv_at hl 1 rfl) ?_
                refine lv_iload_n hx hb dX11_farmer_117 rfl (lv_at hl 0 rfl) ?_
                obtain ⟨x30, S27, hc28, hf⟩ := cl_of hf
                refine cl_RX11_356 (As := [.int x11]) (rest := []) hC hR hS (c_X11_wellsIn l G n this x11 S8 x30 S27 hc28 ok_this) ok_this rfl ⟨Nat.le_of_ble_eq_true rfl, Nat.le_of_ble_eq_true rfl⟩ hl.1 rfl (Nat.le_of_ble_eq_true rfl) dX11_farmer_118 (Nat.zero_le _) (Nat.zero_le _) (fun H locs hR hS hE29 => ?_)
                have ok_this := hE29 _ _ ok_this
                have hE := hE.tr hE29
                exact r_iret hC hR hS hE hf dX11_farmer_121
              · replace hf := if_f hf hc
                refine lv_iconst (v := 0) hx hb dX11_farmer_112 (by decide) ?_
                refine lv_goto (tgt := 121) hx hb dX11_farmer_113 (by decide) ?_
                exact r_iret hC hR hS hE hf dX11_farmer_121
            · replace hf := if_f hf hc4
              by_cases hc5 : a2 = (5 : Int32)
              · replace hf := if_t hf hc5
                rw [hc5]
                refine lv_tableIn (tgt := 122) hx hb dX11_farmer_21 (by decide) (by decide) rfl (by decide) ?_
                refine lv_aload_n hx hb dX11_farmer_122 rfl (lv_at hl 1 rfl) ?_
                obtain ⟨q31, hq32, ok_q31, hf⟩ := gR_of hf
                refine gf_RX11_7 hC hR ok_this hq32 dX11_farmer_123 ?_
                refine lv_bipush (v := 85) hx hb dX11_farmer_126 (by decide) ?_
                refine lv_iload_n hx hb dX11_farmer_128 rfl (lv_at hl 2 rfl) ?_
                refine lv_iadd hx hb dX11_farmer_129 ?_
                obtain ⟨hi33, hf⟩ := ck_of hf
                refine r_iald hC hR ok_q31 hi33 dX11_farmer_130 ?_
                exact r_iret hC hR hS hE hf dX11_farmer_131
              · replace hf := if_f hf hc5
                refine lv_tableOut (tgt := 132) hx hb dX11_farmer_21 (by have := ne_toInt hc0 (z := 0) (by decide); have := ne_toInt hc1 (z := 1) (by decide); have := ne_toInt hc2 (z := 2) (by decide); have := ne_toInt hc3 (z := 3) (by decide); have := ne_toInt hc4 (z := 4) (by decide); have := ne_toInt hc5 (z := 5) (by decide); omega) (by decide) ?_
                refine lv_bipush (v := -10) hx hb dX11_farmer_132 (by decide) ?_
                exact r_iret hC hR hS hE hf dX11_farmer_134
  · replace hf := if_t hf hc
    refine lv_bipush (v := -10) hx hb dX11_farmer_7 (by decide) ?_
    exact r_iret hC hR hS hE hf dX11_farmer_9
abbrev rX11_sow : Room := { frames := 4, cells := 0, slots := 0, locals := 93 }
def f_X11_sow (n : Nat) (this : Nat) (a1 : Int32) (a2 : Int32) (S : MS) : Option (Int32 × MS) :=
  cl (f_X11_isFarmer n a1 S) fun x4 S1 => (if x4 = 0 then zb (0 : Int32) (some ((0 : Int32), S1)) else cl (f_X11_isCell n this a2 S1) fun x8 S5 => (if x8 = 0 then zb (0 : Int32) (some ((0 : Int32), S5)) else cv (f_X11_findFields n this S5) fun S9 => cl (f_X11_has n this a1 a2 S9) fun x15 S12 => (if x15 = 0 then zb (0 : Int32) (some ((0 : Int32), S12)) else gR S12 (mR S12 this 0) 12 fun q16 => gR S12 (mR S12 this 0) 12 fun q18 => ck (inb (0 : Int32) (mN S12 q18)) (ck (inb ((240 : Int32) + a2) (mN S12 q16)) (bd (sI S12 q16 ((240 : Int32) + a2).toNatClampNeg (mI S12 q18 (0 : Int32).toNatClampNeg)) fun S22 => zb (1 : Int32) (some ((1 : Int32), S22)))))))
set_option maxRecDepth 100000 in
set_option maxHeartbeats 4000000 in
theorem c_X11_sow (l : Launch) (G : Gx) (n : Nat) (this : Nat) (a1 : Int32) (a2 : Int32) (S : MS) (ro : Int32) (So : MS) (hf : f_X11_sow n this a1 a2 S = some (ro, So)) (ok_this : Ok S this 11) : Cn G l yX11_sow cX11_sow 3 (some .boolean) rX11_sow [.ref this, .int a1, .int a2] S (some (.int ro)) So := by
  refine Cn.of (by decide) (Nat.le_of_ble_eq_true rfl) ?_
  intro p e s m args below meth c hC hname hR ls hl
  have hC : Cx G RX11 cX11_sow 3 (some .boolean) p s m args meth c := hC
  have hl : lv_has ls 3 [(0, .ref this), (1, .int a1), (2, .int a2)] := hl
  have hx := hC.x
  have hb := hC.b
  have hS : va_S (gA G) s.heap s.heap [] := va_S.rf
  have hE : Ex S S := Ex.rf S
  unfold f_X11_sow at hf
  refine lv_iload_n hx hb dX11_sow_0 rfl (lv_at hl 1 rfl) ?_
  obtain ⟨x4, S1, hc2, hf⟩ := cl_of hf
  refine cl_RX11_88 (As := [.int a1]) (rest := []) hC hR hS (c_X11_isFarmer l G n a1 S x4 S1 hc2 ) rfl ⟨Nat.le_of_ble_eq_true rfl, Nat.le_of_ble_eq_true rfl⟩ hl.1 rfl (Nat.le_of_ble_eq_true rfl) dX11_sow_1 (Nat.zero_le _) (Nat.zero_le _) (fun H locs hR hS hE3 => ?_)
  have ok_this := hE3 _ _ ok_this
  have hE := hE.tr hE3
  refine lv_if_eq (tgt := 15) hx hb dX11_sow_4 (by decide) (fun hc => ?_) (fun hc => ?_)
  · replace hf := if_t hf hc
    refine lv_iconst (v := 0) hx hb dX11_sow_15 (by decide) ?_
    exact r_zret hC hR hS hE hf dX11_sow_16
  · replace hf := if_f hf hc
    refine lv_aload_n hx hb dX11_sow_7 rfl (lv_at hl 0 rfl) ?_
    refine lv_iload_n hx hb dX11_sow_8 rfl (lv_at hl 2 rfl) ?_
    obtain ⟨x8, S5, hc6, hf⟩ := cl_of hf
    refine cl_RX11_82 (As := [.int a2]) (rest := []) hC hR hS (c_X11_isCell l G n this a2 S1 x8 S5 hc6 ok_this) ok_this rfl ⟨Nat.le_of_ble_eq_true rfl, Nat.le_of_ble_eq_true rfl⟩ hl.1 rfl (Nat.le_of_ble_eq_true rfl) dX11_sow_9 (Nat.zero_le _) (Nat.zero_le _) (fun H locs hR hS hE7 => ?_)
    have ok_this := hE7 _ _ ok_this
    have hE := hE.tr hE7
    refine lv_if_ne (tgt := 17) hx hb dX11_sow_12 (by decide) (fun hc => ?_) (fun hc => ?_)
    · replace hf := if_f hf hc
      refine lv_aload_n hx hb dX11_sow_17 rfl (lv_at hl 0 rfl) ?_
      obtain ⟨S9, hc10, hf⟩ := cv_of hf
      refine cl_RX11_337 (As := []) (rest := []) hC hR hS (c_X11_findFields l G n this S5 S9 hc10 ok_this) ok_this rfl ⟨Nat.le_of_ble_eq_true rfl, Nat.le_of_ble_eq_true rfl⟩ hl.1 rfl (Nat.le_of_ble_eq_true rfl) dX11_sow_18 (Nat.zero_le _) (Nat.zero_le _) (fun H locs hR hS hE11 => ?_)
      have ok_this := hE11 _ _ ok_this
      have hE := hE.tr hE11
      refine lv_aload_n hx hb dX11_sow_21 rfl (lv_at hl 0 rfl) ?_
      refine lv_iload_n hx hb dX11_sow_22 rfl (lv_at hl 1 rfl) ?_
      refine lv_iload_n hx hb dX11_sow_23 rfl (lv_at hl 2 rfl) ?_
      obtain ⟨x15, S12, hc13, hf⟩ := cl_of hf
      refine cl_RX11_359 (As := [.int a1, .int a2]) (rest := []) hC hR hS (c_X11_has l G n this a1 a2 S9 x15 S12 hc13 ok_this) ok_this rfl ⟨Nat.le_of_ble_eq_true rfl, Nat.le_of_ble_eq_true rfl⟩ hl.1 rfl (Nat.le_of_ble_eq_true rfl) dX11_sow_24 (Nat.zero_le _) (Nat.zero_le _) (fun H locs hR hS hE14 => ?_)
      have ok_this := hE14 _ _ ok_this
      have hE := hE.tr hE14
      refine lv_if_ne (tgt := 32) hx hb dX11_sow_27 (by decide) (fun hc => ?_) (fun hc => ?_)
      · replace hf := if_f hf hc
        refine lv_aload_n hx hb dX11_sow_32 rfl (lv_at hl 0 rfl) ?_
        obtain ⟨q16, hq17, ok_q16, hf⟩ := gR_of hf
        refine gf_RX11_7 hC hR ok_this hq17 dX11_sow_33 ?_
        refine lv_sipush (v := 240) hx hb dX11_sow_36 (by decide) ?_
        refine lv_iload_n hx hb dX11_sow_39 rfl (lv_at hl 2 rfl) ?_
        refine lv_iadd hx hb dX11_sow_40 ?_
        refine lv_aload_n hx hb dX11_sow_41 rfl (lv_at hl 0 rfl) ?_
        obtain ⟨q18, hq19, ok_q18, hf⟩ := gR_of hf
        refine gf_RX11_7 hC hR ok_this hq19 dX11_sow_42 ?_
        refine lv_iconst (v := 0) hx hb dX11_sow_45 (by decide) ?_
        obtain ⟨hi20, hf⟩ := ck_of hf
        refine r_iald hC hR ok_q18 hi20 dX11_sow_46 ?_
        obtain ⟨hi21, hf⟩ := ck_of hf
        refine rB_iast hC hR hS ok_q16 hi21 dX11_sow_47 hf (fun S22 H locs hf hR hS hE23 => ?_)
        have ok_this := hE23 _ _ ok_this
        have ok_q16 := hE23 _ _ ok_q16
        have ok_q18 := hE23 _ _ ok_q18
        have hE := hE.tr hE23
        refine lv_iconst (v := 1) hx hb dX11_sow_48 (by decide) ?_
        exact r_zret hC hR hS hE hf dX11_sow_49
      · replace hf := if_t hf hc
        refine lv_iconst (v := 0) hx hb dX11_sow_30 (by decide) ?_
        exact r_zret hC hR hS hE hf dX11_sow_31
    · replace hf := if_t hf hc
      refine lv_iconst (v := 0) hx hb dX11_sow_15 (by decide) ?_
      exact r_zret hC hR hS hE hf dX11_sow_16
abbrev rX11_cropOf : Room := { frames := 3, cells := 0, slots := 0, locals := 73 }
def f_X11_cropOf (n : Nat) (this : Nat) (a1 : Int32) (a2 : Int32) (S : MS) : Option (Int32 × MS) :=
  gR S (mR S this 0) 12 fun q1 => ck (inb (0 : Int32) (mN S q1)) (gR S (mR S this 0) 12 fun q4 => ck (inb ((240 : Int32) + a1) (mN S q4)) (bd ((mI S q1 (0 : Int32).toNatClampNeg) - (mI S q4 ((240 : Int32) + a1).toNatClampNeg)) fun x7 => cl (f_X11_clauseOf n this (2 : Int32) S) fun x11 S8 => (if 0 ≤ x11 then gR S8 (mR S8 this 25) 12 fun q12 => ck (inb (9 : Int32) (mN S8 q12)) (bd (sI S8 q12 (9 : Int32).toNatClampNeg x7) fun S15 => gR S15 (mR S15 this 25) 12 fun q17 => dv (mI S15 this 1) (ck (inb (3 : Int32) (mN S15 q17)) (bd (sI S15 q17 (3 : Int32).toNatClampNeg (a1 - a1 / (mI S15 this 1) * (mI S15 this 1))) fun S21 => gR S21 (mR S21 this 25) 12 fun q23 => dv (mI S21 this 1) (ck (inb (4 : Int32) (mN S21 q23)) (bd (sI S21 q23 (4 : Int32).toNatClampNeg (a1 / (mI S21 this 1))) fun S27 => gR S27 (mR S27 this 25) 12 fun q29 => cl (f_X11_sizeOf n this a2 S27) fun x34 S31 => ck (inb (10 : Int32) (mN S31 q29)) (bd (sI S31 q29 (10 : Int32).toNatClampNeg x34) fun S36 => gR S36 (mR S36 this 25) 12 fun q38 => cl (f_X11_wellsIn n this a2 S36) fun x43 S40 => ck (inb (11 : Int32) (mN S40 q38)) (bd (sI S40 q38 (11 : Int32).toNatClampNeg x43) fun S45 => cv (f_X11_work n this x11 S45) fun S47 => gR S47 (mR S47 this 26) 13 fun q50 => ck (inb (0 : Int32) (mN S47 q50)) (cl (f_X11_held n (mJ S47 q50 (0 : Int32).toNatClampNeg) (0 : Int32) (999 : Int32) S47) fun x56 S53 => some (x56, S53))))))))) else (if x7 ≤ (999 : Int32) then some (x7, S8) else some ((999 : Int32), S8)))))
set_option maxRecDepth 100000 in
set_option maxHeartbeats 4000000 in
theorem c_X11_cropOf (l : Launch) (G : Gx) (n : Nat) (this : Nat) (a1 : Int32) (a2 : Int32) (S : MS) (ro : Int32) (So : MS) (hf : f_X11_cropOf n this a1 a2 S = some (ro, So)) (ok_this : Ok S this 11) : Cn G l yX11_cropOf cX11_cropOf 5 (some .int) rX11_cropOf [.ref this, .int a1, .int a2] S (some (.int ro)) So := by
  refine Cn.of (by decide) (Nat.le_of_ble_eq_true rfl) ?_
  intro p e s m args below meth c hC hname hR ls hl
  have hC : Cx G RX11 cX11_cropOf 5 (some .int) p s m args meth c := hC
  have hl : lv_has ls 5 [(0, .ref this), (1, .int a1), (2, .int a2)] := hl
  have hx := hC.x
  have hb := hC.b
  have hS : va_S (gA G) s.heap s.heap [] := va_S.rf
  have hE : Ex S S := Ex.rf S
  unfold f_X11_cropOf at hf
  refine lv_aload_n hx hb dX11_cropOf_0 rfl (lv_at hl 0 rfl) ?_
  obtain ⟨q1, hq2, ok_q1, hf⟩ := gR_of hf
  refine gf_RX11_7 hC hR ok_this hq2 dX11_cropOf_1 ?_
  refine lv_iconst (v := 0) hx hb dX11_cropOf_4 (by decide) ?_
  obtain ⟨hi3, hf⟩ := ck_of hf
  refine r_iald hC hR ok_q1 hi3 dX11_cropOf_5 ?_
  refine lv_aload_n hx hb dX11_cropOf_6 rfl (lv_at hl 0 rfl) ?_
  obtain ⟨q4, hq5, ok_q4, hf⟩ := gR_of hf
  refine gf_RX11_7 hC hR ok_this hq5 dX11_cropOf_7 ?_
  refine lv_sipush (v := 240) hx hb dX11_cropOf_10 (by decide) ?_
  refine lv_iload_n hx hb dX11_cropOf_13 rfl (lv_at hl 1 rfl) ?_
  refine lv_iadd hx hb dX11_cropOf_14 ?_
  obtain ⟨hi6, hf⟩ := ck_of hf
  refine r_iald hC hR ok_q4 hi6 dX11_cropOf_15 ?_
  refine lv_isub hx hb dX11_cropOf_16 ?_
  refine bdi hf (fun x7 hf => ?_)
  refine lv_istore_n (lv' := [(3, .int x7), (0, .ref this), (1, .int a1), (2, .int a2)]) hx hb dX11_cropOf_17 rfl hl (by decide) rfl (fun ls hl => ?_)
  refine lv_aload_n hx hb dX11_cropOf_18 rfl (lv_at hl 1 rfl) ?_
  refine lv_iconst (v := 2) hx hb dX11_cropOf_19 (by decide) ?_
  obtain ⟨x11, S8, hc9, hf⟩ := cl_of hf
  refine cl_RX11_300 (As := [.int (2 : Int32)]) (rest := []) hC hR hS (c_X11_clauseOf l G n this (2 : Int32) S x11 S8 hc9 ok_this) ok_this rfl ⟨Nat.le_of_ble_eq_true rfl, Nat.le_of_ble_eq_true rfl⟩ hl.1 rfl (Nat.le_of_ble_eq_true rfl) dX11_cropOf_20 (Nat.zero_le _) (Nat.zero_le _) (fun H locs hR hS hE10 => ?_)
  have ok_this := hE10 _ _ ok_this
  have ok_q1 := hE10 _ _ ok_q1
  have ok_q4 := hE10 _ _ ok_q4
  have hE := hE.tr hE10
  refine lv_istore (lv' := [(4, .int x11), (3, .int x7), (0, .ref this), (1, .int a1), (2, .int a2)]) hx hb dX11_cropOf_23 hl (by decide) rfl (fun ls hl => ?_)
  refine lv_iload hx hb dX11_cropOf_25 (lv_at hl 0 rfl) ?_
  refine lv_if_ge (tgt := 45) hx hb dX11_cropOf_27 (by decide) (fun hc => ?_) (fun hc => ?_)
  · replace hf := if_t hf hc
    refine lv_aload_n hx hb dX11_cropOf_45 rfl (lv_at hl 2 rfl) ?_
    obtain ⟨q12, hq13, ok_q12, hf⟩ := gR_of hf
    refine gf_RX11_29 hC hR ok_this hq13 dX11_cropOf_46 ?_
    refine lv_bipush (v := 9) hx hb dX11_cropOf_49 (by decide) ?_
    refine lv_iload_n hx hb dX11_cropOf_51 rfl (lv_at hl 1 rfl) ?_
    obtain ⟨hi14, hf⟩ := ck_of hf
    refine rB_iast hC hR hS ok_q12 hi14 dX11_cropOf_52 hf (fun S15 H locs hf hR hS hE16 => ?_)
    have ok_this := hE16 _ _ ok_this
    have ok_q1 := hE16 _ _ ok_q1
    have ok_q4 := hE16 _ _ ok_q4
    have ok_q12 := hE16 _ _ ok_q12
    have hE := hE.tr hE16
    refine lv_aload_n hx hb dX11_cropOf_53 rfl (lv_at hl 2 rfl) ?_
    obtain ⟨q17, hq18, ok_q17, hf⟩ := gR_of hf
    refine gf_RX11_29 hC hR ok_this hq18 dX11_cropOf_54 ?_
    refine lv_iconst (v := 3) hx hb dX11_cropOf_57 (by decide) ?_
    refine lv_iload_n hx hb dX11_cropOf_58 rfl (lv_at hl 3 rfl) ?_
    refine lv_aload_n hx hb dX11_cropOf_59 rfl (lv_at hl 2 rfl) ?_
    refine gf_RX11_58 hC hR ok_this dX11_cropOf_60 ?_
    obtain ⟨hn19, hf⟩ := dv_of hf
    refine lv_irem hx hb dX11_cropOf_63 hn19 ?_
    obtain ⟨hi20, hf⟩ := ck_of hf
    refine rB_iast hC hR hS ok_q17 hi20 dX11_cropOf_64 hf (fun S21 H locs hf hR hS hE22 => ?_)
    have ok_this := hE22 _ _ ok_this
    have ok_q1 := hE22 _ _ ok_q1
    have ok_q4 := hE22 _ _ ok_q4
    have ok_q12 := hE22 _ _ ok_q12
    have ok_q17 := hE22 _ _ ok_q17
    have hE := hE.tr hE22
    refine lv_aload_n hx hb dX11_cropOf_65 rfl (lv_at hl 2 rfl) ?_
    obtain ⟨q23, hq24, ok_q23, hf⟩ := gR_of hf
    refine gf_RX11_29 hC hR ok_this hq24 dX11_cropOf_66 ?_
    refine lv_iconst (v := 4) hx hb dX11_cropOf_69 (by decide) ?_
    refine lv_iload_n hx hb dX11_cropOf_70 rfl (lv_at hl 3 rfl) ?_
    refine lv_aload_n hx hb dX11_cropOf_71 rfl (lv_at hl 2 rfl) ?_
    refine gf_RX11_58 hC hR ok_this dX11_cropOf_72 ?_
    obtain ⟨hn25, hf⟩ := dv_of hf
    refine lv_idiv hx hb dX11_cropOf_75 hn25 ?_
    obtain ⟨hi26, hf⟩ := ck_of hf
    refine rB_iast hC hR hS ok_q23 hi26 dX11_cropOf_76 hf (fun S27 H locs hf hR hS hE28 => ?_)
    have ok_this := hE28 _ _ ok_this
    have ok_q1 := hE28 _ _ ok_q1
    have ok_q4 := hE28 _ _ ok_q4
    have ok_q12 := hE28 _ _ ok_q12
    have ok_q17 := hE28 _ _ ok_q17
    have ok_q23 := hE28 _ _ ok_q23
    have hE := hE.tr hE28
    refine lv_aload_n hx hb dX11_cropOf_77 rfl (lv_at hl 2 rfl) ?_
    obtain ⟨q29, hq30, ok_q29, hf⟩ := gR_of hf
    refine gf_RX11_29 hC hR ok_this hq30 dX11_cropOf_78 ?_
    refine lv_bipush (v := 10) hx hb dX11_cropOf_81 (by decide) ?_
    refine lv_aload_n hx hb dX11_cropOf_83 rfl (lv_at hl 2 rfl) ?_
    refine lv_iload_n hx hb dX11_cropOf_84 rfl (lv_at hl 4 rfl) ?_
    obtain ⟨x34, S31, hc32, hf⟩ := cl_of hf
    refine cl_RX11_331 (As := [.int a2]) (rest := [.int (10 : Int32), .ref q29]) hC hR hS (c_X11_sizeOf l G n this a2 S27 x34 S31 hc32 ok_this) ok_this rfl ⟨Nat.le_of_ble_eq_true rfl, Nat.le_of_ble_eq_true rfl⟩ hl.1 rfl (Nat.le_of_ble_eq_true rfl) dX11_cropOf_85 (Nat.zero_le _) (Nat.zero_le _) (fun H locs hR hS hE33 => ?_)
    have ok_this := hE33 _ _ ok_this
    have ok_q1 := hE33 _ _ ok_q1
    have ok_q4 := hE33 _ _ ok_q4
    have ok_q12 := hE33 _ _ ok_q12
    have ok_q17 := hE33 _ _ ok_q17
    have ok_q23 := hE33 _ _ ok_q23
    have ok_q29 := hE33 _ _ ok_q29
    have hE := hE.tr hE33
    obtain ⟨hi35, hf⟩ := ck_of hf
    refine rB_iast hC hR hS ok_q29 hi35 dX11_cropOf_88 hf (fun S36 H locs hf hR hS hE37 => ?_)
    have ok_this := hE37 _ _ ok_this
    have ok_q1 := hE37 _ _ ok_q1
    have ok_q4 := hE37 _ _ ok_q4
    have ok_q12 := hE37 _ _ ok_q12
    have ok_q17 := hE37 _ _ ok_q17
    have ok_q23 := hE37 _ _ ok_q23
    have ok_q29 := hE37 _ _ ok_q29
    have hE := hE.tr hE37
    refine lv_aload_n hx hb dX11_cropOf_89 rfl (lv_at hl 2 rfl) ?_
    obtain ⟨q38, hq39, ok_q38, hf⟩ := gR_of hf
    refine gf_RX11_29 hC hR ok_this hq39 dX11_cropOf_90 ?_
    refine lv_bipush (v := 11) hx hb dX11_cropOf_93 (by decide) ?_
    refine lv_aload_n hx hb dX11_cropOf_95 rfl (lv_at hl 2 rfl) ?_
    refine lv_iload_n hx hb dX11_cropOf_96 rfl (lv_at hl 4 rfl) ?_
    obtain ⟨x43, S40, hc41, hf⟩ := cl_of hf
    refine cl_RX11_356 (As := [.int a2]) (rest := [.int (11 : Int32), .ref q38]) hC hR hS (c_X11_wellsIn l G n this a2 S36 x43 S40 hc41 ok_this) ok_this rfl ⟨Nat.le_of_ble_eq_true rfl, Nat.le_of_ble_eq_true rfl⟩ hl.1 rfl (Nat.le_of_ble_eq_true rfl) dX11_cropOf_97 (Nat.zero_le _) (Nat.zero_le _) (fun H locs hR hS hE42 => ?_)
    have ok_this := hE42 _ _ ok_this
    have ok_q1 := hE42 _ _ ok_q1
    have ok_q4 := hE42 _ _ ok_q4
    have ok_q12 := hE42 _ _ ok_q12
    have ok_q17 := hE42 _ _ ok_q17
    have ok_q23 := hE42 _ _ ok_q23
    have ok_q29 := hE42 _ _ ok_q29
    have ok_q38 := hE42 _ _ ok_q38
    have hE := hE.tr hE42
    obtain ⟨hi44, hf⟩ := ck_of hf
    refine rB_iast hC hR hS ok_q38 hi44 dX11_cropOf_100 hf (fun S45 H locs hf hR hS hE46 => ?_)
    have ok_this := hE46 _ _ ok_this
    have ok_q1 := hE46 _ _ ok_q1
    have ok_q4 := hE46 _ _ ok_q4
    have ok_q12 := hE46 _ _ ok_q12
    have ok_q17 := hE46 _ _ ok_q17
    have ok_q23 := hE46 _ _ ok_q23
    have ok_q29 := hE46 _ _ ok_q29
    have ok_q38 := hE46 _ _ ok_q38
    have hE := hE.tr hE46
    refine lv_aload_n hx hb dX11_cropOf_101 rfl (lv_at hl 2 rfl) ?_
    refine lv_iload hx hb dX11_cropOf_102 (lv_at hl 0 rfl) ?_
    obtain ⟨S47, hc48, hf⟩ := cv_of hf
    refine cl_RX11_303 (As := [.int x11]) (rest := []) hC hR hS (c_X11_work l G n this x11 S45 S47 hc48 ok_this) ok_this rfl ⟨Nat.le_of_ble_eq_true rfl, Nat.le_of_ble_eq_true rfl⟩ hl.1 rfl (Nat.le_of_ble_eq_true rfl) dX11_cropOf_104 (Nat.zero_le _) (Nat.zero_le _) (fun H locs hR hS hE49 => ?_)
    have ok_this := hE49 _ _ ok_this
    have ok_q1 := hE49 _ _ ok_q1
    have ok_q4 := hE49 _ _ ok_q4
    have ok_q12 := hE49 _ _ ok_q12
    have ok_q17 := hE49 _ _ ok_q17
    have ok_q23 := hE49 _ _ ok_q23
    have ok_q29 := hE49 _ _ ok_q29
    have ok_q38 := hE49 _ _ ok_q38
    have hE := hE.tr hE49
    refine lv_aload_n hx hb dX11_cropOf_107 rfl (lv_at hl 2 rfl) ?_
    obtain ⟨q50, hq51, ok_q50, hf⟩ := gR_of hf
    refine gf_RX11_32 hC hR ok_this hq51 dX11_cropOf_108 ?_
    refine lv_iconst (v := 0) hx hb dX11_cropOf_111 (by decide) ?_
    obtain ⟨hi52, hf⟩ := ck_of hf
    refine r_lald hC hR ok_q50 hi52 dX11_cropOf_112 ?_
    refine lv_iconst (v := 0) hx hb dX11_cropOf_113 (by decide) ?_
    refine lv_sipush (v := 999) hx hb dX11_cropOf_114 (by decide) ?_
    obtain ⟨x56, S53, hc54, hf⟩ := cl_of hf
    refine cl_RX11_309 (As := [.long (mJ S47 q50 (0 : Int32).toNatClampNeg), .int (0 : Int32), .int (999 : Int32)]) (rest := []) hC hR hS (c_X11_held l G n (mJ S47 q50 (0 : Int32).toNatClampNeg) (0 : Int32) (999 : Int32) S47 x56 S53 hc54 ) rfl ⟨Nat.le_of_ble_eq_true rfl, Nat.le_of_ble_eq_true rfl⟩ hl.1 rfl (Nat.le_of_ble_eq_true rfl) dX11_cropOf_117 (Nat.zero_le _) (Nat.zero_le _) (fun H locs hR hS hE55 => ?_)
    have ok_this := hE55 _ _ ok_this
    have ok_q1 := hE55 _ _ ok_q1
    have ok_q4 := hE55 _ _ ok_q4
    have ok_q12 := hE55 _ _ ok_q12
    have ok_q17 := hE55 _ _ ok_q17
    have ok_q23 := hE55 _ _ ok_q23
    have ok_q29 := hE55 _ _ ok_q29
    have ok_q38 := hE55 _ _ ok_q38
    have ok_q50 := hE55 _ _ ok_q50
    have hE := hE.tr hE55
    exact r_iret hC hR hS hE hf dX11_cropOf_120
  · replace hf := if_f hf hc
    refine lv_iload_n hx hb dX11_cropOf_30 rfl (lv_at hl 1 rfl) ?_
    refine lv_sipush (v := 999) hx hb dX11_cropOf_31 (by decide) ?_
    refine lv_icmp_le (tgt := 43) hx hb dX11_cropOf_34 (by decide) (fun hc => ?_) (fun hc => ?_)
    · replace hf := if_t hf hc
      refine lv_iload_n hx hb dX11_cropOf_43 rfl (lv_at hl 1 rfl) ?_
      exact r_iret hC hR hS hE hf dX11_cropOf_44
    · replace hf := if_f hf hc
      refine lv_sipush (v := 999) hx hb dX11_cropOf_37 (by decide) ?_
      refine lv_goto (tgt := 44) hx hb dX11_cropOf_40 (by decide) ?_
      exact r_iret hC hR hS hE hf dX11_cropOf_44
abbrev rX11_reap : Room := { frames := 4, cells := 0, slots := 0, locals := 97 }
def f_X11_reap_L43 (n : Nat) (this : Nat) (x15 : Int32) : Nat → Int32 → Int32 → MS → Option (Int32 × MS)
  | 0, _, _, _ => none
  | k + 1, x22, x23, S24 => jn (f_X11_reap_L43 n this x15 k) fun rec43_21 => (if (mI S24 this 3) ≤ x23 then some (x22, S24) else gR S24 (mR S24 this 30) 12 fun q25 => ck (inb x23 (mN S24 q25)) (jn (fun (x30 : Int32) (S31 : MS) => bd (x23 + (1 : Int32)) fun x32 => rec43_21 x30 x32 S31) fun j102_29 => (if (mI S24 q25 x23.toNatClampNeg) = x15 then gR S24 (mR S24 this 0) 12 fun q33 => ck (inb ((240 : Int32) + x23) (mN S24 q33)) ((if 0 ≤ (mI S24 q33 ((240 : Int32) + x23).toNatClampNeg) then cl (f_X11_cropOf n this x23 x15 S24) fun x39 S36 => bd (x22 + x39) fun x40 => gR S36 (mR S36 this 0) 12 fun q41 => ck (inb ((240 : Int32) + x23) (mN S36 q41)) (bd (sI S36 q41 ((240 : Int32) + x23).toNatClampNeg (-1 : Int32)) fun S44 => j102_29 x40 S44) else j102_29 x22 S24)) else j102_29 x22 S24)))
def f_X11_reap (n : Nat) (this : Nat) (a1 : Int32) (S : MS) : Option (Int32 × MS) :=
  cl (f_X11_isFarmer n a1 S) fun x4 S1 => (if x4 = 0 then some ((-1 : Int32), S1) else cl (f_X11_stakeOf n this a1 S1) fun x8 S5 => (if 0 ≤ x8 then cv (f_X11_findFields n this S5) fun S9 => cl (f_X11_fieldOf n this a1 S9) fun x15 S12 => cl (f_X11_havers n this x15 S12) fun x19 S16 => (if x19 ≤ (1 : Int32) then f_X11_reap_L43 n this x15 n (0 : Int32) (0 : Int32) S16 else some ((-1 : Int32), S16)) else some ((-1 : Int32), S5)))
set_option maxRecDepth 100000 in
set_option maxHeartbeats 4000000 in
theorem c_X11_reap (l : Launch) (G : Gx) (n : Nat) (this : Nat) (a1 : Int32) (S : MS) (ro : Int32) (So : MS) (hf : f_X11_reap n this a1 S = some (ro, So)) (ok_this : Ok S this 11) : Cn G l yX11_reap cX11_reap 5 (some .int) rX11_reap [.ref this, .int a1] S (some (.int ro)) So := by
  refine Cn.of (by decide) (Nat.le_of_ble_eq_true rfl) ?_
  intro p e s m args below meth c hC hname hR ls hl
  have hC : Cx G RX11 cX11_reap 5 (some .int) p s m args meth c := hC
  have hl : lv_has ls 5 [(0, .ref this), (1, .int a1)] := hl
  have hx := hC.x
  have hb := hC.b
  have hS : va_S (gA G) s.heap s.heap [] := va_S.rf
  have hE : Ex S S := Ex.rf S
  unfold f_X11_reap at hf
  refine lv_iload_n hx hb dX11_reap_0 rfl (lv_at hl 1 rfl) ?_
  obtain ⟨x4, S1, hc2, hf⟩ := cl_of hf
  refine cl_RX11_88 (As := [.int a1]) (rest := []) hC hR hS (c_X11_isFarmer l G n a1 S x4 S1 hc2 ) rfl ⟨Nat.le_of_ble_eq_true rfl, Nat.le_of_ble_eq_true rfl⟩ hl.1 rfl (Nat.le_of_ble_eq_true rfl) dX11_reap_1 (Nat.zero_le _) (Nat.zero_le _) (fun H locs hR hS hE3 => ?_)
  have ok_this := hE3 _ _ ok_this
  have hE := hE.tr hE3
  refine lv_if_eq (tgt := 15) hx hb dX11_reap_4 (by decide) (fun hc => ?_) (fun hc => ?_)
  · replace hf := if_t hf hc
    refine lv_iconst (v := -1) hx hb dX11_reap_15 (by decide) ?_
    exact r_iret hC hR hS hE hf dX11_reap_16
  · replace hf := if_f hf hc
    refine lv_aload_n hx hb dX11_reap_7 rfl (lv_at hl 0 rfl) ?_
    refine lv_iload_n hx hb dX11_reap_8 rfl (lv_at hl 1 rfl) ?_
    obtain ⟨x8, S5, hc6, hf⟩ := cl_of hf
    refine cl_RX11_325 (As := [.int a1]) (rest := []) hC hR hS (c_X11_stakeOf l G n this a1 S1 x8 S5 hc6 ok_this) ok_this rfl ⟨Nat.le_of_ble_eq_true rfl, Nat.le_of_ble_eq_true rfl⟩ hl.1 rfl (Nat.le_of_ble_eq_true rfl) dX11_reap_9 (Nat.zero_le _) (Nat.zero_le _) (fun H locs hR hS hE7 => ?_)
    have ok_this := hE7 _ _ ok_this
    have hE := hE.tr hE7
    refine lv_if_ge (tgt := 17) hx hb dX11_reap_12 (by decide) (fun hc => ?_) (fun hc => ?_)
    · replace hf := if_t hf hc
      refine lv_aload_n hx hb dX11_reap_17 rfl (lv_at hl 0 rfl) ?_
      obtain ⟨S9, hc10, hf⟩ := cv_of hf
      refine cl_RX11_337 (As := []) (rest := []) hC hR hS (c_X11_findFields l G n this S5 S9 hc10 ok_this) ok_this rfl ⟨Nat.le_of_ble_eq_true rfl, Nat.le_of_ble_eq_true rfl⟩ hl.1 rfl (Nat.le_of_ble_eq_true rfl) dX11_reap_18 (Nat.zero_le _) (Nat.zero_le _) (fun H locs hR hS hE11 => ?_)
      have ok_this := hE11 _ _ ok_this
      have hE := hE.tr hE11
      refine lv_aload_n hx hb dX11_reap_21 rfl (lv_at hl 0 rfl) ?_
      refine lv_iload_n hx hb dX11_reap_22 rfl (lv_at hl 1 rfl) ?_
      obtain ⟨x15, S12, hc13, hf⟩ := cl_of hf
      refine cl_RX11_328 (As := [.int a1]) (rest := []) hC hR hS (c_X11_fieldOf l G n this a1 S9 x15 S12 hc13 ok_this) ok_this rfl ⟨Nat.le_of_ble_eq_true rfl, Nat.le_of_ble_eq_true rfl⟩ hl.1 rfl (Nat.le_of_ble_eq_true rfl) dX11_reap_23 (Nat.zero_le _) (Nat.zero_le _) (fun H locs hR hS hE14 => ?_)
      have ok_this := hE14 _ _ ok_this
      have hE := hE.tr hE14
      refine lv_istore_n (lv' := [(2, .int x15), (0, .ref this), (1, .int a1)]) hx hb dX11_reap_26 rfl hl (by decide) rfl (fun ls hl => ?_)
      refine lv_aload_n hx hb dX11_reap_27 rfl (lv_at hl 1 rfl) ?_
      refine lv_iload_n hx hb dX11_reap_28 rfl (lv_at hl 0 rfl) ?_
      obtain ⟨x19, S16, hc17, hf⟩ := cl_of hf
      refine cl_RX11_334 (As := [.int x15]) (rest := []) hC hR hS (c_X11_havers l G n this x15 S12 x19 S16 hc17 ok_this) ok_this rfl ⟨Nat.le_of_ble_eq_true rfl, Nat.le_of_ble_eq_true rfl⟩ hl.1 rfl (Nat.le_of_ble_eq_true rfl) dX11_reap_29 (Nat.zero_le _) (Nat.zero_le _) (fun H locs hR hS hE18 => ?_)
      have ok_this := hE18 _ _ ok_this
      have hE := hE.tr hE18
      refine lv_iconst (v := 1) hx hb dX11_reap_32 (by decide) ?_
      refine lv_icmp_le (tgt := 38) hx hb dX11_reap_33 (by decide) (fun hc => ?_) (fun hc => ?_)
      · replace hf := if_t hf hc
        refine lv_iconst (v := 0) hx hb dX11_reap_38 (by decide) ?_
        refine lv_istore_n (lv' := [(3, .int (0 : Int32)), (2, .int x15), (0, .ref this), (1, .int a1)]) hx hb dX11_reap_39 rfl hl (by decide) rfl (fun ls hl => ?_)
        refine lv_iconst (v := 0) hx hb dX11_reap_40 (by decide) ?_
        refine lv_istore (lv' := [(4, .int (0 : Int32)), (3, .int (0 : Int32)), (2, .int x15), (0, .ref this), (1, .int a1)]) hx hb dX11_reap_41 hl (by decide) rfl (fun ls hl => ?_)
        have hh48 : ∀ k : Nat, ∀ (x22 : Int32) (x23 : Int32) (S24 : MS) (H : Heap) (locs : List Loc) (ls : Array Slot), f_X11_reap_L43 n this x15 k x22 x23 S24 = some (ro, So) → Rp G S24 H → va_S (gA G) s.heap H locs → Ex S S24 → Ok S24 this 11 → lv_has ls 5 [(0, .ref this), (2, .int x15), (3, .int x22), (4, .int x23)] → W p l e rX11_reap s m args below meth c H locs 0 0 (MQ below (Qn G S (some (.int ro)) So) args s 0 0 (gA G)) (F0 m 43 ls []) := by
          intro k
          induction k with
          | zero =>
            intro x22 x23 S24 H locs ls hf hR hS hE ok_this hl
            exact absurd hf (by rw [f_X11_reap_L43]; exact fun h => by cases h)
          | succ k ih =>
            intro x22 x23 S24 H locs ls hf hR hS hE ok_this hl
            rw [f_X11_reap_L43] at hf
            obtain ⟨rec43_21, erec43_21, hf⟩ := jn_of3 hf
            have hL43_20 : ∀ (x22 : Int32) (x23 : Int32) (S24 : MS) (H : Heap) (locs : List Loc) (ls : Array Slot), rec43_21 x22 x23 S24 = some (ro, So) → Rp G S24 H → va_S (gA G) s.heap H locs → Ex S S24 → Ok S24 this 11 → lv_has ls 5 [(0, .ref this), (2, .int x15), (3, .int x22), (4, .int x23)] → W p l e rX11_reap s m args below meth c H locs 0 0 (MQ below (Qn G S (some (.int ro)) So) args s 0 0 (gA G)) (F0 m 43 ls []) := by
              intro x22 x23 S24 H locs ls hf hR hS hE ok_this hl
              rw [erec43_21] at hf
              exact ih x22 x23 S24 _ _ _ hf hR hS hE ok_this hl
            refine lv_iload hx hb dX11_reap_43 (lv_at hl 3 rfl) ?_
            refine lv_aload_n hx hb dX11_reap_45 rfl (lv_at hl 0 rfl) ?_
            refine gf_RX11_64 hC hR ok_this dX11_reap_46 ?_
            refine lv_icmp_ge (tgt := 108) hx hb dX11_reap_49 (by decide) (fun hc => ?_) (fun hc => ?_)
            · replace hf := if_t hf hc
              refine lv_iload_n hx hb dX11_reap_108 rfl (lv_at hl 2 rfl) ?_
              exact r_iret hC hR hS hE hf dX11_reap_109
            · replace hf := if_f hf hc
              refine lv_aload_n hx hb dX11_reap_52 rfl (lv_at hl 0 rfl) ?_
              obtain ⟨q25, hq26, ok_q25, hf⟩ := gR_of hf
              refine gf_RX11_46 hC hR ok_this hq26 dX11_reap_53 ?_
              refine lv_iload hx hb dX11_reap_56 (lv_at hl 3 rfl) ?_
              obtain ⟨hi27, hf⟩ := ck_of hf
              refine r_iald hC hR ok_q25 hi27 dX11_reap_58 ?_
              refine lv_iload_n hx hb dX11_reap_59 rfl (lv_at hl 1 rfl) ?_
              obtain ⟨j102_29, ej102_29, hf⟩ := jn_of2 hf
              have hj102_28 : ∀ (x30 : Int32) (S31 : MS) (H : Heap) (locs : List Loc) (ls : Array Slot), j102_29 x30 S31 = some (ro, So) → Rp G S31 H → va_S (gA G) s.heap H locs → Ex S S31 → Ok S31 this 11 → lv_has ls 5 [(0, .ref this), (2, .int x15), (3, .int x30), (4, .int x23)] → W p l e rX11_reap s m args below meth c H locs 0 0 (MQ below (Qn G S (some (.int ro)) So) args s 0 0 (gA G)) (F0 m 102 ls []) := by
                intro x30 S31 H locs ls hf hR hS hE ok_this hl
                rw [ej102_29] at hf
                refine r_iinc (n := 1) (z := 1) (lv' := fun x32 => [(4, .int x32), (0, .ref this), (2, .int x15), (3, .int x30)]) hx hb dX11_reap_102 hl (k := 3) rfl (by decide) (by decide) (fun _ => rfl) hf (fun x32 ls hf hl => ?_)
                refine lv_goto (tgt := 43) hx hb dX11_reap_105 (by decide) ?_
                exact hL43_20 x30 x32 S31 _ _ _ hf hR hS hE ok_this (lv_sub hl [1, 2, 3, 0] rfl)
              refine lv_icmp_ne (tgt := 102) hx hb dX11_reap_60 (by decide) (fun hc => ?_) (fun hc => ?_)
              · replace hf := if_f hf hc
                exact hj102_28 x22 S24 _ _ _ hf hR hS hE ok_this (lv_sub hl [0, 1, 2, 3] rfl)
              · replace hf := if_t hf hc
                refine lv_aload_n hx hb dX11_reap_63 rfl (lv_at hl 0 rfl) ?_
                obtain ⟨q33, hq34, ok_q33, hf⟩ := gR_of hf
                refine gf_RX11_7 hC hR ok_this hq34 dX11_reap_64 ?_
                refine lv_sipush (v := 240) hx hb dX11_reap_67 (by decide) ?_
                refine lv_iload hx hb dX11_reap_70 (lv_at hl 3 rfl) ?_
                refine lv_iadd hx hb dX11_reap_72 ?_
                obtain ⟨hi35, hf⟩ := ck_of hf
                refine r_iald hC hR ok_q33 hi35 dX11_reap_73 ?_
                refine lv_if_ge (tgt := 80) hx hb dX11_reap_74 (by decide) (fun hc => ?_) (fun hc => ?_)
                · replace hf := if_t hf hc
                  refine lv_iload_n hx hb dX11_reap_80 rfl (lv_at hl 2 rfl) ?_
                  refine lv_aload_n hx hb dX11_reap_81 rfl (lv_at hl 0 rfl) ?_
                  refine lv_iload hx hb dX11_reap_82 (lv_at hl 3 rfl) ?_
                  refine lv_iload_n hx hb dX11_reap_84 rfl (lv_at hl 1 rfl) ?_
                  obtain ⟨x39, S36, hc37, hf⟩ := cl_of hf
                  refine cl_RX11_362 (As := [.int x23, .int x15]) (rest := [.int x22]) hC hR hS (c_X11_cropOf l G n this x23 x15 S24 x39 S36 hc37 ok_this) ok_this rfl ⟨Nat.le_of_ble_eq_true rfl, Nat.le_of_ble_eq_true rfl⟩ hl.1 rfl (Nat.le_of_ble_eq_true rfl) dX11_reap_85 (Nat.zero_le _) (Nat.zero_le _) (fun H locs hR hS hE38 => ?_)
                  have ok_this := hE38 _ _ ok_this
                  have ok_q25 := hE38 _ _ ok_q25
                  have ok_q33 := hE38 _ _ ok_q33
                  have hE := hE.tr hE38
                  refine lv_iadd hx hb dX11_reap_88 ?_
                  refine bdi hf (fun x40 hf => ?_)
                  refine lv_istore_n (lv' := [(3, .int x40), (0, .ref this), (2, .int x15), (4, .int x23)]) hx hb dX11_reap_89 rfl hl (by decide) rfl (fun ls hl => ?_)
                  refine lv_aload_n hx hb dX11_reap_90 rfl (lv_at hl 1 rfl) ?_
                  obtain ⟨q41, hq42, ok_q41, hf⟩ := gR_of hf
                  refine gf_RX11_7 hC hR ok_this hq42 dX11_reap_91 ?_
                  refine lv_sipush (v := 240) hx hb dX11_reap_94 (by decide) ?_
                  refine lv_iload hx hb dX11_reap_97 (lv_at hl 3 rfl) ?_
                  refine lv_iadd hx hb dX11_reap_99 ?_
                  refine lv_iconst (v := -1) hx hb dX11_reap_100 (by decide) ?_
                  obtain ⟨hi43, hf⟩ := ck_of hf
                  refine rB_iast hC hR hS ok_q41 hi43 dX11_reap_101 hf (fun S44 H locs hf hR hS hE45 => ?_)
                  have ok_this := hE45 _ _ ok_this
                  have ok_q25 := hE45 _ _ ok_q25
                  have ok_q33 := hE45 _ _ ok_q33
                  have ok_q41 := hE45 _ _ ok_q41
                  have hE := hE.tr hE45
                  exact hj102_28 x40 S44 _ _ _ hf hR hS hE ok_this (lv_sub hl [1, 2, 0, 3] rfl)
                · replace hf := if_f hf hc
                  refine lv_goto (tgt := 102) hx hb dX11_reap_77 (by decide) ?_
                  exact hj102_28 x22 S24 _ _ _ hf hR hS hE ok_this (lv_sub hl [0, 1, 2, 3] rfl)
        exact hh48 n (0 : Int32) (0 : Int32) S16 _ _ _ hf hR hS hE ok_this (lv_sub hl [3, 2, 1, 0] rfl)
      · replace hf := if_f hf hc
        refine lv_iconst (v := -1) hx hb dX11_reap_36 (by decide) ?_
        exact r_iret hC hR hS hE hf dX11_reap_37
    · replace hf := if_f hf hc
      refine lv_iconst (v := -1) hx hb dX11_reap_15 (by decide) ?_
      exact r_iret hC hR hS hE hf dX11_reap_16
abbrev rX11_stepped : Room := { frames := 3, cells := 0, slots := 0, locals := 69 }
def f_X11_stepped (n : Nat) (this : Nat) (a1 : Int32) (a2 : Int32) (S : MS) : Option (Int32 × MS) :=
  cl (f_X11_cellOf n this a1 S) fun x4 S1 => cl (f_X11_sideOf n this x4 a2 S1) fun x8 S5 => (if x8 < 0 then some ((-1 : Int32), S5) else cl (f_X11_isFree n this x8 S5) fun x12 S9 => (if x12 = 0 then some ((-1 : Int32), S9) else some (x8, S9)))
set_option maxRecDepth 100000 in
set_option maxHeartbeats 4000000 in
theorem c_X11_stepped (l : Launch) (G : Gx) (n : Nat) (this : Nat) (a1 : Int32) (a2 : Int32) (S : MS) (ro : Int32) (So : MS) (hf : f_X11_stepped n this a1 a2 S = some (ro, So)) (ok_this : Ok S this 11) : Cn G l yX11_stepped cX11_stepped 4 (some .int) rX11_stepped [.ref this, .int a1, .int a2] S (some (.int ro)) So := by
  refine Cn.of (by decide) (Nat.le_of_ble_eq_true rfl) ?_
  intro p e s m args below meth c hC hname hR ls hl
  have hC : Cx G RX11 cX11_stepped 4 (some .int) p s m args meth c := hC
  have hl : lv_has ls 4 [(0, .ref this), (1, .int a1), (2, .int a2)] := hl
  have hx := hC.x
  have hb := hC.b
  have hS : va_S (gA G) s.heap s.heap [] := va_S.rf
  have hE : Ex S S := Ex.rf S
  unfold f_X11_stepped at hf
  refine lv_aload_n hx hb dX11_stepped_0 rfl (lv_at hl 0 rfl) ?_
  refine lv_aload_n hx hb dX11_stepped_1 rfl (lv_at hl 0 rfl) ?_
  refine lv_iload_n hx hb dX11_stepped_2 rfl (lv_at hl 1 rfl) ?_
  obtain ⟨x4, S1, hc2, hf⟩ := cl_of hf
  refine cl_RX11_291 (As := [.int a1]) (rest := [.ref this]) hC hR hS (c_X11_cellOf l G n this a1 S x4 S1 hc2 ok_this) ok_this rfl ⟨Nat.le_of_ble_eq_true rfl, Nat.le_of_ble_eq_true rfl⟩ hl.1 rfl (Nat.le_of_ble_eq_true rfl) dX11_stepped_3 (Nat.zero_le _) (Nat.zero_le _) (fun H locs hR hS hE3 => ?_)
  have ok_this := hE3 _ _ ok_this
  have hE := hE.tr hE3
  refine lv_iload_n hx hb dX11_stepped_6 rfl (lv_at hl 2 rfl) ?_
  obtain ⟨x8, S5, hc6, hf⟩ := cl_of hf
  refine cl_RX11_294 (As := [.int x4, .int a2]) (rest := []) hC hR hS (c_X11_sideOf l G n this x4 a2 S1 x8 S5 hc6 ok_this) ok_this rfl ⟨Nat.le_of_ble_eq_true rfl, Nat.le_of_ble_eq_true rfl⟩ hl.1 rfl (Nat.le_of_ble_eq_true rfl) dX11_stepped_7 (Nat.zero_le _) (Nat.zero_le _) (fun H locs hR hS hE7 => ?_)
  have ok_this := hE7 _ _ ok_this
  have hE := hE.tr hE7
  refine lv_istore_n (lv' := [(3, .int x8), (0, .ref this), (1, .int a1), (2, .int a2)]) hx hb dX11_stepped_10 rfl hl (by decide) rfl (fun ls hl => ?_)
  refine lv_iload_n hx hb dX11_stepped_11 rfl (lv_at hl 0 rfl) ?_
  refine lv_if_lt (tgt := 27) hx hb dX11_stepped_12 (by decide) (fun hc => ?_) (fun hc => ?_)
  · replace hf := if_t hf hc
    refine lv_iconst (v := -1) hx hb dX11_stepped_27 (by decide) ?_
    exact r_iret hC hR hS hE hf dX11_stepped_28
  · replace hf := if_f hf hc
    refine lv_aload_n hx hb dX11_stepped_15 rfl (lv_at hl 1 rfl) ?_
    refine lv_iload_n hx hb dX11_stepped_16 rfl (lv_at hl 0 rfl) ?_
    obtain ⟨x12, S9, hc10, hf⟩ := cl_of hf
    refine cl_RX11_85 (As := [.int x8]) (rest := []) hC hR hS (c_X11_isFree l G n this x8 S5 x12 S9 hc10 ok_this) ok_this rfl ⟨Nat.le_of_ble_eq_true rfl, Nat.le_of_ble_eq_true rfl⟩ hl.1 rfl (Nat.le_of_ble_eq_true rfl) dX11_stepped_17 (Nat.zero_le _) (Nat.zero_le _) (fun H locs hR hS hE11 => ?_)
    have ok_this := hE11 _ _ ok_this
    have hE := hE.tr hE11
    refine lv_if_eq (tgt := 27) hx hb dX11_stepped_20 (by decide) (fun hc => ?_) (fun hc => ?_)
    · replace hf := if_t hf hc
      refine lv_iconst (v := -1) hx hb dX11_stepped_27 (by decide) ?_
      exact r_iret hC hR hS hE hf dX11_stepped_28
    · replace hf := if_f hf hc
      refine lv_iload_n hx hb dX11_stepped_23 rfl (lv_at hl 0 rfl) ?_
      refine lv_goto (tgt := 28) hx hb dX11_stepped_24 (by decide) ?_
      exact r_iret hC hR hS hE hf dX11_stepped_28
abbrev rX11_isFound : Room := { frames := 4, cells := 0, slots := 0, locals := 94 }
def f_X11_isFound_L23 (n : Nat) (this : Nat) : Nat → Int32 → MS → Option (Int32 × MS)
  | 0, _, _ => none
  | k + 1, x14, S15 => jn (f_X11_isFound_L23 n this k) fun rec23_13 => cl (f_X11_clauses n this S15) fun x19 S16 => (if x19 ≤ x14 then zb (0 : Int32) (some ((0 : Int32), S16)) else cl (f_X11_sortAt n this x14 S16) fun x23 S20 => jn (fun (S26 : MS) => bd (x14 + (1 : Int32)) fun x27 => rec23_13 x27 S26) fun j59_25 => (if x23 = (3 : Int32) then cv (f_X11_work n this x14 S20) fun S28 => gR S28 (mR S28 this 27) 14 fun q31 => ck (inb (0 : Int32) (mN S28 q31)) ((if (mI S28 q31 (0 : Int32).toNatClampNeg) = 0 then j59_25 S28 else zb (1 : Int32) (some ((1 : Int32), S28)))) else j59_25 S20))
def f_X11_isFound (n : Nat) (this : Nat) (a1 : Int32) (a2 : Int32) (S : MS) : Option (Int32 × MS) :=
  cv (f_X11_nameBone n this a2 S) fun S1 => gR S1 (mR S1 this 25) 12 fun q4 => gR S1 (mR S1 this 0) 12 fun q6 => ck (inb ((92 : Int32) + a1) (mN S1 q6)) (ck (inb (8 : Int32) (mN S1 q4)) (bd (sI S1 q4 (8 : Int32).toNatClampNeg (mI S1 q6 ((92 : Int32) + a1).toNatClampNeg)) fun S10 => f_X11_isFound_L23 n this n (0 : Int32) S10))
set_option maxRecDepth 100000 in
set_option maxHeartbeats 4000000 in
theorem c_X11_isFound (l : Launch) (G : Gx) (n : Nat) (this : Nat) (a1 : Int32) (a2 : Int32) (S : MS) (ro : Int32) (So : MS) (hf : f_X11_isFound n this a1 a2 S = some (ro, So)) (ok_this : Ok S this 11) : Cn G l yX11_isFound cX11_isFound 4 (some .boolean) rX11_isFound [.ref this, .int a1, .int a2] S (some (.int ro)) So := by
  refine Cn.of (by decide) (Nat.le_of_ble_eq_true rfl) ?_
  intro p e s m args below meth c hC hname hR ls hl
  have hC : Cx G RX11 cX11_isFound 4 (some .boolean) p s m args meth c := hC
  have hl : lv_has ls 4 [(0, .ref this), (1, .int a1), (2, .int a2)] := hl
  have hx := hC.x
  have hb := hC.b
  have hS : va_S (gA G) s.heap s.heap [] := va_S.rf
  have hE : Ex S S := Ex.rf S
  unfold f_X11_isFound at hf
  refine lv_aload_n hx hb dX11_isFound_0 rfl (lv_at hl 0 rfl) ?_
  refine lv_iload_n hx hb dX11_isFound_1 rfl (lv_at hl 2 rfl) ?_
  obtain ⟨S1, hc2, hf⟩ := cv_of hf
  refine cl_RX11_297 (As := [.int a2]) (rest := []) hC hR hS (c_X11_nameBone l G n this a2 S S1 hc2 ok_this) ok_this rfl ⟨Nat.le_of_ble_eq_true rfl, Nat.le_of_ble_eq_true rfl⟩ hl.1 rfl (Nat.le_of_ble_eq_true rfl) dX11_isFound_2 (Nat.zero_le _) (Nat.zero_le _) (fun H locs hR hS hE3 => ?_)
  have ok_this := hE3 _ _ ok_this
  have hE := hE.tr hE3
  refine lv_aload_n hx hb dX11_isFound_5 rfl (lv_at hl 0 rfl) ?_
  obtain ⟨q4, hq5, ok_q4, hf⟩ := gR_of hf
  refine gf_RX11_29 hC hR ok_this hq5 dX11_isFound_6 ?_
  refine lv_bipush (v := 8) hx hb dX11_isFound_9 (by decide) ?_
  refine lv_aload_n hx hb dX11_isFound_11 rfl (lv_at hl 0 rfl) ?_
  obtain ⟨q6, hq7, ok_q6, hf⟩ := gR_of hf
  refine gf_RX11_7 hC hR ok_this hq7 dX11_isFound_12 ?_
  refine lv_bipush (v := 92) hx hb dX11_isFound_15 (by decide) ?_
  refine lv_iload_n hx hb dX11_isFound_17 rfl (lv_at hl 1 rfl) ?_
  refine lv_iadd hx hb dX11_isFound_18 ?_
  obtain ⟨hi8, hf⟩ := ck_of hf
  refine r_iald hC hR ok_q6 hi8 dX11_isFound_19 ?_
  obtain ⟨hi9, hf⟩ := ck_of hf
  refine rB_iast hC hR hS ok_q4 hi9 dX11_isFound_20 hf (fun S10 H locs hf hR hS hE11 => ?_)
  have ok_this := hE11 _ _ ok_this
  have ok_q4 := hE11 _ _ ok_q4
  have ok_q6 := hE11 _ _ ok_q6
  have hE := hE.tr hE11
  refine lv_iconst (v := 0) hx hb dX11_isFound_21 (by decide) ?_
  refine lv_istore_n (lv' := [(3, .int (0 : Int32)), (0, .ref this), (1, .int a1), (2, .int a2)]) hx hb dX11_isFound_22 rfl hl (by decide) rfl (fun ls hl => ?_)
  have hh35 : ∀ k : Nat, ∀ (x14 : Int32) (S15 : MS) (H : Heap) (locs : List Loc) (ls : Array Slot), f_X11_isFound_L23 n this k x14 S15 = some (ro, So) → Rp G S15 H → va_S (gA G) s.heap H locs → Ex S S15 → Ok S15 this 11 → lv_has ls 4 [(0, .ref this), (3, .int x14)] → W p l e rX11_isFound s m args below meth c H locs 0 0 (MQ below (Qn G S (some (.int ro)) So) args s 0 0 (gA G)) (F0 m 23 ls []) := by
    intro k
    induction k with
    | zero =>
      intro x14 S15 H locs ls hf hR hS hE ok_this hl
      exact absurd hf (by rw [f_X11_isFound_L23]; exact fun h => by cases h)
    | succ k ih =>
      intro x14 S15 H locs ls hf hR hS hE ok_this hl
      rw [f_X11_isFound_L23] at hf
      obtain ⟨rec23_13, erec23_13, hf⟩ := jn_of2 hf
      have hL23_12 : ∀ (x14 : Int32) (S15 : MS) (H : Heap) (locs : List Loc) (ls : Array Slot), rec23_13 x14 S15 = some (ro, So) → Rp G S15 H → va_S (gA G) s.heap H locs → Ex S S15 → Ok S15 this 11 → lv_has ls 4 [(0, .ref this), (3, .int x14)] → W p l e rX11_isFound s m args below meth c H locs 0 0 (MQ below (Qn G S (some (.int ro)) So) args s 0 0 (gA G)) (F0 m 23 ls []) := by
        intro x14 S15 H locs ls hf hR hS hE ok_this hl
        rw [erec23_13] at hf
        exact ih x14 S15 _ _ _ hf hR hS hE ok_this hl
      refine lv_iload_n hx hb dX11_isFound_23 rfl (lv_at hl 1 rfl) ?_
      refine lv_aload_n hx hb dX11_isFound_24 rfl (lv_at hl 0 rfl) ?_
      obtain ⟨x19, S16, hc17, hf⟩ := cl_of hf
      refine cl_RX11_282 (As := []) (rest := [.int x14]) hC hR hS (c_X11_clauses l G n this S15 x19 S16 hc17 ok_this) ok_this rfl ⟨Nat.le_of_ble_eq_true rfl, Nat.le_of_ble_eq_true rfl⟩ hl.1 rfl (Nat.le_of_ble_eq_true rfl) dX11_isFound_25 (Nat.zero_le _) (Nat.zero_le _) (fun H locs hR hS hE18 => ?_)
      have ok_this := hE18 _ _ ok_this
      have hE := hE.tr hE18
      refine lv_icmp_ge (tgt := 65) hx hb dX11_isFound_28 (by decide) (fun hc => ?_) (fun hc => ?_)
      · replace hf := if_t hf hc
        refine lv_iconst (v := 0) hx hb dX11_isFound_65 (by decide) ?_
        exact r_zret hC hR hS hE hf dX11_isFound_66
      · replace hf := if_f hf hc
        refine lv_aload_n hx hb dX11_isFound_31 rfl (lv_at hl 0 rfl) ?_
        refine lv_iload_n hx hb dX11_isFound_32 rfl (lv_at hl 1 rfl) ?_
        obtain ⟨x23, S20, hc21, hf⟩ := cl_of hf
        refine cl_RX11_285 (As := [.int x14]) (rest := []) hC hR hS (c_X11_sortAt l G n this x14 S16 x23 S20 hc21 ok_this) ok_this rfl ⟨Nat.le_of_ble_eq_true rfl, Nat.le_of_ble_eq_true rfl⟩ hl.1 rfl (Nat.le_of_ble_eq_true rfl) dX11_isFound_33 (Nat.zero_le _) (Nat.zero_le _) (fun H locs hR hS hE22 => ?_)
        have ok_this := hE22 _ _ ok_this
        have hE := hE.tr hE22
        refine lv_iconst (v := 3) hx hb dX11_isFound_36 (by decide) ?_
        obtain ⟨j59_25, ej59_25, hf⟩ := jn_of1 hf
        have hj59_24 : ∀ (S26 : MS) (H : Heap) (locs : List Loc) (ls : Array Slot), j59_25 S26 = some (ro, So) → Rp G S26 H → va_S (gA G) s.heap H locs → Ex S S26 → Ok S26 this 11 → lv_has ls 4 [(0, .ref this), (3, .int x14)] → W p l e rX11_isFound s m args below meth c H locs 0 0 (MQ below (Qn G S (some (.int ro)) So) args s 0 0 (gA G)) (F0 m 59 ls []) := by
          intro S26 H locs ls hf hR hS hE ok_this hl
          rw [ej59_25] at hf
          refine r_iinc (n := 1) (z := 1) (lv' := fun x27 => [(3, .int x27), (0, .ref this)]) hx hb dX11_isFound_59 hl (k := 1) rfl (by decide) (by decide) (fun _ => rfl) hf (fun x27 ls hf hl => ?_)
          refine lv_goto (tgt := 23) hx hb dX11_isFound_62 (by decide) ?_
          exact hL23_12 x27 S26 _ _ _ hf hR hS hE ok_this (lv_sub hl [1, 0] rfl)
        refine lv_icmp_eq (tgt := 43) hx hb dX11_isFound_37 (by decide) (fun hc => ?_) (fun hc => ?_)
        · replace hf := if_t hf hc
          refine lv_aload_n hx hb dX11_isFound_43 rfl (lv_at hl 0 rfl) ?_
          refine lv_iload_n hx hb dX11_isFound_44 rfl (lv_at hl 1 rfl) ?_
          obtain ⟨S28, hc29, hf⟩ := cv_of hf
          refine cl_RX11_303 (As := [.int x14]) (rest := []) hC hR hS (c_X11_work l G n this x14 S20 S28 hc29 ok_this) ok_this rfl ⟨Nat.le_of_ble_eq_true rfl, Nat.le_of_ble_eq_true rfl⟩ hl.1 rfl (Nat.le_of_ble_eq_true rfl) dX11_isFound_45 (Nat.zero_le _) (Nat.zero_le _) (fun H locs hR hS hE30 => ?_)
          have ok_this := hE30 _ _ ok_this
          have hE := hE.tr hE30
          refine lv_aload_n hx hb dX11_isFound_48 rfl (lv_at hl 0 rfl) ?_
          obtain ⟨q31, hq32, ok_q31, hf⟩ := gR_of hf
          refine gf_RX11_36 hC hR ok_this hq32 dX11_isFound_49 ?_
          refine lv_iconst (v := 0) hx hb dX11_isFound_52 (by decide) ?_
          obtain ⟨hi33, hf⟩ := ck_of hf
          refine r_zald hC hR ok_q31 hi33 dX11_isFound_53 ?_
          refine lv_if_eq (tgt := 59) hx hb dX11_isFound_54 (by decide) (fun hc => ?_) (fun hc => ?_)
          · replace hf := if_t hf hc
            exact hj59_24 S28 _ _ _ hf hR hS hE ok_this (lv_sub hl [0, 1] rfl)
          · replace hf := if_f hf hc
            refine lv_iconst (v := 1) hx hb dX11_isFound_57 (by decide) ?_
            exact r_zret hC hR hS hE hf dX11_isFound_58
        · replace hf := if_f hf hc
          refine lv_goto (tgt := 59) hx hb dX11_isFound_40 (by decide) ?_
          exact hj59_24 S20 _ _ _ hf hR hS hE ok_this (lv_sub hl [0, 1] rfl)
  exact hh35 n (0 : Int32) S10 _ _ _ hf hR hS hE ok_this (lv_sub hl [1, 0] rfl)
abbrev rX11_move : Room := { frames := 2, cells := 0, slots := 0, locals := 43 }
def f_X11_move (n : Nat) (this : Nat) (a1 : Int32) (a2 : Int32) (S : MS) : Option (MS) :=
  cv (f_X11_lay n this a1 a2 S) fun S1 => gR S1 (mR S1 this 0) 12 fun q4 => ck (inb ((((mI S1 this 4) + (10 : Int32)) + ((3 : Int32) * a1)) + (2 : Int32)) (mN S1 q4)) (bd (sI S1 q4 ((((mI S1 this 4) + (10 : Int32)) + ((3 : Int32) * a1)) + (2 : Int32)).toNatClampNeg (0 : Int32)) fun S7 => some S7)
set_option maxRecDepth 100000 in
set_option maxHeartbeats 4000000 in
theorem c_X11_move (l : Launch) (G : Gx) (n : Nat) (this : Nat) (a1 : Int32) (a2 : Int32) (S : MS) (So : MS) (hf : f_X11_move n this a1 a2 S = some So) (ok_this : Ok S this 11) : Cn G l yX11_move cX11_move 3 none rX11_move [.ref this, .int a1, .int a2] S none So := by
  refine Cn.of (by decide) (Nat.le_of_ble_eq_true rfl) ?_
  intro p e s m args below meth c hC hname hR ls hl
  have hC : Cx G RX11 cX11_move 3 none p s m args meth c := hC
  have hl : lv_has ls 3 [(0, .ref this), (1, .int a1), (2, .int a2)] := hl
  have hx := hC.x
  have hb := hC.b
  have hS : va_S (gA G) s.heap s.heap [] := va_S.rf
  have hE : Ex S S := Ex.rf S
  unfold f_X11_move at hf
  refine lv_aload_n hx hb dX11_move_0 rfl (lv_at hl 0 rfl) ?_
  refine lv_iload_n hx hb dX11_move_1 rfl (lv_at hl 1 rfl) ?_
  refine lv_iload_n hx hb dX11_move_2 rfl (lv_at hl 2 rfl) ?_
  obtain ⟨S1, hc2, hf⟩ := cv_of hf
  refine cl_RX11_313 (As := [.int a1, .int a2]) (rest := []) hC hR hS (c_X11_lay l G n this a1 a2 S S1 hc2 ok_this) ok_this rfl ⟨Nat.le_of_ble_eq_true rfl, Nat.le_of_ble_eq_true rfl⟩ hl.1 rfl (Nat.le_of_ble_eq_true rfl) dX11_move_3 (Nat.zero_le _) (Nat.zero_le _) (fun H locs hR hS hE3 => ?_)
  have ok_this := hE3 _ _ ok_this
  have hE := hE.tr hE3
  refine lv_aload_n hx hb dX11_move_6 rfl (lv_at hl 0 rfl) ?_
  obtain ⟨q4, hq5, ok_q4, hf⟩ := gR_of hf
  refine gf_RX11_7 hC hR ok_this hq5 dX11_move_7 ?_
  refine lv_aload_n hx hb dX11_move_10 rfl (lv_at hl 0 rfl) ?_
  refine gf_RX11_75 hC hR ok_this dX11_move_11 ?_
  refine lv_bipush (v := 10) hx hb dX11_move_14 (by decide) ?_
  refine lv_iadd hx hb dX11_move_16 ?_
  refine lv_iconst (v := 3) hx hb dX11_move_17 (by decide) ?_
  refine lv_iload_n hx hb dX11_move_18 rfl (lv_at hl 1 rfl) ?_
  refine lv_imul hx hb dX11_move_19 ?_
  refine lv_iadd hx hb dX11_move_20 ?_
  refine lv_iconst (v := 2) hx hb dX11_move_21 (by decide) ?_
  refine lv_iadd hx hb dX11_move_22 ?_
  refine lv_iconst (v := 0) hx hb dX11_move_23 (by decide) ?_
  obtain ⟨hi6, hf⟩ := ck_of hf
  refine rB_iast hC hR hS ok_q4 hi6 dX11_move_24 hf (fun S7 H locs hf hR hS hE8 => ?_)
  have ok_this := hE8 _ _ ok_this
  have ok_q4 := hE8 _ _ ok_q4
  have hE := hE.tr hE8
  exact r_vret hC hR hS hE hf dX11_move_25
abbrev rX11_night : Room := { frames := 5, cells := 0, slots := 0, locals := 117 }
def f_X11_night (n : Nat) (this : Nat) (a1 : Int32) (a2 : Int32) (a3 : Int32) (S : MS) : Option (Int32 × MS) :=
  cl (f_X11_isFarmer n a1 S) fun x4 S1 => (if x4 = 0 then some ((-1 : Int32), S1) else cl (f_X11_isBone n this a2 S1) fun x8 S5 => (if x8 = 0 then some ((-1 : Int32), S5) else cl (f_X11_isIn n a3 (0 : Int32) (3 : Int32) S5) fun x12 S9 => (if x12 = 0 then some ((-1 : Int32), S9) else cl (f_X11_stepped n this a2 a3 S9) fun x16 S13 => (if 0 ≤ x16 then cl (f_X11_isFound n this a1 a2 S13) fun x20 S17 => (if x20 = 0 then cl (f_X11_stepped n this a2 a3 S17) fun x24 S21 => cv (f_X11_move n this a2 x24 S21) fun S25 => some ((1 : Int32), S25) else gR S17 (mR S17 this 0) 12 fun q28 => ck (inb ((92 : Int32) + a1) (mN S17 q28)) (ck (inb ((92 : Int32) + a1) (mN S17 q28)) (bd (sI S17 q28 ((92 : Int32) + a1).toNatClampNeg ((mI S17 q28 ((92 : Int32) + a1).toNatClampNeg) + (1 : Int32))) fun S32 => some ((2 : Int32), S32)))) else some ((-1 : Int32), S13)))))
set_option maxRecDepth 100000 in
set_option maxHeartbeats 4000000 in
theorem c_X11_night (l : Launch) (G : Gx) (n : Nat) (this : Nat) (a1 : Int32) (a2 : Int32) (a3 : Int32) (S : MS) (ro : Int32) (So : MS) (hf : f_X11_night n this a1 a2 a3 S = some (ro, So)) (ok_this : Ok S this 11) : Cn G l yX11_night cX11_night 4 (some .int) rX11_night [.ref this, .int a1, .int a2, .int a3] S (some (.int ro)) So := by
  refine Cn.of (by decide) (Nat.le_of_ble_eq_true rfl) ?_
  intro p e s m args below meth c hC hname hR ls hl
  have hC : Cx G RX11 cX11_night 4 (some .int) p s m args meth c := hC
  have hl : lv_has ls 4 [(0, .ref this), (1, .int a1), (2, .int a2), (3, .int a3)] := hl
  have hx := hC.x
  have hb := hC.b
  have hS : va_S (gA G) s.heap s.heap [] := va_S.rf
  have hE : Ex S S := Ex.rf S
  unfold f_X11_night at hf
  refine lv_iload_n hx hb dX11_night_0 rfl (lv_at hl 1 rfl) ?_
  obtain ⟨x4, S1, hc2, hf⟩ := cl_of hf
  refine cl_RX11_88 (As := [.int a1]) (rest := []) hC hR hS (c_X11_isFarmer l G n a1 S x4 S1 hc2 ) rfl ⟨Nat.le_of_ble_eq_true rfl, Nat.le_of_ble_eq_true rfl⟩ hl.1 rfl (Nat.le_of_ble_eq_true rfl) dX11_night_1 (Nat.zero_le _) (Nat.zero_le _) (fun H locs hR hS hE3 => ?_)
  have ok_this := hE3 _ _ ok_this
  have hE := hE.tr hE3
  refine lv_if_eq (tgt := 33) hx hb dX11_night_4 (by decide) (fun hc => ?_) (fun hc => ?_)
  · replace hf := if_t hf hc
    refine lv_iconst (v := -1) hx hb dX11_night_33 (by decide) ?_
    exact r_iret hC hR hS hE hf dX11_night_34
  · replace hf := if_f hf hc
    refine lv_aload_n hx hb dX11_night_7 rfl (lv_at hl 0 rfl) ?_
    refine lv_iload_n hx hb dX11_night_8 rfl (lv_at hl 2 rfl) ?_
    obtain ⟨x8, S5, hc6, hf⟩ := cl_of hf
    refine cl_RX11_340 (As := [.int a2]) (rest := []) hC hR hS (c_X11_isBone l G n this a2 S1 x8 S5 hc6 ok_this) ok_this rfl ⟨Nat.le_of_ble_eq_true rfl, Nat.le_of_ble_eq_true rfl⟩ hl.1 rfl (Nat.le_of_ble_eq_true rfl) dX11_night_9 (Nat.zero_le _) (Nat.zero_le _) (fun H locs hR hS hE7 => ?_)
    have ok_this := hE7 _ _ ok_this
    have hE := hE.tr hE7
    refine lv_if_eq (tgt := 33) hx hb dX11_night_12 (by decide) (fun hc => ?_) (fun hc => ?_)
    · replace hf := if_t hf hc
      refine lv_iconst (v := -1) hx hb dX11_night_33 (by decide) ?_
      exact r_iret hC hR hS hE hf dX11_night_34
    · replace hf := if_f hf hc
      refine lv_iload_n hx hb dX11_night_15 rfl (lv_at hl 3 rfl) ?_
      refine lv_iconst (v := 0) hx hb dX11_night_16 (by decide) ?_
      refine lv_iconst (v := 3) hx hb dX11_night_17 (by decide) ?_
      obtain ⟨x12, S9, hc10, hf⟩ := cl_of hf
      refine cl_RX11_71 (As := [.int a3, .int (0 : Int32), .int (3 : Int32)]) (rest := []) hC hR hS (c_X11_isIn l G n a3 (0 : Int32) (3 : Int32) S5 x12 S9 hc10 ) rfl ⟨Nat.le_of_ble_eq_true rfl, Nat.le_of_ble_eq_true rfl⟩ hl.1 rfl (Nat.le_of_ble_eq_true rfl) dX11_night_18 (Nat.zero_le _) (Nat.zero_le _) (fun H locs hR hS hE11 => ?_)
      have ok_this := hE11 _ _ ok_this
      have hE := hE.tr hE11
      refine lv_if_eq (tgt := 33) hx hb dX11_night_21 (by decide) (fun hc => ?_) (fun hc => ?_)
      · replace hf := if_t hf hc
        refine lv_iconst (v := -1) hx hb dX11_night_33 (by decide) ?_
        exact r_iret hC hR hS hE hf dX11_night_34
      · replace hf := if_f hf hc
        refine lv_aload_n hx hb dX11_night_24 rfl (lv_at hl 0 rfl) ?_
        refine lv_iload_n hx hb dX11_night_25 rfl (lv_at hl 2 rfl) ?_
        refine lv_iload_n hx hb dX11_night_26 rfl (lv_at hl 3 rfl) ?_
        obtain ⟨x16, S13, hc14, hf⟩ := cl_of hf
        refine cl_RX11_365 (As := [.int a2, .int a3]) (rest := []) hC hR hS (c_X11_stepped l G n this a2 a3 S9 x16 S13 hc14 ok_this) ok_this rfl ⟨Nat.le_of_ble_eq_true rfl, Nat.le_of_ble_eq_true rfl⟩ hl.1 rfl (Nat.le_of_ble_eq_true rfl) dX11_night_27 (Nat.zero_le _) (Nat.zero_le _) (fun H locs hR hS hE15 => ?_)
        have ok_this := hE15 _ _ ok_this
        have hE := hE.tr hE15
        refine lv_if_ge (tgt := 35) hx hb dX11_night_30 (by decide) (fun hc => ?_) (fun hc => ?_)
        · replace hf := if_t hf hc
          refine lv_aload_n hx hb dX11_night_35 rfl (lv_at hl 0 rfl) ?_
          refine lv_iload_n hx hb dX11_night_36 rfl (lv_at hl 1 rfl) ?_
          refine lv_iload_n hx hb dX11_night_37 rfl (lv_at hl 2 rfl) ?_
          obtain ⟨x20, S17, hc18, hf⟩ := cl_of hf
          refine cl_RX11_368 (As := [.int a1, .int a2]) (rest := []) hC hR hS (c_X11_isFound l G n this a1 a2 S13 x20 S17 hc18 ok_this) ok_this rfl ⟨Nat.le_of_ble_eq_true rfl, Nat.le_of_ble_eq_true rfl⟩ hl.1 rfl (Nat.le_of_ble_eq_true rfl) dX11_night_38 (Nat.zero_le _) (Nat.zero_le _) (fun H locs hR hS hE19 => ?_)
          have ok_this := hE19 _ _ ok_this
          have hE := hE.tr hE19
          refine lv_if_eq (tgt := 59) hx hb dX11_night_41 (by decide) (fun hc => ?_) (fun hc => ?_)
          · replace hf := if_t hf hc
            refine lv_aload_n hx hb dX11_night_59 rfl (lv_at hl 0 rfl) ?_
            refine lv_iload_n hx hb dX11_night_60 rfl (lv_at hl 2 rfl) ?_
            refine lv_aload_n hx hb dX11_night_61 rfl (lv_at hl 0 rfl) ?_
            refine lv_iload_n hx hb dX11_night_62 rfl (lv_at hl 2 rfl) ?_
            refine lv_iload_n hx hb dX11_night_63 rfl (lv_at hl 3 rfl) ?_
            obtain ⟨x24, S21, hc22, hf⟩ := cl_of hf
            refine cl_RX11_365 (As := [.int a2, .int a3]) (rest := [.int a2, .ref this]) hC hR hS (c_X11_stepped l G n this a2 a3 S17 x24 S21 hc22 ok_this) ok_this rfl ⟨Nat.le_of_ble_eq_true rfl, Nat.le_of_ble_eq_true rfl⟩ hl.1 rfl (Nat.le_of_ble_eq_true rfl) dX11_night_64 (Nat.zero_le _) (Nat.zero_le _) (fun H locs hR hS hE23 => ?_)
            have ok_this := hE23 _ _ ok_this
            have hE := hE.tr hE23
            obtain ⟨S25, hc26, hf⟩ := cv_of hf
            refine cl_RX11_371 (As := [.int a2, .int x24]) (rest := []) hC hR hS (c_X11_move l G n this a2 x24 S21 S25 hc26 ok_this) ok_this rfl ⟨Nat.le_of_ble_eq_true rfl, Nat.le_of_ble_eq_true rfl⟩ hl.1 rfl (Nat.le_of_ble_eq_true rfl) dX11_night_67 (Nat.zero_le _) (Nat.zero_le _) (fun H locs hR hS hE27 => ?_)
            have ok_this := hE27 _ _ ok_this
            have hE := hE.tr hE27
            refine lv_iconst (v := 1) hx hb dX11_night_70 (by decide) ?_
            exact r_iret hC hR hS hE hf dX11_night_71
          · replace hf := if_f hf hc
            refine lv_aload_n hx hb dX11_night_44 rfl (lv_at hl 0 rfl) ?_
            obtain ⟨q28, hq29, ok_q28, hf⟩ := gR_of hf
            refine gf_RX11_7 hC hR ok_this hq29 dX11_night_45 ?_
            refine lv_bipush (v := 92) hx hb dX11_night_48 (by decide) ?_
            refine lv_iload_n hx hb dX11_night_50 rfl (lv_at hl 1 rfl) ?_
            refine lv_iadd hx hb dX11_night_51 ?_
            refine lv_dup2_11 hx hb dX11_night_52 rfl rfl ?_
            obtain ⟨hi30, hf⟩ := ck_of hf
            refine r_iald hC hR ok_q28 hi30 dX11_night_53 ?_
            refine lv_iconst (v := 1) hx hb dX11_night_54 (by decide) ?_
            refine lv_iadd hx hb dX11_night_55 ?_
            obtain ⟨hi31, hf⟩ := ck_of hf
            refine rB_iast hC hR hS ok_q28 hi31 dX11_night_56 hf (fun S32 H locs hf hR hS hE33 => ?_)
            have ok_this := hE33 _ _ ok_this
            have ok_q28 := hE33 _ _ ok_q28
            have hE := hE.tr hE33
            refine lv_iconst (v := 2) hx hb dX11_night_57 (by decide) ?_
            exact r_iret hC hR hS hE hf dX11_night_58
        · replace hf := if_f hf hc
          refine lv_iconst (v := -1) hx hb dX11_night_33 (by decide) ?_
          exact r_iret hC hR hS hE hf dX11_night_34
abbrev rX11_tries : Room := { frames := 0, cells := 0, slots := 0, locals := 0 }
def f_X11_tries (_n : Nat) (this : Nat) (a1 : Int32) (S : MS) : Option (MS) :=
  bd (sI S this 4 ((340 : Int32) * a1)) fun S1 => some S1
set_option maxRecDepth 100000 in
set_option maxHeartbeats 4000000 in
theorem c_X11_tries (l : Launch) (G : Gx) (n : Nat) (this : Nat) (a1 : Int32) (S : MS) (So : MS) (hf : f_X11_tries n this a1 S = some So) (ok_this : Ok S this 11) : Cn G l yX11_tries cX11_tries 2 none rX11_tries [.ref this, .int a1] S none So := by
  refine Cn.of (by decide) (Nat.le_of_ble_eq_true rfl) ?_
  intro p e s m args below meth c hC hname hR ls hl
  have hC : Cx G RX11 cX11_tries 2 none p s m args meth c := hC
  have hl : lv_has ls 2 [(0, .ref this), (1, .int a1)] := hl
  have hx := hC.x
  have hb := hC.b
  have hS : va_S (gA G) s.heap s.heap [] := va_S.rf
  have hE : Ex S S := Ex.rf S
  unfold f_X11_tries at hf
  refine lv_aload_n hx hb dX11_tries_0 rfl (lv_at hl 0 rfl) ?_
  refine lv_sipush (v := 340) hx hb dX11_tries_1 (by decide) ?_
  refine lv_iload_n hx hb dX11_tries_4 rfl (lv_at hl 1 rfl) ?_
  refine lv_imul hx hb dX11_tries_5 ?_
  refine pf_RX11_75 hC hR hS ok_this dX11_tries_6 hf (fun S1 H locs hf hR hS hE2 => ?_)
  have ok_this := hE2 _ _ ok_this
  have hE := hE.tr hE2
  exact r_vret hC hR hS hE hf dX11_tries_9
abbrev rX11_leaf : Room := { frames := 4, cells := 0, slots := 0, locals := 93 }
def f_X11_leaf (n : Nat) (this : Nat) (a1 : Int32) (a2 : Int32) (a3 : Int64) (S : MS) : Option (MS) :=
  cv (f_X11_findFields n this S) fun S1 => bd (sJ S1 this 33 ((mJ S1 this 33) + a3)) fun S4 => (if 0 ≤ a2 then cl (f_X11_has n this a1 a2 S4) fun x9 S6 => (if x9 = 0 then bd (sJ S6 this 34 ((mJ S4 this 34) + (0 : Int64))) fun S10 => some S10 else bd (sJ S6 this 34 ((mJ S4 this 34) + a3)) fun S12 => some S12) else cl (f_X11_areaOf n this a1 S4) fun x17 S14 => bd (sJ S14 this 34 ((mJ S4 this 34) + (a3 * (x17.toInt64)))) fun S18 => some S18)
set_option maxRecDepth 100000 in
set_option maxHeartbeats 4000000 in
theorem c_X11_leaf (l : Launch) (G : Gx) (n : Nat) (this : Nat) (a1 : Int32) (a2 : Int32) (a3 : Int64) (S : MS) (So : MS) (hf : f_X11_leaf n this a1 a2 a3 S = some So) (ok_this : Ok S this 11) : Cn G l yX11_leaf cX11_leaf 5 none rX11_leaf [.ref this, .int a1, .int a2, .long a3] S none So := by
  refine Cn.of (by decide) (Nat.le_of_ble_eq_true rfl) ?_
  intro p e s m args below meth c hC hname hR ls hl
  have hC : Cx G RX11 cX11_leaf 5 none p s m args meth c := hC
  have hl : lv_has ls 5 [(0, .ref this), (1, .int a1), (2, .int a2), (3, .long a3)] := hl
  have hx := hC.x
  have hb := hC.b
  have hS : va_S (gA G) s.heap s.heap [] := va_S.rf
  have hE : Ex S S := Ex.rf S
  unfold f_X11_leaf at hf
  refine lv_aload_n hx hb dX11_leaf_0 rfl (lv_at hl 0 rfl) ?_
  obtain ⟨S1, hc2, hf⟩ := cv_of hf
  refine cl_RX11_337 (As := []) (rest := []) hC hR hS (c_X11_findFields l G n this S S1 hc2 ok_this) ok_this rfl ⟨Nat.le_of_ble_eq_true rfl, Nat.le_of_ble_eq_true rfl⟩ hl.1 rfl (Nat.le_of_ble_eq_true rfl) dX11_leaf_1 (Nat.zero_le _) (Nat.zero_le _) (fun H locs hR hS hE3 => ?_)
  have ok_this := hE3 _ _ ok_this
  have hE := hE.tr hE3
  refine lv_aload_n hx hb dX11_leaf_4 rfl (lv_at hl 0 rfl) ?_
  refine lv_dup hx hb dX11_leaf_5 rfl ?_
  refine gf_RX11_374 hC hR ok_this dX11_leaf_6 ?_
  refine lv_lload_n hx hb dX11_leaf_9 rfl (lv_at hl 3 rfl) ?_
  refine lv_ladd hx hb dX11_leaf_10 ?_
  refine pf_RX11_374 hC hR hS ok_this dX11_leaf_11 hf (fun S4 H locs hf hR hS hE5 => ?_)
  have ok_this := hE5 _ _ ok_this
  have hE := hE.tr hE5
  refine lv_aload_n hx hb dX11_leaf_14 rfl (lv_at hl 0 rfl) ?_
  refine lv_dup hx hb dX11_leaf_15 rfl ?_
  refine gf_RX11_376 hC hR ok_this dX11_leaf_16 ?_
  refine lv_iload_n hx hb dX11_leaf_19 rfl (lv_at hl 2 rfl) ?_
  refine lv_if_ge (tgt := 34) hx hb dX11_leaf_20 (by decide) (fun hc => ?_) (fun hc => ?_)
  · replace hf := if_t hf hc
    refine lv_aload_n hx hb dX11_leaf_34 rfl (lv_at hl 0 rfl) ?_
    refine lv_iload_n hx hb dX11_leaf_35 rfl (lv_at hl 1 rfl) ?_
    refine lv_iload_n hx hb dX11_leaf_36 rfl (lv_at hl 2 rfl) ?_
    obtain ⟨x9, S6, hc7, hf⟩ := cl_of hf
    refine cl_RX11_359 (As := [.int a1, .int a2]) (rest := [.long (mJ S4 this 34), .ref this]) hC hR hS (c_X11_has l G n this a1 a2 S4 x9 S6 hc7 ok_this) ok_this rfl ⟨Nat.le_of_ble_eq_true rfl, Nat.le_of_ble_eq_true rfl⟩ hl.1 rfl (Nat.le_of_ble_eq_true rfl) dX11_leaf_37 (Nat.zero_le _) (Nat.zero_le _) (fun H locs hR hS hE8 => ?_)
    have ok_this := hE8 _ _ ok_this
    have hE := hE.tr hE8
    refine lv_if_eq (tgt := 47) hx hb dX11_leaf_40 (by decide) (fun hc => ?_) (fun hc => ?_)
    · replace hf := if_t hf hc
      refine lv_lconst (v := 0) hx hb dX11_leaf_47 (by decide) ?_
      refine lv_ladd hx hb dX11_leaf_48 ?_
      refine pf_RX11_376 hC hR hS ok_this dX11_leaf_49 hf (fun S10 H locs hf hR hS hE11 => ?_)
      have ok_this := hE11 _ _ ok_this
      have hE := hE.tr hE11
      exact r_vret hC hR hS hE hf dX11_leaf_52
    · replace hf := if_f hf hc
      refine lv_lload_n hx hb dX11_leaf_43 rfl (lv_at hl 3 rfl) ?_
      refine lv_goto (tgt := 48) hx hb dX11_leaf_44 (by decide) ?_
      refine lv_ladd hx hb dX11_leaf_48 ?_
      refine pf_RX11_376 hC hR hS ok_this dX11_leaf_49 hf (fun S12 H locs hf hR hS hE13 => ?_)
      have ok_this := hE13 _ _ ok_this
      have hE := hE.tr hE13
      exact r_vret hC hR hS hE hf dX11_leaf_52
  · replace hf := if_f hf hc
    refine lv_lload_n hx hb dX11_leaf_23 rfl (lv_at hl 3 rfl) ?_
    refine lv_aload_n hx hb dX11_leaf_24 rfl (lv_at hl 0 rfl) ?_
    refine lv_iload_n hx hb dX11_leaf_25 rfl (lv_at hl 1 rfl) ?_
    obtain ⟨x17, S14, hc15, hf⟩ := cl_of hf
    refine cl_RX11_347 (As := [.int a1]) (rest := [.long a3, .long (mJ S4 this 34), .ref this]) hC hR hS (c_X11_areaOf l G n this a1 S4 x17 S14 hc15 ok_this) ok_this rfl ⟨Nat.le_of_ble_eq_true rfl, Nat.le_of_ble_eq_true rfl⟩ hl.1 rfl (Nat.le_of_ble_eq_true rfl) dX11_leaf_26 (Nat.zero_le _) (Nat.zero_le _) (fun H locs hR hS hE16 => ?_)
    have ok_this := hE16 _ _ ok_this
    have hE := hE.tr hE16
    refine lv_i2l (v := (x17.toInt64)) hx hb dX11_leaf_29 rfl ?_
    refine lv_lmul hx hb dX11_leaf_30 ?_
    refine lv_goto (tgt := 48) hx hb dX11_leaf_31 (by decide) ?_
    refine lv_ladd hx hb dX11_leaf_48 ?_
    refine pf_RX11_376 hC hR hS ok_this dX11_leaf_49 hf (fun S18 H locs hf hR hS hE19 => ?_)
    have ok_this := hE19 _ _ ok_this
    have hE := hE.tr hE19
    exact r_vret hC hR hS hE hf dX11_leaf_52
abbrev rX11_goThrough : Room := { frames := 7, cells := 0, slots := 0, locals := 172 }
def f_X11_goThrough_L47 (n : Nat) (this : Nat) (a1 : Int32) (a2 : Int32) (a3 : Int32) (a4 : Int32) : Nat → Int32 → MS → Option (MS)
  | 0, _, _ => none
  | k + 1, x21, S22 => jn (f_X11_goThrough_L47 n this a1 a2 a3 a4 k) fun rec47_20 => (if x21 < 0 then cv (f_X11_tries n this (0 : Int32) S22) fun S23 => some S23 else gR S22 (mR S22 this 31) 12 fun q26 => ck (inb x21 (mN S22 q26)) (ck (inb x21 (mN S22 q26)) (bd (sI S22 q26 x21.toNatClampNeg ((mI S22 q26 x21.toNatClampNeg) + (1 : Int32))) fun S30 => gR S30 (mR S30 this 31) 12 fun q32 => ck (inb x21 (mN S30 q32)) (gR S30 (mR S30 this 0) 12 fun q35 => ck (inb (2 : Int32) (mN S30 q35)) ((if (mI S30 q32 x21.toNatClampNeg) < (mI S30 q35 (2 : Int32).toNatClampNeg) then gR S30 (mR S30 this 32) 13 fun q38 => gR S30 (mR S30 this 32) 13 fun q40 => ck (inb x21 (mN S30 q40)) (gR S30 (mR S30 this 0) 12 fun q43 => gR S30 (mR S30 this 31) 12 fun q45 => ck (inb x21 (mN S30 q45)) (ck (inb (((100 : Int32) + ((4 : Int32) * (mI S30 q45 x21.toNatClampNeg))) + (3 : Int32)) (mN S30 q43)) (ck (inb (x21 + (1 : Int32)) (mN S30 q38)) (bd (sJ S30 q38 (x21 + (1 : Int32)).toNatClampNeg ((mJ S30 q40 x21.toNatClampNeg) * ((mI S30 q43 (((100 : Int32) + ((4 : Int32) * (mI S30 q45 x21.toNatClampNeg))) + (3 : Int32)).toNatClampNeg).toInt64))) fun S50 => gR S50 (mR S50 this 32) 13 fun q52 => ck (inb (x21 + (1 : Int32)) (mN S50 q52)) ((if (lg_cmp (mJ S50 q52 (x21 + (1 : Int32)).toNatClampNeg) (0 : Int64)) = 0 then rec47_20 x21 S50 else cv (f_X11_copy n this (a1 + x21) ((a1 + x21) + (1 : Int32)) S50) fun S55 => cv (f_X11_tries n this ((a1 + x21) + (1 : Int32)) S55) fun S58 => gR S58 (mR S58 this 31) 12 fun q61 => ck (inb x21 (mN S58 q61)) (cl (f_X11_blow n this (mI S58 q61 x21.toNatClampNeg) S58) fun x67 S64 => jn (fun (x70 : Int32) (S71 : MS) => rec47_20 x70 S71) fun j212_69 => (if (x21 + (1 : Int32)) = a4 then gR S64 (mR S64 this 32) 13 fun q78 => ck (inb a4 (mN S64 q78)) (cv (f_X11_leaf n this a2 a3 (mJ S64 q78 a4.toNatClampNeg) S64) fun S81 => j212_69 x21 S81) else bd (x21 + (1 : Int32)) fun x72 => gR S64 (mR S64 this 31) 12 fun q73 => ck (inb x72 (mN S64 q73)) (bd (sI S64 q73 x72.toNatClampNeg (-1 : Int32)) fun S76 => j212_69 x72 S76))))))))) else bd (x21 + (-1 : Int32)) fun x86 => rec47_20 x86 S30))))))
def f_X11_goThrough (n : Nat) (this : Nat) (a1 : Int32) (a2 : Int32) (a3 : Int32) (a4 : Int32) (S : MS) : Option (MS) :=
  bd (sJ S this 33 (0 : Int64)) fun S1 => bd (sJ S1 this 34 (0 : Int64)) fun S3 => gR S3 (mR S3 this 32) 13 fun q5 => ck (inb (0 : Int32) (mN S3 q5)) (bd (sJ S3 q5 (0 : Int32).toNatClampNeg (1 : Int64)) fun S8 => gR S8 (mR S8 this 31) 12 fun q10 => ck (inb (0 : Int32) (mN S8 q10)) (bd (sI S8 q10 (0 : Int32).toNatClampNeg (-1 : Int32)) fun S13 => jn (fun (x17 : Int32) (S18 : MS) => f_X11_goThrough_L47 n this a1 a2 a3 a4 n x17 S18) fun j47_16 => (if a4 = 0 then cv (f_X11_tries n this a1 S13) fun S88 => cv (f_X11_leaf n this a2 a3 (1 : Int64) S88) fun S91 => j47_16 (-1 : Int32) S91 else j47_16 (0 : Int32) S13)))
set_option maxRecDepth 100000 in
set_option maxHeartbeats 4000000 in
theorem c_X11_goThrough (l : Launch) (G : Gx) (n : Nat) (this : Nat) (a1 : Int32) (a2 : Int32) (a3 : Int32) (a4 : Int32) (S : MS) (So : MS) (hf : f_X11_goThrough n this a1 a2 a3 a4 S = some So) (ok_this : Ok S this 11) : Cn G l yX11_goThrough cX11_goThrough 7 none rX11_goThrough [.ref this, .int a1, .int a2, .int a3, .int a4] S none So := by
  refine Cn.of (by decide) (Nat.le_of_ble_eq_true rfl) ?_
  intro p e s m args below meth c hC hname hR ls hl
  have hC : Cx G RX11 cX11_goThrough 7 none p s m args meth c := hC
  have hl : lv_has ls 7 [(0, .ref this), (1, .int a1), (2, .int a2), (3, .int a3), (4, .int a4)] := hl
  have hx := hC.x
  have hb := hC.b
  have hS : va_S (gA G) s.heap s.heap [] := va_S.rf
  have hE : Ex S S := Ex.rf S
  unfold f_X11_goThrough at hf
  refine lv_aload_n hx hb dX11_goThrough_0 rfl (lv_at hl 0 rfl) ?_
  refine lv_lconst (v := 0) hx hb dX11_goThrough_1 (by decide) ?_
  refine pf_RX11_374 hC hR hS ok_this dX11_goThrough_2 hf (fun S1 H locs hf hR hS hE2 => ?_)
  have ok_this := hE2 _ _ ok_this
  have hE := hE.tr hE2
  refine lv_aload_n hx hb dX11_goThrough_5 rfl (lv_at hl 0 rfl) ?_
  refine lv_lconst (v := 0) hx hb dX11_goThrough_6 (by decide) ?_
  refine pf_RX11_376 hC hR hS ok_this dX11_goThrough_7 hf (fun S3 H locs hf hR hS hE4 => ?_)
  have ok_this := hE4 _ _ ok_this
  have hE := hE.tr hE4
  refine lv_aload_n hx hb dX11_goThrough_10 rfl (lv_at hl 0 rfl) ?_
  obtain ⟨q5, hq6, ok_q5, hf⟩ := gR_of hf
  refine gf_RX11_52 hC hR ok_this hq6 dX11_goThrough_11 ?_
  refine lv_iconst (v := 0) hx hb dX11_goThrough_14 (by decide) ?_
  refine lv_lconst (v := 1) hx hb dX11_goThrough_15 (by decide) ?_
  obtain ⟨hi7, hf⟩ := ck_of hf
  refine rB_last hC hR hS ok_q5 hi7 dX11_goThrough_16 hf (fun S8 H locs hf hR hS hE9 => ?_)
  have ok_this := hE9 _ _ ok_this
  have ok_q5 := hE9 _ _ ok_q5
  have hE := hE.tr hE9
  refine lv_iconst (v := 0) hx hb dX11_goThrough_17 (by decide) ?_
  refine lv_istore (lv' := [(5, .int (0 : Int32)), (0, .ref this), (1, .int a1), (2, .int a2), (3, .int a3), (4, .int a4)]) hx hb dX11_goThrough_18 hl (by decide) rfl (fun ls hl => ?_)
  refine lv_aload_n hx hb dX11_goThrough_20 rfl (lv_at hl 1 rfl) ?_
  obtain ⟨q10, hq11, ok_q10, hf⟩ := gR_of hf
  refine gf_RX11_49 hC hR ok_this hq11 dX11_goThrough_21 ?_
  refine lv_iconst (v := 0) hx hb dX11_goThrough_24 (by decide) ?_
  refine lv_iconst (v := -1) hx hb dX11_goThrough_25 (by decide) ?_
  obtain ⟨hi12, hf⟩ := ck_of hf
  refine rB_iast hC hR hS ok_q10 hi12 dX11_goThrough_26 hf (fun S13 H locs hf hR hS hE14 => ?_)
  have ok_this := hE14 _ _ ok_this
  have ok_q5 := hE14 _ _ ok_q5
  have ok_q10 := hE14 _ _ ok_q10
  have hE := hE.tr hE14
  refine lv_iload hx hb dX11_goThrough_27 (lv_at hl 5 rfl) ?_
  obtain ⟨j47_16, ej47_16, hf⟩ := jn_of2 hf
  have hj47_15 : ∀ (x17 : Int32) (S18 : MS) (H : Heap) (locs : List Loc) (ls : Array Slot), j47_16 x17 S18 = some So → Rp G S18 H → va_S (gA G) s.heap H locs → Ex S S18 → Ok S18 this 11 → lv_has ls 7 [(0, .ref this), (1, .int a1), (2, .int a2), (3, .int a3), (4, .int a4), (5, .int x17)] → W p l e rX11_goThrough s m args below meth c H locs 0 0 (MQ below (Qn G S none So) args s 0 0 (gA G)) (F0 m 47 ls []) := by
    intro x17 S18 H locs ls hf hR hS hE ok_this hl
    rw [ej47_16] at hf
    have hh87 : ∀ k : Nat, ∀ (x21 : Int32) (S22 : MS) (H : Heap) (locs : List Loc) (ls : Array Slot), f_X11_goThrough_L47 n this a1 a2 a3 a4 k x21 S22 = some So → Rp G S22 H → va_S (gA G) s.heap H locs → Ex S S22 → Ok S22 this 11 → lv_has ls 7 [(0, .ref this), (1, .int a1), (2, .int a2), (3, .int a3), (4, .int a4), (5, .int x21)] → W p l e rX11_goThrough s m args below meth c H locs 0 0 (MQ below (Qn G S none So) args s 0 0 (gA G)) (F0 m 47 ls []) := by
      intro k
      induction k with
      | zero =>
        intro x21 S22 H locs ls hf hR hS hE ok_this hl
        exact absurd hf (by rw [f_X11_goThrough_L47]; exact fun h => by cases h)
      | succ k ih =>
        intro x21 S22 H locs ls hf hR hS hE ok_this hl
        rw [f_X11_goThrough_L47] at hf
        obtain ⟨rec47_20, erec47_20, hf⟩ := jn_of2 hf
        have hL47_19 : ∀ (x21 : Int32) (S22 : MS) (H : Heap) (locs : List Loc) (ls : Array Slot), rec47_20 x21 S22 = some So → Rp G S22 H → va_S (gA G) s.heap H locs → Ex S S22 → Ok S22 this 11 → lv_has ls 7 [(0, .ref this), (1, .int a1), (2, .int a2), (3, .int a3), (4, .int a4), (5, .int x21)] → W p l e rX11_goThrough s m args below meth c H locs 0 0 (MQ below (Qn G S none So) args s 0 0 (gA G)) (F0 m 47 ls []) := by
          intro x21 S22 H locs ls hf hR hS hE ok_this hl
          rw [erec47_20] at hf
          exact ih x21 S22 _ _ _ hf hR hS hE ok_this hl
        refine lv_iload hx hb dX11_goThrough_47 (lv_at hl 5 rfl) ?_
        refine lv_if_lt (tgt := 215) hx hb dX11_goThrough_49 (by decide) (fun hc => ?_) (fun hc => ?_)
        · replace hf := if_t hf hc
          refine lv_aload_n hx hb dX11_goThrough_215 rfl (lv_at hl 0 rfl) ?_
          refine lv_iconst (v := 0) hx hb dX11_goThrough_216 (by decide) ?_
          obtain ⟨S23, hc24, hf⟩ := cv_of hf
          refine cl_RX11_379 (As := [.int (0 : Int32)]) (rest := []) hC hR hS (c_X11_tries l G n this (0 : Int32) S22 S23 hc24 ok_this) ok_this rfl ⟨Nat.le_of_ble_eq_true rfl, Nat.le_of_ble_eq_true rfl⟩ hl.1 rfl (Nat.le_of_ble_eq_true rfl) dX11_goThrough_217 (Nat.zero_le _) (Nat.zero_le _) (fun H locs hR hS hE25 => ?_)
          have ok_this := hE25 _ _ ok_this
          have hE := hE.tr hE25
          exact r_vret hC hR hS hE hf dX11_goThrough_220
        · replace hf := if_f hf hc
          refine lv_aload_n hx hb dX11_goThrough_52 rfl (lv_at hl 0 rfl) ?_
          obtain ⟨q26, hq27, ok_q26, hf⟩ := gR_of hf
          refine gf_RX11_49 hC hR ok_this hq27 dX11_goThrough_53 ?_
          refine lv_iload hx hb dX11_goThrough_56 (lv_at hl 5 rfl) ?_
          refine lv_dup2_11 hx hb dX11_goThrough_58 rfl rfl ?_
          obtain ⟨hi28, hf⟩ := ck_of hf
          refine r_iald hC hR ok_q26 hi28 dX11_goThrough_59 ?_
          refine lv_iconst (v := 1) hx hb dX11_goThrough_60 (by decide) ?_
          refine lv_iadd hx hb dX11_goThrough_61 ?_
          obtain ⟨hi29, hf⟩ := ck_of hf
          refine rB_iast hC hR hS ok_q26 hi29 dX11_goThrough_62 hf (fun S30 H locs hf hR hS hE31 => ?_)
          have ok_this := hE31 _ _ ok_this
          have ok_q26 := hE31 _ _ ok_q26
          have hE := hE.tr hE31
          refine lv_aload_n hx hb dX11_goThrough_63 rfl (lv_at hl 0 rfl) ?_
          obtain ⟨q32, hq33, ok_q32, hf⟩ := gR_of hf
          refine gf_RX11_49 hC hR ok_this hq33 dX11_goThrough_64 ?_
          refine lv_iload hx hb dX11_goThrough_67 (lv_at hl 5 rfl) ?_
          obtain ⟨hi34, hf⟩ := ck_of hf
          refine r_iald hC hR ok_q32 hi34 dX11_goThrough_69 ?_
          refine lv_aload_n hx hb dX11_goThrough_70 rfl (lv_at hl 0 rfl) ?_
          obtain ⟨q35, hq36, ok_q35, hf⟩ := gR_of hf
          refine gf_RX11_7 hC hR ok_this hq36 dX11_goThrough_71 ?_
          refine lv_iconst (v := 2) hx hb dX11_goThrough_74 (by decide) ?_
          obtain ⟨hi37, hf⟩ := ck_of hf
          refine r_iald hC hR ok_q35 hi37 dX11_goThrough_75 ?_
          refine lv_icmp_lt (tgt := 85) hx hb dX11_goThrough_76 (by decide) (fun hc => ?_) (fun hc => ?_)
          · replace hf := if_t hf hc
            refine lv_aload_n hx hb dX11_goThrough_85 rfl (lv_at hl 0 rfl) ?_
            obtain ⟨q38, hq39, ok_q38, hf⟩ := gR_of hf
            refine gf_RX11_52 hC hR ok_this hq39 dX11_goThrough_86 ?_
            refine lv_iload hx hb dX11_goThrough_89 (lv_at hl 5 rfl) ?_
            refine lv_iconst (v := 1) hx hb dX11_goThrough_91 (by decide) ?_
            refine lv_iadd hx hb dX11_goThrough_92 ?_
            refine lv_aload_n hx hb dX11_goThrough_93 rfl (lv_at hl 0 rfl) ?_
            obtain ⟨q40, hq41, ok_q40, hf⟩ := gR_of hf
            refine gf_RX11_52 hC hR ok_this hq41 dX11_goThrough_94 ?_
            refine lv_iload hx hb dX11_goThrough_97 (lv_at hl 5 rfl) ?_
            obtain ⟨hi42, hf⟩ := ck_of hf
            refine r_lald hC hR ok_q40 hi42 dX11_goThrough_99 ?_
            refine lv_aload_n hx hb dX11_goThrough_100 rfl (lv_at hl 0 rfl) ?_
            obtain ⟨q43, hq44, ok_q43, hf⟩ := gR_of hf
            refine gf_RX11_7 hC hR ok_this hq44 dX11_goThrough_101 ?_
            refine lv_bipush (v := 100) hx hb dX11_goThrough_104 (by decide) ?_
            refine lv_iconst (v := 4) hx hb dX11_goThrough_106 (by decide) ?_
            refine lv_aload_n hx hb dX11_goThrough_107 rfl (lv_at hl 0 rfl) ?_
            obtain ⟨q45, hq46, ok_q45, hf⟩ := gR_of hf
            refine gf_RX11_49 hC hR ok_this hq46 dX11_goThrough_108 ?_
            refine lv_iload hx hb dX11_goThrough_111 (lv_at hl 5 rfl) ?_
            obtain ⟨hi47, hf⟩ := ck_of hf
            refine r_iald hC hR ok_q45 hi47 dX11_goThrough_113 ?_
            refine lv_imul hx hb dX11_goThrough_114 ?_
            refine lv_iadd hx hb dX11_goThrough_115 ?_
            refine lv_iconst (v := 3) hx hb dX11_goThrough_116 (by decide) ?_
            refine lv_iadd hx hb dX11_goThrough_117 ?_
            obtain ⟨hi48, hf⟩ := ck_of hf
            refine r_iald hC hR ok_q43 hi48 dX11_goThrough_118 ?_
            refine lv_i2l (v := ((mI S30 q43 (((100 : Int32) + ((4 : Int32) * (mI S30 q45 x21.toNatClampNeg))) + (3 : Int32)).toNatClampNeg).toInt64)) hx hb dX11_goThrough_119 rfl ?_
            refine lv_lmul hx hb dX11_goThrough_120 ?_
            obtain ⟨hi49, hf⟩ := ck_of hf
            refine rB_last hC hR hS ok_q38 hi49 dX11_goThrough_121 hf (fun S50 H locs hf hR hS hE51 => ?_)
            have ok_this := hE51 _ _ ok_this
            have ok_q26 := hE51 _ _ ok_q26
            have ok_q32 := hE51 _ _ ok_q32
            have ok_q35 := hE51 _ _ ok_q35
            have ok_q38 := hE51 _ _ ok_q38
            have ok_q40 := hE51 _ _ ok_q40
            have ok_q43 := hE51 _ _ ok_q43
            have ok_q45 := hE51 _ _ ok_q45
            have hE := hE.tr hE51
            refine lv_aload_n hx hb dX11_goThrough_122 rfl (lv_at hl 0 rfl) ?_
            obtain ⟨q52, hq53, ok_q52, hf⟩ := gR_of hf
            refine gf_RX11_52 hC hR ok_this hq53 dX11_goThrough_123 ?_
            refine lv_iload hx hb dX11_goThrough_126 (lv_at hl 5 rfl) ?_
            refine lv_iconst (v := 1) hx hb dX11_goThrough_128 (by decide) ?_
            refine lv_iadd hx hb dX11_goThrough_129 ?_
            obtain ⟨hi54, hf⟩ := ck_of hf
            refine r_lald hC hR ok_q52 hi54 dX11_goThrough_130 ?_
            refine lv_lconst (v := 0) hx hb dX11_goThrough_131 (by decide) ?_
            refine W.lcmp hx hb dX11_goThrough_132 ?_
            refine lv_if_ne (tgt := 139) hx hb dX11_goThrough_133 (by decide) (fun hc => ?_) (fun hc => ?_)
            · replace hf := if_f hf hc
              refine lv_aload_n hx hb dX11_goThrough_139 rfl (lv_at hl 0 rfl) ?_
              refine lv_iload_n hx hb dX11_goThrough_140 rfl (lv_at hl 1 rfl) ?_
              refine lv_iload hx hb dX11_goThrough_141 (lv_at hl 5 rfl) ?_
              refine lv_iadd hx hb dX11_goThrough_143 ?_
              refine lv_iload_n hx hb dX11_goThrough_144 rfl (lv_at hl 1 rfl) ?_
              refine lv_iload hx hb dX11_goThrough_145 (lv_at hl 5 rfl) ?_
              refine lv_iadd hx hb dX11_goThrough_147 ?_
              refine lv_iconst (v := 1) hx hb dX11_goThrough_148 (by decide) ?_
              refine lv_iadd hx hb dX11_goThrough_149 ?_
              obtain ⟨S55, hc56, hf⟩ := cv_of hf
              refine cl_RX11_67 (As := [.int (a1 + x21), .int ((a1 + x21) + (1 : Int32))]) (rest := []) hC hR hS (c_X11_copy l G n this (a1 + x21) ((a1 + x21) + (1 : Int32)) S50 S55 hc56 ok_this) ok_this rfl ⟨Nat.le_of_ble_eq_true rfl, Nat.le_of_ble_eq_true rfl⟩ hl.1 rfl (Nat.le_of_ble_eq_true rfl) dX11_goThrough_150 (Nat.zero_le _) (Nat.zero_le _) (fun H locs hR hS hE57 => ?_)
              have ok_this := hE57 _ _ ok_this
              have ok_q26 := hE57 _ _ ok_q26
              have ok_q32 := hE57 _ _ ok_q32
              have ok_q35 := hE57 _ _ ok_q35
              have ok_q38 := hE57 _ _ ok_q38
              have ok_q40 := hE57 _ _ ok_q40
              have ok_q43 := hE57 _ _ ok_q43
              have ok_q45 := hE57 _ _ ok_q45
              have ok_q52 := hE57 _ _ ok_q52
              have hE := hE.tr hE57
              refine lv_aload_n hx hb dX11_goThrough_153 rfl (lv_at hl 0 rfl) ?_
              refine lv_iload_n hx hb dX11_goThrough_154 rfl (lv_at hl 1 rfl) ?_
              refine lv_iload hx hb dX11_goThrough_155 (lv_at hl 5 rfl) ?_
              refine lv_iadd hx hb dX11_goThrough_157 ?_
              refine lv_iconst (v := 1) hx hb dX11_goThrough_158 (by decide) ?_
              refine lv_iadd hx hb dX11_goThrough_159 ?_
              obtain ⟨S58, hc59, hf⟩ := cv_of hf
              refine cl_RX11_379 (As := [.int ((a1 + x21) + (1 : Int32))]) (rest := []) hC hR hS (c_X11_tries l G n this ((a1 + x21) + (1 : Int32)) S55 S58 hc59 ok_this) ok_this rfl ⟨Nat.le_of_ble_eq_true rfl, Nat.le_of_ble_eq_true rfl⟩ hl.1 rfl (Nat.le_of_ble_eq_true rfl) dX11_goThrough_160 (Nat.zero_le _) (Nat.zero_le _) (fun H locs hR hS hE60 => ?_)
              have ok_this := hE60 _ _ ok_this
              have ok_q26 := hE60 _ _ ok_q26
              have ok_q32 := hE60 _ _ ok_q32
              have ok_q35 := hE60 _ _ ok_q35
              have ok_q38 := hE60 _ _ ok_q38
              have ok_q40 := hE60 _ _ ok_q40
              have ok_q43 := hE60 _ _ ok_q43
              have ok_q45 := hE60 _ _ ok_q45
              have ok_q52 := hE60 _ _ ok_q52
              have hE := hE.tr hE60
              refine lv_aload_n hx hb dX11_goThrough_163 rfl (lv_at hl 0 rfl) ?_
              refine lv_aload_n hx hb dX11_goThrough_164 rfl (lv_at hl 0 rfl) ?_
              obtain ⟨q61, hq62, ok_q61, hf⟩ := gR_of hf
              refine gf_RX11_49 hC hR ok_this hq62 dX11_goThrough_165 ?_
              refine lv_iload hx hb dX11_goThrough_168 (lv_at hl 5 rfl) ?_
              obtain ⟨hi63, hf⟩ := ck_of hf
              refine r_iald hC hR ok_q61 hi63 dX11_goThrough_170 ?_
              obtain ⟨x67, S64, hc65, hf⟩ := cl_of hf
              refine cl_RX11_322 (As := [.int (mI S58 q61 x21.toNatClampNeg)]) (rest := []) hC hR hS (c_X11_blow l G n this (mI S58 q61 x21.toNatClampNeg) S58 x67 S64 hc65 ok_this) ok_this rfl ⟨Nat.le_of_ble_eq_true rfl, Nat.le_of_ble_eq_true rfl⟩ hl.1 rfl (Nat.le_of_ble_eq_true rfl) dX11_goThrough_171 (Nat.zero_le _) (Nat.zero_le _) (fun H locs hR hS hE66 => ?_)
              have ok_this := hE66 _ _ ok_this
              have ok_q26 := hE66 _ _ ok_q26
              have ok_q32 := hE66 _ _ ok_q32
              have ok_q35 := hE66 _ _ ok_q35
              have ok_q38 := hE66 _ _ ok_q38
              have ok_q40 := hE66 _ _ ok_q40
              have ok_q43 := hE66 _ _ ok_q43
              have ok_q45 := hE66 _ _ ok_q45
              have ok_q52 := hE66 _ _ ok_q52
              have ok_q61 := hE66 _ _ ok_q61
              have hE := hE.tr hE66
              refine lv_istore (lv' := [(6, .int x67), (0, .ref this), (1, .int a1), (2, .int a2), (3, .int a3), (4, .int a4), (5, .int x21)]) hx hb dX11_goThrough_174 hl (by decide) rfl (fun ls hl => ?_)
              refine lv_iload hx hb dX11_goThrough_176 (lv_at hl 6 rfl) ?_
              refine lv_iconst (v := 1) hx hb dX11_goThrough_178 (by decide) ?_
              refine lv_iadd hx hb dX11_goThrough_179 ?_
              refine lv_iload hx hb dX11_goThrough_180 (lv_at hl 5 rfl) ?_
              obtain ⟨j212_69, ej212_69, hf⟩ := jn_of2 hf
              have hj212_68 : ∀ (x70 : Int32) (S71 : MS) (H : Heap) (locs : List Loc) (ls : Array Slot), j212_69 x70 S71 = some So → Rp G S71 H → va_S (gA G) s.heap H locs → Ex S S71 → Ok S71 this 11 → lv_has ls 7 [(0, .ref this), (1, .int a1), (2, .int a2), (3, .int a3), (4, .int a4), (5, .int x70)] → W p l e rX11_goThrough s m args below meth c H locs 0 0 (MQ below (Qn G S none So) args s 0 0 (gA G)) (F0 m 212 ls []) := by
                intro x70 S71 H locs ls hf hR hS hE ok_this hl
                rw [ej212_69] at hf
                refine lv_goto (tgt := 47) hx hb dX11_goThrough_212 (by decide) ?_
                exact hL47_19 x70 S71 _ _ _ hf hR hS hE ok_this (lv_sub hl [0, 1, 2, 3, 4, 5] rfl)
              refine lv_icmp_ne (tgt := 201) hx hb dX11_goThrough_182 (by decide) (fun hc => ?_) (fun hc => ?_)
              · replace hf := if_f hf hc
                refine r_iinc (n := 1) (z := 1) (lv' := fun x72 => [(5, .int x72), (6, .int x67), (0, .ref this), (1, .int a1), (2, .int a2), (3, .int a3), (4, .int a4)]) hx hb dX11_goThrough_201 hl (k := 6) rfl (by decide) (by decide) (fun _ => rfl) hf (fun x72 ls hf hl => ?_)
                refine lv_aload_n hx hb dX11_goThrough_204 rfl (lv_at hl 2 rfl) ?_
                obtain ⟨q73, hq74, ok_q73, hf⟩ := gR_of hf
                refine gf_RX11_49 hC hR ok_this hq74 dX11_goThrough_205 ?_
                refine lv_iload hx hb dX11_goThrough_208 (lv_at hl 0 rfl) ?_
                refine lv_iconst (v := -1) hx hb dX11_goThrough_210 (by decide) ?_
                obtain ⟨hi75, hf⟩ := ck_of hf
                refine rB_iast hC hR hS ok_q73 hi75 dX11_goThrough_211 hf (fun S76 H locs hf hR hS hE77 => ?_)
                have ok_this := hE77 _ _ ok_this
                have ok_q26 := hE77 _ _ ok_q26
                have ok_q32 := hE77 _ _ ok_q32
                have ok_q35 := hE77 _ _ ok_q35
                have ok_q38 := hE77 _ _ ok_q38
                have ok_q40 := hE77 _ _ ok_q40
                have ok_q43 := hE77 _ _ ok_q43
                have ok_q45 := hE77 _ _ ok_q45
                have ok_q52 := hE77 _ _ ok_q52
                have ok_q61 := hE77 _ _ ok_q61
                have ok_q73 := hE77 _ _ ok_q73
                have hE := hE.tr hE77
                exact hj212_68 x72 S76 _ _ _ hf hR hS hE ok_this (lv_sub hl [2, 3, 4, 5, 6, 0] rfl)
              · replace hf := if_t hf hc
                refine lv_aload_n hx hb dX11_goThrough_185 rfl (lv_at hl 1 rfl) ?_
                refine lv_iload_n hx hb dX11_goThrough_186 rfl (lv_at hl 3 rfl) ?_
                refine lv_iload_n hx hb dX11_goThrough_187 rfl (lv_at hl 4 rfl) ?_
                refine lv_aload_n hx hb dX11_goThrough_188 rfl (lv_at hl 1 rfl) ?_
                obtain ⟨q78, hq79, ok_q78, hf⟩ := gR_of hf
                refine gf_RX11_52 hC hR ok_this hq79 dX11_goThrough_189 ?_
                refine lv_iload hx hb dX11_goThrough_192 (lv_at hl 5 rfl) ?_
                obtain ⟨hi80, hf⟩ := ck_of hf
                refine r_lald hC hR ok_q78 hi80 dX11_goThrough_194 ?_
                obtain ⟨S81, hc82, hf⟩ := cv_of hf
                refine cl_RX11_382 (As := [.int a2, .int a3, .long (mJ S64 q78 a4.toNatClampNeg)]) (rest := []) hC hR hS (c_X11_leaf l G n this a2 a3 (mJ S64 q78 a4.toNatClampNeg) S64 S81 hc82 ok_this) ok_this rfl ⟨Nat.le_of_ble_eq_true rfl, Nat.le_of_ble_eq_true rfl⟩ hl.1 rfl (Nat.le_of_ble_eq_true rfl) dX11_goThrough_195 (Nat.zero_le _) (Nat.zero_le _) (fun H locs hR hS hE83 => ?_)
                have ok_this := hE83 _ _ ok_this
                have ok_q26 := hE83 _ _ ok_q26
                have ok_q32 := hE83 _ _ ok_q32
                have ok_q35 := hE83 _ _ ok_q35
                have ok_q38 := hE83 _ _ ok_q38
                have ok_q40 := hE83 _ _ ok_q40
                have ok_q43 := hE83 _ _ ok_q43
                have ok_q45 := hE83 _ _ ok_q45
                have ok_q52 := hE83 _ _ ok_q52
                have ok_q61 := hE83 _ _ ok_q61
                have ok_q78 := hE83 _ _ ok_q78
                have hE := hE.tr hE83
                refine lv_goto (tgt := 212) hx hb dX11_goThrough_198 (by decide) ?_
                exact hj212_68 x21 S81 _ _ _ hf hR hS hE ok_this (lv_sub hl [1, 2, 3, 4, 5, 6] rfl)
            · replace hf := if_t hf hc
              refine lv_goto (tgt := 47) hx hb dX11_goThrough_136 (by decide) ?_
              exact hL47_19 x21 S50 _ _ _ hf hR hS hE ok_this (lv_sub hl [0, 1, 2, 3, 4, 5] rfl)
          · replace hf := if_f hf hc
            refine r_iinc (n := -1) (z := -1) (lv' := fun x86 => [(5, .int x86), (0, .ref this), (1, .int a1), (2, .int a2), (3, .int a3), (4, .int a4)]) hx hb dX11_goThrough_79 hl (k := 5) rfl (by decide) (by decide) (fun _ => rfl) hf (fun x86 ls hf hl => ?_)
            refine lv_goto (tgt := 47) hx hb dX11_goThrough_82 (by decide) ?_
            exact hL47_19 x86 S30 _ _ _ hf hR hS hE ok_this (lv_sub hl [1, 2, 3, 4, 5, 0] rfl)
    exact hh87 n x17 S18 _ _ _ hf hR hS hE ok_this (lv_sub hl [0, 1, 2, 3, 4, 5] rfl)
  refine lv_if_ne (tgt := 47) hx hb dX11_goThrough_29 (by decide) (fun hc => ?_) (fun hc => ?_)
  · replace hf := if_f hf hc
    exact hj47_15 (0 : Int32) S13 _ _ _ hf hR hS hE ok_this (lv_sub hl [1, 2, 3, 4, 5, 0] rfl)
  · replace hf := if_t hf hc
    refine lv_aload_n hx hb dX11_goThrough_32 rfl (lv_at hl 1 rfl) ?_
    refine lv_iload_n hx hb dX11_goThrough_33 rfl (lv_at hl 2 rfl) ?_
    obtain ⟨S88, hc89, hf⟩ := cv_of hf
    refine cl_RX11_379 (As := [.int a1]) (rest := []) hC hR hS (c_X11_tries l G n this a1 S13 S88 hc89 ok_this) ok_this rfl ⟨Nat.le_of_ble_eq_true rfl, Nat.le_of_ble_eq_true rfl⟩ hl.1 rfl (Nat.le_of_ble_eq_true rfl) dX11_goThrough_34 (Nat.zero_le _) (Nat.zero_le _) (fun H locs hR hS hE90 => ?_)
    have ok_this := hE90 _ _ ok_this
    have ok_q5 := hE90 _ _ ok_q5
    have ok_q10 := hE90 _ _ ok_q10
    have hE := hE.tr hE90
    refine lv_aload_n hx hb dX11_goThrough_37 rfl (lv_at hl 1 rfl) ?_
    refine lv_iload_n hx hb dX11_goThrough_38 rfl (lv_at hl 3 rfl) ?_
    refine lv_iload_n hx hb dX11_goThrough_39 rfl (lv_at hl 4 rfl) ?_
    refine lv_lconst (v := 1) hx hb dX11_goThrough_40 (by decide) ?_
    obtain ⟨S91, hc92, hf⟩ := cv_of hf
    refine cl_RX11_382 (As := [.int a2, .int a3, .long (1 : Int64)]) (rest := []) hC hR hS (c_X11_leaf l G n this a2 a3 (1 : Int64) S88 S91 hc92 ok_this) ok_this rfl ⟨Nat.le_of_ble_eq_true rfl, Nat.le_of_ble_eq_true rfl⟩ hl.1 rfl (Nat.le_of_ble_eq_true rfl) dX11_goThrough_41 (Nat.zero_le _) (Nat.zero_le _) (fun H locs hR hS hE93 => ?_)
    have ok_this := hE93 _ _ ok_this
    have ok_q5 := hE93 _ _ ok_q5
    have ok_q10 := hE93 _ _ ok_q10
    have hE := hE.tr hE93
    refine lv_iconst (v := -1) hx hb dX11_goThrough_44 (by decide) ?_
    refine lv_istore (lv' := [(5, .int (-1 : Int32)), (0, .ref this), (1, .int a1), (2, .int a2), (3, .int a3), (4, .int a4)]) hx hb dX11_goThrough_45 hl (by decide) rfl (fun ls hl => ?_)
    exact hj47_15 (-1 : Int32) S91 _ _ _ hf hR hS hE ok_this (lv_sub hl [1, 2, 3, 4, 5, 0] rfl)
abbrev rX11_meanOf : Room := { frames := 8, cells := 0, slots := 0, locals := 198 }
def f_X11_meanOf (n : Nat) (this : Nat) (a1 : Int32) (a2 : Int32) (a3 : Int32) (S : MS) : Option (Int32 × MS) :=
  cv (f_X11_goThrough n this a1 a2 (-1 : Int32) a3 S) fun S1 => (if (lg_cmp (mJ S1 this 33) (0 : Int64)) = 0 then some ((0 : Int32), S1) else dvl (mJ S1 this 33) (some (((((1000 : Int64) * (mJ S1 this 34)) / (mJ S1 this 33)).toInt32), S1)))
set_option maxRecDepth 100000 in
set_option maxHeartbeats 4000000 in
theorem c_X11_meanOf (l : Launch) (G : Gx) (n : Nat) (this : Nat) (a1 : Int32) (a2 : Int32) (a3 : Int32) (S : MS) (ro : Int32) (So : MS) (hf : f_X11_meanOf n this a1 a2 a3 S = some (ro, So)) (ok_this : Ok S this 11) : Cn G l yX11_meanOf cX11_meanOf 4 (some .int) rX11_meanOf [.ref this, .int a1, .int a2, .int a3] S (some (.int ro)) So := by
  refine Cn.of (by decide) (Nat.le_of_ble_eq_true rfl) ?_
  intro p e s m args below meth c hC hname hR ls hl
  have hC : Cx G RX11 cX11_meanOf 4 (some .int) p s m args meth c := hC
  have hl : lv_has ls 4 [(0, .ref this), (1, .int a1), (2, .int a2), (3, .int a3)] := hl
  have hx := hC.x
  have hb := hC.b
  have hS : va_S (gA G) s.heap s.heap [] := va_S.rf
  have hE : Ex S S := Ex.rf S
  unfold f_X11_meanOf at hf
  refine lv_aload_n hx hb dX11_meanOf_0 rfl (lv_at hl 0 rfl) ?_
  refine lv_iload_n hx hb dX11_meanOf_1 rfl (lv_at hl 1 rfl) ?_
  refine lv_iload_n hx hb dX11_meanOf_2 rfl (lv_at hl 2 rfl) ?_
  refine lv_iconst (v := -1) hx hb dX11_meanOf_3 (by decide) ?_
  refine lv_iload_n hx hb dX11_meanOf_4 rfl (lv_at hl 3 rfl) ?_
  obtain ⟨S1, hc2, hf⟩ := cv_of hf
  refine cl_RX11_386 (As := [.int a1, .int a2, .int (-1 : Int32), .int a3]) (rest := []) hC hR hS (c_X11_goThrough l G n this a1 a2 (-1 : Int32) a3 S S1 hc2 ok_this) ok_this rfl ⟨Nat.le_of_ble_eq_true rfl, Nat.le_of_ble_eq_true rfl⟩ hl.1 rfl (Nat.le_of_ble_eq_true rfl) dX11_meanOf_5 (Nat.zero_le _) (Nat.zero_le _) (fun H locs hR hS hE3 => ?_)
  have ok_this := hE3 _ _ ok_this
  have hE := hE.tr hE3
  refine lv_aload_n hx hb dX11_meanOf_8 rfl (lv_at hl 0 rfl) ?_
  refine gf_RX11_374 hC hR ok_this dX11_meanOf_9 ?_
  refine lv_lconst (v := 0) hx hb dX11_meanOf_12 (by decide) ?_
  refine W.lcmp hx hb dX11_meanOf_13 ?_
  refine lv_if_ne (tgt := 21) hx hb dX11_meanOf_14 (by decide) (fun hc => ?_) (fun hc => ?_)
  · replace hf := if_f hf hc
    refine lv_ldc2 (v := 1000) hx hb hC.ow (hC.ts _ (bg48 _ (List.mem_of_getElem? (i := 8) rfl))) dX11_meanOf_21 ?_
    refine lv_aload_n hx hb dX11_meanOf_24 rfl (lv_at hl 0 rfl) ?_
    refine gf_RX11_376 hC hR ok_this dX11_meanOf_25 ?_
    refine lv_lmul hx hb dX11_meanOf_28 ?_
    refine lv_aload_n hx hb dX11_meanOf_29 rfl (lv_at hl 0 rfl) ?_
    refine gf_RX11_374 hC hR ok_this dX11_meanOf_30 ?_
    obtain ⟨hn4, hf⟩ := dvl_of hf
    refine lv_ldiv hx hb dX11_meanOf_33 hn4 ?_
    refine lv_l2i (v := ((((1000 : Int64) * (mJ S1 this 34)) / (mJ S1 this 33)).toInt32)) hx hb dX11_meanOf_34 rfl ?_
    exact r_iret hC hR hS hE hf dX11_meanOf_35
  · replace hf := if_t hf hc
    refine lv_iconst (v := 0) hx hb dX11_meanOf_17 (by decide) ?_
    refine lv_goto (tgt := 35) hx hb dX11_meanOf_18 (by decide) ?_
    exact r_iret hC hR hS hE hf dX11_meanOf_35
abbrev rX11_odds : Room := { frames := 8, cells := 0, slots := 0, locals := 198 }
def f_X11_odds (n : Nat) (this : Nat) (a1 : Int32) (a2 : Int32) (a3 : Int32) (S : MS) : Option (Int32 × MS) :=
  cl (f_X11_isFarmer n a1 S) fun x4 S1 => (if x4 = 0 then some ((-1 : Int32), S1) else jn (fun (S7 : MS) => cl (f_X11_isIn n a3 (0 : Int32) (4 : Int32) S7) fun x11 S8 => (if x11 = 0 then some ((-1 : Int32), S8) else cv (f_X11_copy n this (0 : Int32) (2 : Int32) S8) fun S12 => cv (f_X11_goThrough n this (2 : Int32) a1 a2 a3 S12) fun S15 => (if 0 ≤ a2 then some (((mJ S15 this 34).toInt32), S15) else some (((mJ S15 this 33).toInt32), S15)))) fun j20_6 => (if a2 = (-1 : Int32) then j20_6 S1 else cl (f_X11_isCell n this a2 S1) fun x21 S18 => (if x21 = 0 then some ((-1 : Int32), S18) else j20_6 S18)))
set_option maxRecDepth 100000 in
set_option maxHeartbeats 4000000 in
theorem c_X11_odds (l : Launch) (G : Gx) (n : Nat) (this : Nat) (a1 : Int32) (a2 : Int32) (a3 : Int32) (S : MS) (ro : Int32) (So : MS) (hf : f_X11_odds n this a1 a2 a3 S = some (ro, So)) (ok_this : Ok S this 11) : Cn G l yX11_odds cX11_odds 4 (some .int) rX11_odds [.ref this, .int a1, .int a2, .int a3] S (some (.int ro)) So := by
  refine Cn.of (by decide) (Nat.le_of_ble_eq_true rfl) ?_
  intro p e s m args below meth c hC hname hR ls hl
  have hC : Cx G RX11 cX11_odds 4 (some .int) p s m args meth c := hC
  have hl : lv_has ls 4 [(0, .ref this), (1, .int a1), (2, .int a2), (3, .int a3)] := hl
  have hx := hC.x
  have hb := hC.b
  have hS : va_S (gA G) s.heap s.heap [] := va_S.rf
  have hE : Ex S S := Ex.rf S
  unfold f_X11_odds at hf
  refine lv_iload_n hx hb dX11_odds_0 rfl (lv_at hl 1 rfl) ?_
  obtain ⟨x4, S1, hc2, hf⟩ := cl_of hf
  refine cl_RX11_88 (As := [.int a1]) (rest := []) hC hR hS (c_X11_isFarmer l G n a1 S x4 S1 hc2 ) rfl ⟨Nat.le_of_ble_eq_true rfl, Nat.le_of_ble_eq_true rfl⟩ hl.1 rfl (Nat.le_of_ble_eq_true rfl) dX11_odds_1 (Nat.zero_le _) (Nat.zero_le _) (fun H locs hR hS hE3 => ?_)
  have ok_this := hE3 _ _ ok_this
  have hE := hE.tr hE3
  refine lv_if_eq (tgt := 29) hx hb dX11_odds_4 (by decide) (fun hc => ?_) (fun hc => ?_)
  · replace hf := if_t hf hc
    refine lv_iconst (v := -1) hx hb dX11_odds_29 (by decide) ?_
    exact r_iret hC hR hS hE hf dX11_odds_30
  · replace hf := if_f hf hc
    refine lv_iload_n hx hb dX11_odds_7 rfl (lv_at hl 2 rfl) ?_
    refine lv_iconst (v := -1) hx hb dX11_odds_8 (by decide) ?_
    obtain ⟨j20_6, ej20_6, hf⟩ := jn_of1 hf
    have hj20_5 : ∀ (S7 : MS) (H : Heap) (locs : List Loc) (ls : Array Slot), j20_6 S7 = some (ro, So) → Rp G S7 H → va_S (gA G) s.heap H locs → Ex S S7 → Ok S7 this 11 → lv_has ls 4 [(0, .ref this), (1, .int a1), (2, .int a2), (3, .int a3)] → W p l e rX11_odds s m args below meth c H locs 0 0 (MQ below (Qn G S (some (.int ro)) So) args s 0 0 (gA G)) (F0 m 20 ls []) := by
      intro S7 H locs ls hf hR hS hE ok_this hl
      rw [ej20_6] at hf
      refine lv_iload_n hx hb dX11_odds_20 rfl (lv_at hl 3 rfl) ?_
      refine lv_iconst (v := 0) hx hb dX11_odds_21 (by decide) ?_
      refine lv_iconst (v := 4) hx hb dX11_odds_22 (by decide) ?_
      obtain ⟨x11, S8, hc9, hf⟩ := cl_of hf
      refine cl_RX11_71 (As := [.int a3, .int (0 : Int32), .int (4 : Int32)]) (rest := []) hC hR hS (c_X11_isIn l G n a3 (0 : Int32) (4 : Int32) S7 x11 S8 hc9 ) rfl ⟨Nat.le_of_ble_eq_true rfl, Nat.le_of_ble_eq_true rfl⟩ hl.1 rfl (Nat.le_of_ble_eq_true rfl) dX11_odds_23 (Nat.zero_le _) (Nat.zero_le _) (fun H locs hR hS hE10 => ?_)
      have ok_this := hE10 _ _ ok_this
      have hE := hE.tr hE10
      refine lv_if_ne (tgt := 31) hx hb dX11_odds_26 (by decide) (fun hc => ?_) (fun hc => ?_)
      · replace hf := if_f hf hc
        refine lv_aload_n hx hb dX11_odds_31 rfl (lv_at hl 0 rfl) ?_
        refine lv_iconst (v := 0) hx hb dX11_odds_32 (by decide) ?_
        refine lv_iconst (v := 2) hx hb dX11_odds_33 (by decide) ?_
        obtain ⟨S12, hc13, hf⟩ := cv_of hf
        refine cl_RX11_67 (As := [.int (0 : Int32), .int (2 : Int32)]) (rest := []) hC hR hS (c_X11_copy l G n this (0 : Int32) (2 : Int32) S8 S12 hc13 ok_this) ok_this rfl ⟨Nat.le_of_ble_eq_true rfl, Nat.le_of_ble_eq_true rfl⟩ hl.1 rfl (Nat.le_of_ble_eq_true rfl) dX11_odds_34 (Nat.zero_le _) (Nat.zero_le _) (fun H locs hR hS hE14 => ?_)
        have ok_this := hE14 _ _ ok_this
        have hE := hE.tr hE14
        refine lv_aload_n hx hb dX11_odds_37 rfl (lv_at hl 0 rfl) ?_
        refine lv_iconst (v := 2) hx hb dX11_odds_38 (by decide) ?_
        refine lv_iload_n hx hb dX11_odds_39 rfl (lv_at hl 1 rfl) ?_
        refine lv_iload_n hx hb dX11_odds_40 rfl (lv_at hl 2 rfl) ?_
        refine lv_iload_n hx hb dX11_odds_41 rfl (lv_at hl 3 rfl) ?_
        obtain ⟨S15, hc16, hf⟩ := cv_of hf
        refine cl_RX11_386 (As := [.int (2 : Int32), .int a1, .int a2, .int a3]) (rest := []) hC hR hS (c_X11_goThrough l G n this (2 : Int32) a1 a2 a3 S12 S15 hc16 ok_this) ok_this rfl ⟨Nat.le_of_ble_eq_true rfl, Nat.le_of_ble_eq_true rfl⟩ hl.1 rfl (Nat.le_of_ble_eq_true rfl) dX11_odds_42 (Nat.zero_le _) (Nat.zero_le _) (fun H locs hR hS hE17 => ?_)
        have ok_this := hE17 _ _ ok_this
        have hE := hE.tr hE17
        refine lv_iload_n hx hb dX11_odds_45 rfl (lv_at hl 2 rfl) ?_
        refine lv_if_ge (tgt := 56) hx hb dX11_odds_46 (by decide) (fun hc => ?_) (fun hc => ?_)
        · replace hf := if_t hf hc
          refine lv_aload_n hx hb dX11_odds_56 rfl (lv_at hl 0 rfl) ?_
          refine gf_RX11_376 hC hR ok_this dX11_odds_57 ?_
          refine lv_l2i (v := ((mJ S15 this 34).toInt32)) hx hb dX11_odds_60 rfl ?_
          exact r_iret hC hR hS hE hf dX11_odds_61
        · replace hf := if_f hf hc
          refine lv_aload_n hx hb dX11_odds_49 rfl (lv_at hl 0 rfl) ?_
          refine gf_RX11_374 hC hR ok_this dX11_odds_50 ?_
          refine lv_goto (tgt := 60) hx hb dX11_odds_53 (by decide) ?_
          refine lv_l2i (v := ((mJ S15 this 33).toInt32)) hx hb dX11_odds_60 rfl ?_
          exact r_iret hC hR hS hE hf dX11_odds_61
      · replace hf := if_t hf hc
        refine lv_iconst (v := -1) hx hb dX11_odds_29 (by decide) ?_
        exact r_iret hC hR hS hE hf dX11_odds_30
    refine lv_icmp_eq (tgt := 20) hx hb dX11_odds_9 (by decide) (fun hc => ?_) (fun hc => ?_)
    · replace hf := if_t hf hc
      exact hj20_5 S1 _ _ _ hf hR hS hE ok_this (lv_sub hl [0, 1, 2, 3] rfl)
    · replace hf := if_f hf hc
      refine lv_aload_n hx hb dX11_odds_12 rfl (lv_at hl 0 rfl) ?_
      refine lv_iload_n hx hb dX11_odds_13 rfl (lv_at hl 2 rfl) ?_
      obtain ⟨x21, S18, hc19, hf⟩ := cl_of hf
      refine cl_RX11_82 (As := [.int a2]) (rest := []) hC hR hS (c_X11_isCell l G n this a2 S1 x21 S18 hc19 ok_this) ok_this rfl ⟨Nat.le_of_ble_eq_true rfl, Nat.le_of_ble_eq_true rfl⟩ hl.1 rfl (Nat.le_of_ble_eq_true rfl) dX11_odds_14 (Nat.zero_le _) (Nat.zero_le _) (fun H locs hR hS hE20 => ?_)
      have ok_this := hE20 _ _ ok_this
      have hE := hE.tr hE20
      refine lv_if_eq (tgt := 29) hx hb dX11_odds_17 (by decide) (fun hc => ?_) (fun hc => ?_)
      · replace hf := if_t hf hc
        refine lv_iconst (v := -1) hx hb dX11_odds_29 (by decide) ?_
        exact r_iret hC hR hS hE hf dX11_odds_30
      · replace hf := if_f hf hc
        exact hj20_5 S18 _ _ _ hf hR hS hE ok_this (lv_sub hl [0, 1, 2, 3] rfl)
abbrev rX11_mean : Room := { frames := 9, cells := 0, slots := 0, locals := 221 }
def f_X11_mean (n : Nat) (this : Nat) (a1 : Int32) (a2 : Int32) (S : MS) : Option (Int32 × MS) :=
  cl (f_X11_isFarmer n a1 S) fun x4 S1 => (if x4 = 0 then some ((-1 : Int32), S1) else cl (f_X11_isIn n a2 (0 : Int32) (4 : Int32) S1) fun x8 S5 => (if x8 = 0 then some ((-1 : Int32), S5) else cv (f_X11_copy n this (0 : Int32) (2 : Int32) S5) fun S9 => cl (f_X11_meanOf n this (2 : Int32) a1 a2 S9) fun x15 S12 => some (x15, S12)))
set_option maxRecDepth 100000 in
set_option maxHeartbeats 4000000 in
theorem c_X11_mean (l : Launch) (G : Gx) (n : Nat) (this : Nat) (a1 : Int32) (a2 : Int32) (S : MS) (ro : Int32) (So : MS) (hf : f_X11_mean n this a1 a2 S = some (ro, So)) (ok_this : Ok S this 11) : Cn G l yX11_mean cX11_mean 3 (some .int) rX11_mean [.ref this, .int a1, .int a2] S (some (.int ro)) So := by
  refine Cn.of (by decide) (Nat.le_of_ble_eq_true rfl) ?_
  intro p e s m args below meth c hC hname hR ls hl
  have hC : Cx G RX11 cX11_mean 3 (some .int) p s m args meth c := hC
  have hl : lv_has ls 3 [(0, .ref this), (1, .int a1), (2, .int a2)] := hl
  have hx := hC.x
  have hb := hC.b
  have hS : va_S (gA G) s.heap s.heap [] := va_S.rf
  have hE : Ex S S := Ex.rf S
  unfold f_X11_mean at hf
  refine lv_iload_n hx hb dX11_mean_0 rfl (lv_at hl 1 rfl) ?_
  obtain ⟨x4, S1, hc2, hf⟩ := cl_of hf
  refine cl_RX11_88 (As := [.int a1]) (rest := []) hC hR hS (c_X11_isFarmer l G n a1 S x4 S1 hc2 ) rfl ⟨Nat.le_of_ble_eq_true rfl, Nat.le_of_ble_eq_true rfl⟩ hl.1 rfl (Nat.le_of_ble_eq_true rfl) dX11_mean_1 (Nat.zero_le _) (Nat.zero_le _) (fun H locs hR hS hE3 => ?_)
  have ok_this := hE3 _ _ ok_this
  have hE := hE.tr hE3
  refine lv_if_eq (tgt := 16) hx hb dX11_mean_4 (by decide) (fun hc => ?_) (fun hc => ?_)
  · replace hf := if_t hf hc
    refine lv_iconst (v := -1) hx hb dX11_mean_16 (by decide) ?_
    exact r_iret hC hR hS hE hf dX11_mean_17
  · replace hf := if_f hf hc
    refine lv_iload_n hx hb dX11_mean_7 rfl (lv_at hl 2 rfl) ?_
    refine lv_iconst (v := 0) hx hb dX11_mean_8 (by decide) ?_
    refine lv_iconst (v := 4) hx hb dX11_mean_9 (by decide) ?_
    obtain ⟨x8, S5, hc6, hf⟩ := cl_of hf
    refine cl_RX11_71 (As := [.int a2, .int (0 : Int32), .int (4 : Int32)]) (rest := []) hC hR hS (c_X11_isIn l G n a2 (0 : Int32) (4 : Int32) S1 x8 S5 hc6 ) rfl ⟨Nat.le_of_ble_eq_true rfl, Nat.le_of_ble_eq_true rfl⟩ hl.1 rfl (Nat.le_of_ble_eq_true rfl) dX11_mean_10 (Nat.zero_le _) (Nat.zero_le _) (fun H locs hR hS hE7 => ?_)
    have ok_this := hE7 _ _ ok_this
    have hE := hE.tr hE7
    refine lv_if_ne (tgt := 18) hx hb dX11_mean_13 (by decide) (fun hc => ?_) (fun hc => ?_)
    · replace hf := if_f hf hc
      refine lv_aload_n hx hb dX11_mean_18 rfl (lv_at hl 0 rfl) ?_
      refine lv_iconst (v := 0) hx hb dX11_mean_19 (by decide) ?_
      refine lv_iconst (v := 2) hx hb dX11_mean_20 (by decide) ?_
      obtain ⟨S9, hc10, hf⟩ := cv_of hf
      refine cl_RX11_67 (As := [.int (0 : Int32), .int (2 : Int32)]) (rest := []) hC hR hS (c_X11_copy l G n this (0 : Int32) (2 : Int32) S5 S9 hc10 ok_this) ok_this rfl ⟨Nat.le_of_ble_eq_true rfl, Nat.le_of_ble_eq_true rfl⟩ hl.1 rfl (Nat.le_of_ble_eq_true rfl) dX11_mean_21 (Nat.zero_le _) (Nat.zero_le _) (fun H locs hR hS hE11 => ?_)
      have ok_this := hE11 _ _ ok_this
      have hE := hE.tr hE11
      refine lv_aload_n hx hb dX11_mean_24 rfl (lv_at hl 0 rfl) ?_
      refine lv_iconst (v := 2) hx hb dX11_mean_25 (by decide) ?_
      refine lv_iload_n hx hb dX11_mean_26 rfl (lv_at hl 1 rfl) ?_
      refine lv_iload_n hx hb dX11_mean_27 rfl (lv_at hl 2 rfl) ?_
      obtain ⟨x15, S12, hc13, hf⟩ := cl_of hf
      refine cl_RX11_392 (As := [.int (2 : Int32), .int a1, .int a2]) (rest := []) hC hR hS (c_X11_meanOf l G n this (2 : Int32) a1 a2 S9 x15 S12 hc13 ok_this) ok_this rfl ⟨Nat.le_of_ble_eq_true rfl, Nat.le_of_ble_eq_true rfl⟩ hl.1 rfl (Nat.le_of_ble_eq_true rfl) dX11_mean_28 (Nat.zero_le _) (Nat.zero_le _) (fun H locs hR hS hE14 => ?_)
      have ok_this := hE14 _ _ ok_this
      have hE := hE.tr hE14
      exact r_iret hC hR hS hE hf dX11_mean_31
    · replace hf := if_t hf hc
      refine lv_iconst (v := -1) hx hb dX11_mean_16 (by decide) ?_
      exact r_iret hC hR hS hE hf dX11_mean_17
abbrev rX11_best : Room := { frames := 9, cells := 0, slots := 0, locals := 221 }
def f_X11_best_L65 (n : Nat) (this : Nat) (a1 : Int32) (a2 : Int32) (a3 : Int32) (x31 : Int32) (j145_37 : Int32 → Int32 → Int32 → MS → Option (Int32 × MS)) : Nat → Int32 → Int32 → Int32 → Int32 → MS → Option (Int32 × MS)
  | 0, _, _, _, _, _ => none
  | k + 1, x45, x46, x47, x48, S49 => jn (f_X11_best_L65 n this a1 a2 a3 x31 j145_37 k) fun rec65_44 => (if (4 : Int32) ≤ x48 then j145_37 x45 x46 x47 S49 else cl (f_X11_stepped n this x31 x48 S49) fun x53 S50 => jn (fun (x56 : Int32) (x57 : Int32) (x58 : Int32) (S59 : MS) => bd (x48 + (1 : Int32)) fun x60 => rec65_44 x56 x57 x58 x60 S59) fun j139_55 => (if 0 ≤ x53 then cv (f_X11_copy n this (0 : Int32) (2 : Int32) S50) fun S61 => cv (f_X11_tries n this (2 : Int32) S61) fun S64 => cv (f_X11_move n this x31 x53 S64) fun S67 => cl (f_X11_meanOf n this (2 : Int32) a1 a2 S67) fun x73 S70 => (if x45 < x73 then j139_55 x73 x31 x48 S70 else j139_55 x45 x46 x47 S70) else j139_55 x45 x46 x47 S50))
def f_X11_best_L51 (n : Nat) (this : Nat) (a1 : Int32) (a2 : Int32) (a3 : Int32) (j151_21 : Int32 → Int32 → Int32 → MS → Option (Int32 × MS)) : Nat → Int32 → Int32 → Int32 → Int32 → MS → Option (Int32 × MS)
  | 0, _, _, _, _, _ => none
  | k + 1, x28, x29, x30, x31, S32 => jn (f_X11_best_L51 n this a1 a2 a3 j151_21 k) fun rec51_27 => gR S32 (mR S32 this 0) 12 fun q33 => ck (inb (1 : Int32) (mN S32 q33)) ((if (mI S32 q33 (1 : Int32).toNatClampNeg) ≤ x31 then j151_21 x28 x29 x30 S32 else jn (fun (x38 : Int32) (x39 : Int32) (x40 : Int32) (S41 : MS) => bd (x31 + (1 : Int32)) fun x42 => rec51_27 x38 x39 x40 x42 S41) fun j145_37 => f_X11_best_L65 n this a1 a2 a3 x31 j145_37 n x28 x29 x30 (0 : Int32) S32))
def f_X11_best (n : Nat) (this : Nat) (a1 : Int32) (a2 : Int32) (a3 : Int32) (S : MS) : Option (Int32 × MS) :=
  cl (f_X11_isFarmer n a1 S) fun x4 S1 => (if x4 = 0 then some ((-1 : Int32), S1) else cl (f_X11_isIn n a2 (0 : Int32) (2 : Int32) S1) fun x8 S5 => (if x8 = 0 then some ((-1 : Int32), S5) else cl (f_X11_isIn n a3 (0 : Int32) (2 : Int32) S5) fun x12 S9 => (if x12 = 0 then some ((-1 : Int32), S9) else cv (f_X11_copy n this (0 : Int32) (2 : Int32) S9) fun S13 => cl (f_X11_meanOf n this (2 : Int32) a1 a2 S13) fun x19 S16 => jn (fun (x22 : Int32) (x23 : Int32) (x24 : Int32) (S25 : MS) => (if 0 ≤ x23 then (if a3 = 0 then some (x23, S25) else (if a3 = (1 : Int32) then some (x24, S25) else some (x22, S25))) else some ((-1 : Int32), S25))) fun j151_21 => f_X11_best_L51 n this a1 a2 a3 j151_21 n x19 (-1 : Int32) (-1 : Int32) (0 : Int32) S16)))
set_option maxRecDepth 100000 in
set_option maxHeartbeats 4000000 in
theorem c_X11_best (l : Launch) (G : Gx) (n : Nat) (this : Nat) (a1 : Int32) (a2 : Int32) (a3 : Int32) (S : MS) (ro : Int32) (So : MS) (hf : f_X11_best n this a1 a2 a3 S = some (ro, So)) (ok_this : Ok S this 11) : Cn G l yX11_best cX11_best 11 (some .int) rX11_best [.ref this, .int a1, .int a2, .int a3] S (some (.int ro)) So := by
  refine Cn.of (by decide) (Nat.le_of_ble_eq_true rfl) ?_
  intro p e s m args below meth c hC hname hR ls hl
  have hC : Cx G RX11 cX11_best 11 (some .int) p s m args meth c := hC
  have hl : lv_has ls 11 [(0, .ref this), (1, .int a1), (2, .int a2), (3, .int a3)] := hl
  have hx := hC.x
  have hb := hC.b
  have hS : va_S (gA G) s.heap s.heap [] := va_S.rf
  have hE : Ex S S := Ex.rf S
  unfold f_X11_best at hf
  refine lv_iload_n hx hb dX11_best_0 rfl (lv_at hl 1 rfl) ?_
  obtain ⟨x4, S1, hc2, hf⟩ := cl_of hf
  refine cl_RX11_88 (As := [.int a1]) (rest := []) hC hR hS (c_X11_isFarmer l G n a1 S x4 S1 hc2 ) rfl ⟨Nat.le_of_ble_eq_true rfl, Nat.le_of_ble_eq_true rfl⟩ hl.1 rfl (Nat.le_of_ble_eq_true rfl) dX11_best_1 (Nat.zero_le _) (Nat.zero_le _) (fun H locs hR hS hE3 => ?_)
  have ok_this := hE3 _ _ ok_this
  have hE := hE.tr hE3
  refine lv_if_eq (tgt := 25) hx hb dX11_best_4 (by decide) (fun hc => ?_) (fun hc => ?_)
  · replace hf := if_t hf hc
    refine lv_iconst (v := -1) hx hb dX11_best_25 (by decide) ?_
    exact r_iret hC hR hS hE hf dX11_best_26
  · replace hf := if_f hf hc
    refine lv_iload_n hx hb dX11_best_7 rfl (lv_at hl 2 rfl) ?_
    refine lv_iconst (v := 0) hx hb dX11_best_8 (by decide) ?_
    refine lv_iconst (v := 2) hx hb dX11_best_9 (by decide) ?_
    obtain ⟨x8, S5, hc6, hf⟩ := cl_of hf
    refine cl_RX11_71 (As := [.int a2, .int (0 : Int32), .int (2 : Int32)]) (rest := []) hC hR hS (c_X11_isIn l G n a2 (0 : Int32) (2 : Int32) S1 x8 S5 hc6 ) rfl ⟨Nat.le_of_ble_eq_true rfl, Nat.le_of_ble_eq_true rfl⟩ hl.1 rfl (Nat.le_of_ble_eq_true rfl) dX11_best_10 (Nat.zero_le _) (Nat.zero_le _) (fun H locs hR hS hE7 => ?_)
    have ok_this := hE7 _ _ ok_this
    have hE := hE.tr hE7
    refine lv_if_eq (tgt := 25) hx hb dX11_best_13 (by decide) (fun hc => ?_) (fun hc => ?_)
    · replace hf := if_t hf hc
      refine lv_iconst (v := -1) hx hb dX11_best_25 (by decide) ?_
      exact r_iret hC hR hS hE hf dX11_best_26
    · replace hf := if_f hf hc
      refine lv_iload_n hx hb dX11_best_16 rfl (lv_at hl 3 rfl) ?_
      refine lv_iconst (v := 0) hx hb dX11_best_17 (by decide) ?_
      refine lv_iconst (v := 2) hx hb dX11_best_18 (by decide) ?_
      obtain ⟨x12, S9, hc10, hf⟩ := cl_of hf
      refine cl_RX11_71 (As := [.int a3, .int (0 : Int32), .int (2 : Int32)]) (rest := []) hC hR hS (c_X11_isIn l G n a3 (0 : Int32) (2 : Int32) S5 x12 S9 hc10 ) rfl ⟨Nat.le_of_ble_eq_true rfl, Nat.le_of_ble_eq_true rfl⟩ hl.1 rfl (Nat.le_of_ble_eq_true rfl) dX11_best_19 (Nat.zero_le _) (Nat.zero_le _) (fun H locs hR hS hE11 => ?_)
      have ok_this := hE11 _ _ ok_this
      have hE := hE.tr hE11
      refine lv_if_ne (tgt := 27) hx hb dX11_best_22 (by decide) (fun hc => ?_) (fun hc => ?_)
      · replace hf := if_f hf hc
        refine lv_aload_n hx hb dX11_best_27 rfl (lv_at hl 0 rfl) ?_
        refine lv_iconst (v := 0) hx hb dX11_best_28 (by decide) ?_
        refine lv_iconst (v := 2) hx hb dX11_best_29 (by decide) ?_
        obtain ⟨S13, hc14, hf⟩ := cv_of hf
        refine cl_RX11_67 (As := [.int (0 : Int32), .int (2 : Int32)]) (rest := []) hC hR hS (c_X11_copy l G n this (0 : Int32) (2 : Int32) S9 S13 hc14 ok_this) ok_this rfl ⟨Nat.le_of_ble_eq_true rfl, Nat.le_of_ble_eq_true rfl⟩ hl.1 rfl (Nat.le_of_ble_eq_true rfl) dX11_best_30 (Nat.zero_le _) (Nat.zero_le _) (fun H locs hR hS hE15 => ?_)
        have ok_this := hE15 _ _ ok_this
        have hE := hE.tr hE15
        refine lv_aload_n hx hb dX11_best_33 rfl (lv_at hl 0 rfl) ?_
        refine lv_iconst (v := 2) hx hb dX11_best_34 (by decide) ?_
        refine lv_iload_n hx hb dX11_best_35 rfl (lv_at hl 1 rfl) ?_
        refine lv_iload_n hx hb dX11_best_36 rfl (lv_at hl 2 rfl) ?_
        obtain ⟨x19, S16, hc17, hf⟩ := cl_of hf
        refine cl_RX11_392 (As := [.int (2 : Int32), .int a1, .int a2]) (rest := []) hC hR hS (c_X11_meanOf l G n this (2 : Int32) a1 a2 S13 x19 S16 hc17 ok_this) ok_this rfl ⟨Nat.le_of_ble_eq_true rfl, Nat.le_of_ble_eq_true rfl⟩ hl.1 rfl (Nat.le_of_ble_eq_true rfl) dX11_best_37 (Nat.zero_le _) (Nat.zero_le _) (fun H locs hR hS hE18 => ?_)
        have ok_this := hE18 _ _ ok_this
        have hE := hE.tr hE18
        refine lv_istore (lv' := [(4, .int x19), (0, .ref this), (1, .int a1), (2, .int a2), (3, .int a3)]) hx hb dX11_best_40 hl (by decide) rfl (fun ls hl => ?_)
        refine lv_iconst (v := -1) hx hb dX11_best_42 (by decide) ?_
        refine lv_istore (lv' := [(5, .int (-1 : Int32)), (4, .int x19), (0, .ref this), (1, .int a1), (2, .int a2), (3, .int a3)]) hx hb dX11_best_43 hl (by decide) rfl (fun ls hl => ?_)
        refine lv_iconst (v := -1) hx hb dX11_best_45 (by decide) ?_
        refine lv_istore (lv' := [(6, .int (-1 : Int32)), (5, .int (-1 : Int32)), (4, .int x19), (0, .ref this), (1, .int a1), (2, .int a2), (3, .int a3)]) hx hb dX11_best_46 hl (by decide) rfl (fun ls hl => ?_)
        refine lv_iconst (v := 0) hx hb dX11_best_48 (by decide) ?_
        refine lv_istore (lv' := [(7, .int (0 : Int32)), (6, .int (-1 : Int32)), (5, .int (-1 : Int32)), (4, .int x19), (0, .ref this), (1, .int a1), (2, .int a2), (3, .int a3)]) hx hb dX11_best_49 hl (by decide) rfl (fun ls hl => ?_)
        obtain ⟨j151_21, ej151_21, hf⟩ := jn_of4 hf
        have hj151_20 : ∀ (x22 : Int32) (x23 : Int32) (x24 : Int32) (S25 : MS) (H : Heap) (locs : List Loc) (ls : Array Slot), j151_21 x22 x23 x24 S25 = some (ro, So) → Rp G S25 H → va_S (gA G) s.heap H locs → Ex S S25 → lv_has ls 11 [(3, .int a3), (4, .int x22), (5, .int x23), (6, .int x24)] → W p l e rX11_best s m args below meth c H locs 0 0 (MQ below (Qn G S (some (.int ro)) So) args s 0 0 (gA G)) (F0 m 151 ls []) := by
          intro x22 x23 x24 S25 H locs ls hf hR hS hE  hl
          rw [ej151_21] at hf
          refine lv_iload hx hb dX11_best_151 (lv_at hl 2 rfl) ?_
          refine lv_if_ge (tgt := 160) hx hb dX11_best_153 (by decide) (fun hc => ?_) (fun hc => ?_)
          · replace hf := if_t hf hc
            refine lv_iload_n hx hb dX11_best_160 rfl (lv_at hl 0 rfl) ?_
            refine lv_if_ne (tgt := 169) hx hb dX11_best_161 (by decide) (fun hc => ?_) (fun hc => ?_)
            · replace hf := if_f hf hc
              refine lv_iload_n hx hb dX11_best_169 rfl (lv_at hl 0 rfl) ?_
              refine lv_iconst (v := 1) hx hb dX11_best_170 (by decide) ?_
              refine lv_icmp_ne (tgt := 179) hx hb dX11_best_171 (by decide) (fun hc => ?_) (fun hc => ?_)
              · replace hf := if_f hf hc
                refine lv_iload hx hb dX11_best_179 (lv_at hl 1 rfl) ?_
                exact r_iret hC hR hS hE hf dX11_best_181
              · replace hf := if_t hf hc
                refine lv_iload hx hb dX11_best_174 (lv_at hl 3 rfl) ?_
                refine lv_goto (tgt := 181) hx hb dX11_best_176 (by decide) ?_
                exact r_iret hC hR hS hE hf dX11_best_181
            · replace hf := if_t hf hc
              refine lv_iload hx hb dX11_best_164 (lv_at hl 2 rfl) ?_
              refine lv_goto (tgt := 181) hx hb dX11_best_166 (by decide) ?_
              exact r_iret hC hR hS hE hf dX11_best_181
          · replace hf := if_f hf hc
            refine lv_iconst (v := -1) hx hb dX11_best_156 (by decide) ?_
            refine lv_goto (tgt := 181) hx hb dX11_best_157 (by decide) ?_
            exact r_iret hC hR hS hE hf dX11_best_181
        have hh83 : ∀ k : Nat, ∀ (x28 : Int32) (x29 : Int32) (x30 : Int32) (x31 : Int32) (S32 : MS) (H : Heap) (locs : List Loc) (ls : Array Slot), f_X11_best_L51 n this a1 a2 a3 j151_21 k x28 x29 x30 x31 S32 = some (ro, So) → Rp G S32 H → va_S (gA G) s.heap H locs → Ex S S32 → Ok S32 this 11 → lv_has ls 11 [(0, .ref this), (1, .int a1), (2, .int a2), (3, .int a3), (4, .int x28), (5, .int x29), (6, .int x30), (7, .int x31)] → W p l e rX11_best s m args below meth c H locs 0 0 (MQ below (Qn G S (some (.int ro)) So) args s 0 0 (gA G)) (F0 m 51 ls []) := by
          intro k
          induction k with
          | zero =>
            intro x28 x29 x30 x31 S32 H locs ls hf hR hS hE ok_this hl
            exact absurd hf (by rw [f_X11_best_L51]; exact fun h => by cases h)
          | succ k ih =>
            intro x28 x29 x30 x31 S32 H locs ls hf hR hS hE ok_this hl
            rw [f_X11_best_L51] at hf
            obtain ⟨rec51_27, erec51_27, hf⟩ := jn_of5 hf
            have hL51_26 : ∀ (x28 : Int32) (x29 : Int32) (x30 : Int32) (x31 : Int32) (S32 : MS) (H : Heap) (locs : List Loc) (ls : Array Slot), rec51_27 x28 x29 x30 x31 S32 = some (ro, So) → Rp G S32 H → va_S (gA G) s.heap H locs → Ex S S32 → Ok S32 this 11 → lv_has ls 11 [(0, .ref this), (1, .int a1), (2, .int a2), (3, .int a3), (4, .int x28), (5, .int x29), (6, .int x30), (7, .int x31)] → W p l e rX11_best s m args below meth c H locs 0 0 (MQ below (Qn G S (some (.int ro)) So) args s 0 0 (gA G)) (F0 m 51 ls []) := by
              intro x28 x29 x30 x31 S32 H locs ls hf hR hS hE ok_this hl
              rw [erec51_27] at hf
              exact ih x28 x29 x30 x31 S32 _ _ _ hf hR hS hE ok_this hl
            refine lv_iload hx hb dX11_best_51 (lv_at hl 7 rfl) ?_
            refine lv_aload_n hx hb dX11_best_53 rfl (lv_at hl 0 rfl) ?_
            obtain ⟨q33, hq34, ok_q33, hf⟩ := gR_of hf
            refine gf_RX11_7 hC hR ok_this hq34 dX11_best_54 ?_
            refine lv_iconst (v := 1) hx hb dX11_best_57 (by decide) ?_
            obtain ⟨hi35, hf⟩ := ck_of hf
            refine r_iald hC hR ok_q33 hi35 dX11_best_58 ?_
            refine lv_icmp_ge (tgt := 151) hx hb dX11_best_59 (by decide) (fun hc => ?_) (fun hc => ?_)
            · replace hf := if_t hf hc
              exact hj151_20 x28 x29 x30 S32 _ _ _ hf hR hS hE (lv_sub hl [3, 4, 5, 6] rfl)
            · replace hf := if_f hf hc
              refine lv_iconst (v := 0) hx hb dX11_best_62 (by decide) ?_
              refine lv_istore (lv' := [(8, .int (0 : Int32)), (0, .ref this), (1, .int a1), (2, .int a2), (3, .int a3), (4, .int x28), (5, .int x29), (6, .int x30), (7, .int x31)]) hx hb dX11_best_63 hl (by decide) rfl (fun ls hl => ?_)
              obtain ⟨j145_37, ej145_37, hf⟩ := jn_of4 hf
              have hj145_36 : ∀ (x38 : Int32) (x39 : Int32) (x40 : Int32) (S41 : MS) (H : Heap) (locs : List Loc) (ls : Array Slot), j145_37 x38 x39 x40 S41 = some (ro, So) → Rp G S41 H → va_S (gA G) s.heap H locs → Ex S S41 → Ok S41 this 11 → lv_has ls 11 [(0, .ref this), (1, .int a1), (2, .int a2), (3, .int a3), (4, .int x38), (5, .int x39), (6, .int x40), (7, .int x31)] → W p l e rX11_best s m args below meth c H locs 0 0 (MQ below (Qn G S (some (.int ro)) So) args s 0 0 (gA G)) (F0 m 145 ls []) := by
                intro x38 x39 x40 S41 H locs ls hf hR hS hE ok_this hl
                rw [ej145_37] at hf
                refine r_iinc (n := 1) (z := 1) (lv' := fun x42 => [(7, .int x42), (0, .ref this), (1, .int a1), (2, .int a2), (3, .int a3), (4, .int x38), (5, .int x39), (6, .int x40)]) hx hb dX11_best_145 hl (k := 7) rfl (by decide) (by decide) (fun _ => rfl) hf (fun x42 ls hf hl => ?_)
                refine lv_goto (tgt := 51) hx hb dX11_best_148 (by decide) ?_
                exact hL51_26 x38 x39 x40 x42 S41 _ _ _ hf hR hS hE ok_this (lv_sub hl [1, 2, 3, 4, 5, 6, 7, 0] rfl)
              have hh78 : ∀ k : Nat, ∀ (x45 : Int32) (x46 : Int32) (x47 : Int32) (x48 : Int32) (S49 : MS) (H : Heap) (locs : List Loc) (ls : Array Slot), f_X11_best_L65 n this a1 a2 a3 x31 j145_37 k x45 x46 x47 x48 S49 = some (ro, So) → Rp G S49 H → va_S (gA G) s.heap H locs → Ex S S49 → Ok S49 this 11 → lv_has ls 11 [(0, .ref this), (1, .int a1), (2, .int a2), (3, .int a3), (4, .int x45), (5, .int x46), (6, .int x47), (7, .int x31), (8, .int x48)] → W p l e rX11_best s m args below meth c H locs 0 0 (MQ below (Qn G S (some (.int ro)) So) args s 0 0 (gA G)) (F0 m 65 ls []) := by
                intro k
                induction k with
                | zero =>
                  intro x45 x46 x47 x48 S49 H locs ls hf hR hS hE ok_this hl
                  exact absurd hf (by rw [f_X11_best_L65]; exact fun h => by cases h)
                | succ k ih =>
                  intro x45 x46 x47 x48 S49 H locs ls hf hR hS hE ok_this hl
                  rw [f_X11_best_L65] at hf
                  obtain ⟨rec65_44, erec65_44, hf⟩ := jn_of5 hf
                  have hL65_43 : ∀ (x45 : Int32) (x46 : Int32) (x47 : Int32) (x48 : Int32) (S49 : MS) (H : Heap) (locs : List Loc) (ls : Array Slot), rec65_44 x45 x46 x47 x48 S49 = some (ro, So) → Rp G S49 H → va_S (gA G) s.heap H locs → Ex S S49 → Ok S49 this 11 → lv_has ls 11 [(0, .ref this), (1, .int a1), (2, .int a2), (3, .int a3), (4, .int x45), (5, .int x46), (6, .int x47), (7, .int x31), (8, .int x48)] → W p l e rX11_best s m args below meth c H locs 0 0 (MQ below (Qn G S (some (.int ro)) So) args s 0 0 (gA G)) (F0 m 65 ls []) := by
                    intro x45 x46 x47 x48 S49 H locs ls hf hR hS hE ok_this hl
                    rw [erec65_44] at hf
                    exact ih x45 x46 x47 x48 S49 _ _ _ hf hR hS hE ok_this hl
                  refine lv_iload hx hb dX11_best_65 (lv_at hl 8 rfl) ?_
                  refine lv_iconst (v := 4) hx hb dX11_best_67 (by decide) ?_
                  refine lv_icmp_ge (tgt := 145) hx hb dX11_best_68 (by decide) (fun hc => ?_) (fun hc => ?_)
                  · replace hf := if_t hf hc
                    exact hj145_36 x45 x46 x47 S49 _ _ _ hf hR hS hE ok_this (lv_sub hl [0, 1, 2, 3, 4, 5, 6, 7] rfl)
                  · replace hf := if_f hf hc
                    refine lv_aload_n hx hb dX11_best_71 rfl (lv_at hl 0 rfl) ?_
                    refine lv_iload hx hb dX11_best_72 (lv_at hl 7 rfl) ?_
                    refine lv_iload hx hb dX11_best_74 (lv_at hl 8 rfl) ?_
                    obtain ⟨x53, S50, hc51, hf⟩ := cl_of hf
                    refine cl_RX11_365 (As := [.int x31, .int x48]) (rest := []) hC hR hS (c_X11_stepped l G n this x31 x48 S49 x53 S50 hc51 ok_this) ok_this rfl ⟨Nat.le_of_ble_eq_true rfl, Nat.le_of_ble_eq_true rfl⟩ hl.1 rfl (Nat.le_of_ble_eq_true rfl) dX11_best_76 (Nat.zero_le _) (Nat.zero_le _) (fun H locs hR hS hE52 => ?_)
                    have ok_this := hE52 _ _ ok_this
                    have hE := hE.tr hE52
                    refine lv_istore (lv' := [(9, .int x53), (0, .ref this), (1, .int a1), (2, .int a2), (3, .int a3), (4, .int x45), (5, .int x46), (6, .int x47), (7, .int x31), (8, .int x48)]) hx hb dX11_best_79 hl (by decide) rfl (fun ls hl => ?_)
                    refine lv_iload hx hb dX11_best_81 (lv_at hl 0 rfl) ?_
                    obtain ⟨j139_55, ej139_55, hf⟩ := jn_of4 hf
                    have hj139_54 : ∀ (x56 : Int32) (x57 : Int32) (x58 : Int32) (S59 : MS) (H : Heap) (locs : List Loc) (ls : Array Slot), j139_55 x56 x57 x58 S59 = some (ro, So) → Rp G S59 H → va_S (gA G) s.heap H locs → Ex S S59 → Ok S59 this 11 → lv_has ls 11 [(0, .ref this), (1, .int a1), (2, .int a2), (3, .int a3), (4, .int x56), (5, .int x57), (6, .int x58), (7, .int x31), (8, .int x48)] → W p l e rX11_best s m args below meth c H locs 0 0 (MQ below (Qn G S (some (.int ro)) So) args s 0 0 (gA G)) (F0 m 139 ls []) := by
                      intro x56 x57 x58 S59 H locs ls hf hR hS hE ok_this hl
                      rw [ej139_55] at hf
                      refine r_iinc (n := 1) (z := 1) (lv' := fun x60 => [(8, .int x60), (0, .ref this), (1, .int a1), (2, .int a2), (3, .int a3), (4, .int x56), (5, .int x57), (6, .int x58), (7, .int x31)]) hx hb dX11_best_139 hl (k := 8) rfl (by decide) (by decide) (fun _ => rfl) hf (fun x60 ls hf hl => ?_)
                      refine lv_goto (tgt := 65) hx hb dX11_best_142 (by decide) ?_
                      exact hL65_43 x56 x57 x58 x60 S59 _ _ _ hf hR hS hE ok_this (lv_sub hl [1, 2, 3, 4, 5, 6, 7, 8, 0] rfl)
                    refine lv_if_ge (tgt := 89) hx hb dX11_best_83 (by decide) (fun hc => ?_) (fun hc => ?_)
                    · replace hf := if_t hf hc
                      refine lv_aload_n hx hb dX11_best_89 rfl (lv_at hl 1 rfl) ?_
                      refine lv_iconst (v := 0) hx hb dX11_best_90 (by decide) ?_
                      refine lv_iconst (v := 2) hx hb dX11_best_91 (by decide) ?_
                      obtain ⟨S61, hc62, hf⟩ := cv_of hf
                      refine cl_RX11_67 (As := [.int (0 : Int32), .int (2 : Int32)]) (rest := []) hC hR hS (c_X11_copy l G n this (0 : Int32) (2 : Int32) S50 S61 hc62 ok_this) ok_this rfl ⟨Nat.le_of_ble_eq_true rfl, Nat.le_of_ble_eq_true rfl⟩ hl.1 rfl (Nat.le_of_ble_eq_true rfl) dX11_best_92 (Nat.zero_le _) (Nat.zero_le _) (fun H locs hR hS hE63 => ?_)
                      have ok_this := hE63 _ _ ok_this
                      have hE := hE.tr hE63
                      refine lv_aload_n hx hb dX11_best_95 rfl (lv_at hl 1 rfl) ?_
                      refine lv_iconst (v := 2) hx hb dX11_best_96 (by decide) ?_
                      obtain ⟨S64, hc65, hf⟩ := cv_of hf
                      refine cl_RX11_379 (As := [.int (2 : Int32)]) (rest := []) hC hR hS (c_X11_tries l G n this (2 : Int32) S61 S64 hc65 ok_this) ok_this rfl ⟨Nat.le_of_ble_eq_true rfl, Nat.le_of_ble_eq_true rfl⟩ hl.1 rfl (Nat.le_of_ble_eq_true rfl) dX11_best_97 (Nat.zero_le _) (Nat.zero_le _) (fun H locs hR hS hE66 => ?_)
                      have ok_this := hE66 _ _ ok_this
                      have hE := hE.tr hE66
                      refine lv_aload_n hx hb dX11_best_100 rfl (lv_at hl 1 rfl) ?_
                      refine lv_iload hx hb dX11_best_101 (lv_at hl 8 rfl) ?_
                      refine lv_iload hx hb dX11_best_103 (lv_at hl 0 rfl) ?_
                      obtain ⟨S67, hc68, hf⟩ := cv_of hf
                      refine cl_RX11_371 (As := [.int x31, .int x53]) (rest := []) hC hR hS (c_X11_move l G n this x31 x53 S64 S67 hc68 ok_this) ok_this rfl ⟨Nat.le_of_ble_eq_true rfl, Nat.le_of_ble_eq_true rfl⟩ hl.1 rfl (Nat.le_of_ble_eq_true rfl) dX11_best_105 (Nat.zero_le _) (Nat.zero_le _) (fun H locs hR hS hE69 => ?_)
                      have ok_this := hE69 _ _ ok_this
                      have hE := hE.tr hE69
                      refine lv_aload_n hx hb dX11_best_108 rfl (lv_at hl 1 rfl) ?_
                      refine lv_iconst (v := 2) hx hb dX11_best_109 (by decide) ?_
                      refine lv_iload_n hx hb dX11_best_110 rfl (lv_at hl 2 rfl) ?_
                      refine lv_iload_n hx hb dX11_best_111 rfl (lv_at hl 3 rfl) ?_
                      obtain ⟨x73, S70, hc71, hf⟩ := cl_of hf
                      refine cl_RX11_392 (As := [.int (2 : Int32), .int a1, .int a2]) (rest := []) hC hR hS (c_X11_meanOf l G n this (2 : Int32) a1 a2 S67 x73 S70 hc71 ok_this) ok_this rfl ⟨Nat.le_of_ble_eq_true rfl, Nat.le_of_ble_eq_true rfl⟩ hl.1 rfl (Nat.le_of_ble_eq_true rfl) dX11_best_112 (Nat.zero_le _) (Nat.zero_le _) (fun H locs hR hS hE72 => ?_)
                      have ok_this := hE72 _ _ ok_this
                      have hE := hE.tr hE72
                      refine lv_istore (lv' := [(10, .int x73), (9, .int x53), (0, .ref this), (1, .int a1), (2, .int a2), (3, .int a3), (4, .int x45), (5, .int x46), (6, .int x47), (7, .int x31), (8, .int x48)]) hx hb dX11_best_115 hl (by decide) rfl (fun ls hl => ?_)
                      refine lv_iload hx hb dX11_best_117 (lv_at hl 0 rfl) ?_
                      refine lv_iload hx hb dX11_best_119 (lv_at hl 6 rfl) ?_
                      refine lv_icmp_gt (tgt := 127) hx hb dX11_best_121 (by decide) (fun hc => ?_) (fun hc => ?_)
                      · replace hf := if_t hf hc
                        refine lv_iload hx hb dX11_best_127 (lv_at hl 0 rfl) ?_
                        refine lv_istore (lv' := [(4, .int x73), (10, .int x73), (9, .int x53), (0, .ref this), (1, .int a1), (2, .int a2), (3, .int a3), (5, .int x46), (6, .int x47), (7, .int x31), (8, .int x48)]) hx hb dX11_best_129 hl (by decide) rfl (fun ls hl => ?_)
                        refine lv_iload hx hb dX11_best_131 (lv_at hl 9 rfl) ?_
                        refine lv_istore (lv' := [(5, .int x31), (4, .int x73), (10, .int x73), (9, .int x53), (0, .ref this), (1, .int a1), (2, .int a2), (3, .int a3), (6, .int x47), (7, .int x31), (8, .int x48)]) hx hb dX11_best_133 hl (by decide) rfl (fun ls hl => ?_)
                        refine lv_iload hx hb dX11_best_135 (lv_at hl 10 rfl) ?_
                        refine lv_istore (lv' := [(6, .int x48), (5, .int x31), (4, .int x73), (10, .int x73), (9, .int x53), (0, .ref this), (1, .int a1), (2, .int a2), (3, .int a3), (7, .int x31), (8, .int x48)]) hx hb dX11_best_137 hl (by decide) rfl (fun ls hl => ?_)
                        exact hj139_54 x73 x31 x48 S70 _ _ _ hf hR hS hE ok_this (lv_sub hl [5, 6, 7, 8, 2, 1, 0, 9, 10] rfl)
                      · replace hf := if_f hf hc
                        refine lv_goto (tgt := 139) hx hb dX11_best_124 (by decide) ?_
                        exact hj139_54 x45 x46 x47 S70 _ _ _ hf hR hS hE ok_this (lv_sub hl [2, 3, 4, 5, 6, 7, 8, 9, 10] rfl)
                    · replace hf := if_f hf hc
                      refine lv_goto (tgt := 139) hx hb dX11_best_86 (by decide) ?_
                      exact hj139_54 x45 x46 x47 S50 _ _ _ hf hR hS hE ok_this (lv_sub hl [1, 2, 3, 4, 5, 6, 7, 8, 9] rfl)
              exact hh78 n x28 x29 x30 (0 : Int32) S32 _ _ _ hf hR hS hE ok_this (lv_sub hl [1, 2, 3, 4, 5, 6, 7, 8, 0] rfl)
        exact hh83 n x19 (-1 : Int32) (-1 : Int32) (0 : Int32) S16 _ _ _ hf hR hS hE ok_this (lv_sub hl [4, 5, 6, 7, 3, 2, 1, 0] rfl)
      · replace hf := if_t hf hc
        refine lv_iconst (v := -1) hx hb dX11_best_25 (by decide) ?_
        exact r_iret hC hR hS hE hf dX11_best_26
abbrev rX11_time : Room := { frames := 7, cells := 0, slots := 0, locals := 172 }
def f_X11_time_L110 (n : Nat) (this : Nat) (a3 : Int32) : Nat → Int32 → MS → Option (Int32 × MS)
  | 0, _, _ => none
  | k + 1, x30, S31 => jn (f_X11_time_L110 n this a3 k) fun rec110_29 => (if (40 : Int32) ≤ x30 then some ((-1 : Int32), S31) else (if (40 : Int32) < (x30 + a3) then some ((-1 : Int32), S31) else gR S31 (mR S31 this 35) 14 fun q32 => ck (inb x30 (mN S31 q32)) (jn (fun (S37 : MS) => bd (x30 + (1 : Int32)) fun x38 => rec110_29 x38 S37) fun j151_36 => (if (mI S31 q32 x30.toNatClampNeg) = 0 then j151_36 S31 else gR S31 (mR S31 this 35) 14 fun q39 => ck (inb (x30 + a3) (mN S31 q39)) ((if (mI S31 q39 (x30 + a3).toNatClampNeg) = 0 then j151_36 S31 else some (x30, S31)))))))
def f_X11_time_L50 (n : Nat) (this : Nat) (a1 : Int32) (a2 : Int32) (a3 : Int32) (j102_23 : MS → Option (Int32 × MS)) : Nat → Int32 → MS → Option (Int32 × MS)
  | 0, _, _ => none
  | k + 1, x46, S47 => jn (f_X11_time_L50 n this a1 a2 a3 j102_23 k) fun rec50_45 => (if (40 : Int32) < x46 then j102_23 S47 else cv (f_X11_findFields n this S47) fun S48 => gR S48 (mR S48 this 35) 14 fun q51 => cl (f_X11_has n this a1 a2 S48) fun x56 S53 => ck (inb x46 (mN S53 q51)) (zb x56 (bd (sI S53 q51 x46.toNatClampNeg x56) fun S59 => jn (fun (S63 : MS) => bd (x46 + (1 : Int32)) fun x64 => rec50_45 x64 S63) fun j96_62 => (if (40 : Int32) ≤ x46 then j96_62 S59 else gR S59 (mR S59 this 0) 12 fun q65 => ck (inb ((125 : Int32) + x46) (mN S59 q65)) (cl (f_X11_blow n this (mI S59 q65 ((125 : Int32) + x46).toNatClampNeg) S59) fun x71 S68 => j96_62 S68)))))
def f_X11_time (n : Nat) (this : Nat) (a1 : Int32) (a2 : Int32) (a3 : Int32) (S : MS) : Option (Int32 × MS) :=
  cl (f_X11_isFarmer n a1 S) fun x4 S1 => (if x4 = 0 then some ((-1 : Int32), S1) else cl (f_X11_isCell n this a2 S1) fun x8 S5 => (if x8 = 0 then some ((-1 : Int32), S5) else cl (f_X11_isIn n a3 (1 : Int32) (20 : Int32) S5) fun x12 S9 => (if x12 = 0 then some ((-1 : Int32), S9) else gR S9 (mR S9 this 0) 12 fun q13 => ck (inb (2 : Int32) (mN S9 q13)) ((if (mI S9 q13 (2 : Int32).toNatClampNeg) = 0 then some ((-1 : Int32), S9) else cv (f_X11_copy n this (0 : Int32) (2 : Int32) S9) fun S16 => cv (f_X11_tries n this (2 : Int32) S16) fun S19 => jn (fun (S24 : MS) => cv (f_X11_tries n this (0 : Int32) S24) fun S25 => f_X11_time_L110 n this a3 n (0 : Int32) S25) fun j102_23 => f_X11_time_L50 n this a1 a2 a3 j102_23 n (0 : Int32) S19)))))
set_option maxRecDepth 100000 in
set_option maxHeartbeats 4000000 in
theorem c_X11_time (l : Launch) (G : Gx) (n : Nat) (this : Nat) (a1 : Int32) (a2 : Int32) (a3 : Int32) (S : MS) (ro : Int32) (So : MS) (hf : f_X11_time n this a1 a2 a3 S = some (ro, So)) (ok_this : Ok S this 11) : Cn G l yX11_time cX11_time 5 (some .int) rX11_time [.ref this, .int a1, .int a2, .int a3] S (some (.int ro)) So := by
  refine Cn.of (by decide) (Nat.le_of_ble_eq_true rfl) ?_
  intro p e s m args below meth c hC hname hR ls hl
  have hC : Cx G RX11 cX11_time 5 (some .int) p s m args meth c := hC
  have hl : lv_has ls 5 [(0, .ref this), (1, .int a1), (2, .int a2), (3, .int a3)] := hl
  have hx := hC.x
  have hb := hC.b
  have hS : va_S (gA G) s.heap s.heap [] := va_S.rf
  have hE : Ex S S := Ex.rf S
  unfold f_X11_time at hf
  refine lv_iload_n hx hb dX11_time_0 rfl (lv_at hl 1 rfl) ?_
  obtain ⟨x4, S1, hc2, hf⟩ := cl_of hf
  refine cl_RX11_88 (As := [.int a1]) (rest := []) hC hR hS (c_X11_isFarmer l G n a1 S x4 S1 hc2 ) rfl ⟨Nat.le_of_ble_eq_true rfl, Nat.le_of_ble_eq_true rfl⟩ hl.1 rfl (Nat.le_of_ble_eq_true rfl) dX11_time_1 (Nat.zero_le _) (Nat.zero_le _) (fun H locs hR hS hE3 => ?_)
  have ok_this := hE3 _ _ ok_this
  have hE := hE.tr hE3
  refine lv_if_eq (tgt := 34) hx hb dX11_time_4 (by decide) (fun hc => ?_) (fun hc => ?_)
  · replace hf := if_t hf hc
    refine lv_iconst (v := -1) hx hb dX11_time_34 (by decide) ?_
    exact r_iret hC hR hS hE hf dX11_time_35
  · replace hf := if_f hf hc
    refine lv_aload_n hx hb dX11_time_7 rfl (lv_at hl 0 rfl) ?_
    refine lv_iload_n hx hb dX11_time_8 rfl (lv_at hl 2 rfl) ?_
    obtain ⟨x8, S5, hc6, hf⟩ := cl_of hf
    refine cl_RX11_82 (As := [.int a2]) (rest := []) hC hR hS (c_X11_isCell l G n this a2 S1 x8 S5 hc6 ok_this) ok_this rfl ⟨Nat.le_of_ble_eq_true rfl, Nat.le_of_ble_eq_true rfl⟩ hl.1 rfl (Nat.le_of_ble_eq_true rfl) dX11_time_9 (Nat.zero_le _) (Nat.zero_le _) (fun H locs hR hS hE7 => ?_)
    have ok_this := hE7 _ _ ok_this
    have hE := hE.tr hE7
    refine lv_if_eq (tgt := 34) hx hb dX11_time_12 (by decide) (fun hc => ?_) (fun hc => ?_)
    · replace hf := if_t hf hc
      refine lv_iconst (v := -1) hx hb dX11_time_34 (by decide) ?_
      exact r_iret hC hR hS hE hf dX11_time_35
    · replace hf := if_f hf hc
      refine lv_iload_n hx hb dX11_time_15 rfl (lv_at hl 3 rfl) ?_
      refine lv_iconst (v := 1) hx hb dX11_time_16 (by decide) ?_
      refine lv_bipush (v := 20) hx hb dX11_time_17 (by decide) ?_
      obtain ⟨x12, S9, hc10, hf⟩ := cl_of hf
      refine cl_RX11_71 (As := [.int a3, .int (1 : Int32), .int (20 : Int32)]) (rest := []) hC hR hS (c_X11_isIn l G n a3 (1 : Int32) (20 : Int32) S5 x12 S9 hc10 ) rfl ⟨Nat.le_of_ble_eq_true rfl, Nat.le_of_ble_eq_true rfl⟩ hl.1 rfl (Nat.le_of_ble_eq_true rfl) dX11_time_19 (Nat.zero_le _) (Nat.zero_le _) (fun H locs hR hS hE11 => ?_)
      have ok_this := hE11 _ _ ok_this
      have hE := hE.tr hE11
      refine lv_if_eq (tgt := 34) hx hb dX11_time_22 (by decide) (fun hc => ?_) (fun hc => ?_)
      · replace hf := if_t hf hc
        refine lv_iconst (v := -1) hx hb dX11_time_34 (by decide) ?_
        exact r_iret hC hR hS hE hf dX11_time_35
      · replace hf := if_f hf hc
        refine lv_aload_n hx hb dX11_time_25 rfl (lv_at hl 0 rfl) ?_
        obtain ⟨q13, hq14, ok_q13, hf⟩ := gR_of hf
        refine gf_RX11_7 hC hR ok_this hq14 dX11_time_26 ?_
        refine lv_iconst (v := 2) hx hb dX11_time_29 (by decide) ?_
        obtain ⟨hi15, hf⟩ := ck_of hf
        refine r_iald hC hR ok_q13 hi15 dX11_time_30 ?_
        refine lv_if_ne (tgt := 36) hx hb dX11_time_31 (by decide) (fun hc => ?_) (fun hc => ?_)
        · replace hf := if_f hf hc
          refine lv_aload_n hx hb dX11_time_36 rfl (lv_at hl 0 rfl) ?_
          refine lv_iconst (v := 0) hx hb dX11_time_37 (by decide) ?_
          refine lv_iconst (v := 2) hx hb dX11_time_38 (by decide) ?_
          obtain ⟨S16, hc17, hf⟩ := cv_of hf
          refine cl_RX11_67 (As := [.int (0 : Int32), .int (2 : Int32)]) (rest := []) hC hR hS (c_X11_copy l G n this (0 : Int32) (2 : Int32) S9 S16 hc17 ok_this) ok_this rfl ⟨Nat.le_of_ble_eq_true rfl, Nat.le_of_ble_eq_true rfl⟩ hl.1 rfl (Nat.le_of_ble_eq_true rfl) dX11_time_39 (Nat.zero_le _) (Nat.zero_le _) (fun H locs hR hS hE18 => ?_)
          have ok_this := hE18 _ _ ok_this
          have ok_q13 := hE18 _ _ ok_q13
          have hE := hE.tr hE18
          refine lv_aload_n hx hb dX11_time_42 rfl (lv_at hl 0 rfl) ?_
          refine lv_iconst (v := 2) hx hb dX11_time_43 (by decide) ?_
          obtain ⟨S19, hc20, hf⟩ := cv_of hf
          refine cl_RX11_379 (As := [.int (2 : Int32)]) (rest := []) hC hR hS (c_X11_tries l G n this (2 : Int32) S16 S19 hc20 ok_this) ok_this rfl ⟨Nat.le_of_ble_eq_true rfl, Nat.le_of_ble_eq_true rfl⟩ hl.1 rfl (Nat.le_of_ble_eq_true rfl) dX11_time_44 (Nat.zero_le _) (Nat.zero_le _) (fun H locs hR hS hE21 => ?_)
          have ok_this := hE21 _ _ ok_this
          have ok_q13 := hE21 _ _ ok_q13
          have hE := hE.tr hE21
          refine lv_iconst (v := 0) hx hb dX11_time_47 (by decide) ?_
          refine lv_istore (lv' := [(4, .int (0 : Int32)), (0, .ref this), (1, .int a1), (2, .int a2), (3, .int a3)]) hx hb dX11_time_48 hl (by decide) rfl (fun ls hl => ?_)
          obtain ⟨j102_23, ej102_23, hf⟩ := jn_of1 hf
          have hj102_22 : ∀ (S24 : MS) (H : Heap) (locs : List Loc) (ls : Array Slot), j102_23 S24 = some (ro, So) → Rp G S24 H → va_S (gA G) s.heap H locs → Ex S S24 → Ok S24 this 11 → lv_has ls 5 [(0, .ref this), (3, .int a3)] → W p l e rX11_time s m args below meth c H locs 0 0 (MQ below (Qn G S (some (.int ro)) So) args s 0 0 (gA G)) (F0 m 102 ls []) := by
            intro S24 H locs ls hf hR hS hE ok_this hl
            rw [ej102_23] at hf
            refine lv_aload_n hx hb dX11_time_102 rfl (lv_at hl 0 rfl) ?_
            refine lv_iconst (v := 0) hx hb dX11_time_103 (by decide) ?_
            obtain ⟨S25, hc26, hf⟩ := cv_of hf
            refine cl_RX11_379 (As := [.int (0 : Int32)]) (rest := []) hC hR hS (c_X11_tries l G n this (0 : Int32) S24 S25 hc26 ok_this) ok_this rfl ⟨Nat.le_of_ble_eq_true rfl, Nat.le_of_ble_eq_true rfl⟩ hl.1 rfl (Nat.le_of_ble_eq_true rfl) dX11_time_104 (Nat.zero_le _) (Nat.zero_le _) (fun H locs hR hS hE27 => ?_)
            have ok_this := hE27 _ _ ok_this
            have hE := hE.tr hE27
            refine lv_iconst (v := 0) hx hb dX11_time_107 (by decide) ?_
            refine lv_istore (lv' := [(4, .int (0 : Int32)), (0, .ref this), (3, .int a3)]) hx hb dX11_time_108 hl (by decide) rfl (fun ls hl => ?_)
            have hh43 : ∀ k : Nat, ∀ (x30 : Int32) (S31 : MS) (H : Heap) (locs : List Loc) (ls : Array Slot), f_X11_time_L110 n this a3 k x30 S31 = some (ro, So) → Rp G S31 H → va_S (gA G) s.heap H locs → Ex S S31 → Ok S31 this 11 → lv_has ls 5 [(0, .ref this), (3, .int a3), (4, .int x30)] → W p l e rX11_time s m args below meth c H locs 0 0 (MQ below (Qn G S (some (.int ro)) So) args s 0 0 (gA G)) (F0 m 110 ls []) := by
              intro k
              induction k with
              | zero =>
                intro x30 S31 H locs ls hf hR hS hE ok_this hl
                exact absurd hf (by rw [f_X11_time_L110]; exact fun h => by cases h)
              | succ k ih =>
                intro x30 S31 H locs ls hf hR hS hE ok_this hl
                rw [f_X11_time_L110] at hf
                obtain ⟨rec110_29, erec110_29, hf⟩ := jn_of2 hf
                have hL110_28 : ∀ (x30 : Int32) (S31 : MS) (H : Heap) (locs : List Loc) (ls : Array Slot), rec110_29 x30 S31 = some (ro, So) → Rp G S31 H → va_S (gA G) s.heap H locs → Ex S S31 → Ok S31 this 11 → lv_has ls 5 [(0, .ref this), (3, .int a3), (4, .int x30)] → W p l e rX11_time s m args below meth c H locs 0 0 (MQ below (Qn G S (some (.int ro)) So) args s 0 0 (gA G)) (F0 m 110 ls []) := by
                  intro x30 S31 H locs ls hf hR hS hE ok_this hl
                  rw [erec110_29] at hf
                  exact ih x30 S31 _ _ _ hf hR hS hE ok_this hl
                refine lv_iload hx hb dX11_time_110 (lv_at hl 2 rfl) ?_
                refine lv_bipush (v := 40) hx hb dX11_time_112 (by decide) ?_
                refine lv_icmp_ge (tgt := 157) hx hb dX11_time_114 (by decide) (fun hc => ?_) (fun hc => ?_)
                · replace hf := if_t hf hc
                  refine lv_iconst (v := -1) hx hb dX11_time_157 (by decide) ?_
                  exact r_iret hC hR hS hE hf dX11_time_158
                · replace hf := if_f hf hc
                  refine lv_iload hx hb dX11_time_117 (lv_at hl 2 rfl) ?_
                  refine lv_iload_n hx hb dX11_time_119 rfl (lv_at hl 1 rfl) ?_
                  refine lv_iadd hx hb dX11_time_120 ?_
                  refine lv_bipush (v := 40) hx hb dX11_time_121 (by decide) ?_
                  refine lv_icmp_gt (tgt := 157) hx hb dX11_time_123 (by decide) (fun hc => ?_) (fun hc => ?_)
                  · replace hf := if_t hf hc
                    refine lv_iconst (v := -1) hx hb dX11_time_157 (by decide) ?_
                    exact r_iret hC hR hS hE hf dX11_time_158
                  · replace hf := if_f hf hc
                    refine lv_aload_n hx hb dX11_time_126 rfl (lv_at hl 0 rfl) ?_
                    obtain ⟨q32, hq33, ok_q32, hf⟩ := gR_of hf
                    refine gf_RX11_55 hC hR ok_this hq33 dX11_time_127 ?_
                    refine lv_iload hx hb dX11_time_130 (lv_at hl 2 rfl) ?_
                    obtain ⟨hi34, hf⟩ := ck_of hf
                    refine r_zald hC hR ok_q32 hi34 dX11_time_132 ?_
                    obtain ⟨j151_36, ej151_36, hf⟩ := jn_of1 hf
                    have hj151_35 : ∀ (S37 : MS) (H : Heap) (locs : List Loc) (ls : Array Slot), j151_36 S37 = some (ro, So) → Rp G S37 H → va_S (gA G) s.heap H locs → Ex S S37 → Ok S37 this 11 → lv_has ls 5 [(0, .ref this), (3, .int a3), (4, .int x30)] → W p l e rX11_time s m args below meth c H locs 0 0 (MQ below (Qn G S (some (.int ro)) So) args s 0 0 (gA G)) (F0 m 151 ls []) := by
                      intro S37 H locs ls hf hR hS hE ok_this hl
                      rw [ej151_36] at hf
                      refine r_iinc (n := 1) (z := 1) (lv' := fun x38 => [(4, .int x38), (0, .ref this), (3, .int a3)]) hx hb dX11_time_151 hl (k := 2) rfl (by decide) (by decide) (fun _ => rfl) hf (fun x38 ls hf hl => ?_)
                      refine lv_goto (tgt := 110) hx hb dX11_time_154 (by decide) ?_
                      exact hL110_28 x38 S37 _ _ _ hf hR hS hE ok_this (lv_sub hl [1, 2, 0] rfl)
                    refine lv_if_eq (tgt := 151) hx hb dX11_time_133 (by decide) (fun hc => ?_) (fun hc => ?_)
                    · replace hf := if_t hf hc
                      exact hj151_35 S31 _ _ _ hf hR hS hE ok_this (lv_sub hl [0, 1, 2] rfl)
                    · replace hf := if_f hf hc
                      refine lv_aload_n hx hb dX11_time_136 rfl (lv_at hl 0 rfl) ?_
                      obtain ⟨q39, hq40, ok_q39, hf⟩ := gR_of hf
                      refine gf_RX11_55 hC hR ok_this hq40 dX11_time_137 ?_
                      refine lv_iload hx hb dX11_time_140 (lv_at hl 2 rfl) ?_
                      refine lv_iload_n hx hb dX11_time_142 rfl (lv_at hl 1 rfl) ?_
                      refine lv_iadd hx hb dX11_time_143 ?_
                      obtain ⟨hi41, hf⟩ := ck_of hf
                      refine r_zald hC hR ok_q39 hi41 dX11_time_144 ?_
                      refine lv_if_eq (tgt := 151) hx hb dX11_time_145 (by decide) (fun hc => ?_) (fun hc => ?_)
                      · replace hf := if_t hf hc
                        exact hj151_35 S31 _ _ _ hf hR hS hE ok_this (lv_sub hl [0, 1, 2] rfl)
                      · replace hf := if_f hf hc
                        refine lv_iload hx hb dX11_time_148 (lv_at hl 2 rfl) ?_
                        exact r_iret hC hR hS hE hf dX11_time_150
            exact hh43 n (0 : Int32) S25 _ _ _ hf hR hS hE ok_this (lv_sub hl [1, 2, 0] rfl)
          have hh73 : ∀ k : Nat, ∀ (x46 : Int32) (S47 : MS) (H : Heap) (locs : List Loc) (ls : Array Slot), f_X11_time_L50 n this a1 a2 a3 j102_23 k x46 S47 = some (ro, So) → Rp G S47 H → va_S (gA G) s.heap H locs → Ex S S47 → Ok S47 this 11 → lv_has ls 5 [(0, .ref this), (1, .int a1), (2, .int a2), (3, .int a3), (4, .int x46)] → W p l e rX11_time s m args below meth c H locs 0 0 (MQ below (Qn G S (some (.int ro)) So) args s 0 0 (gA G)) (F0 m 50 ls []) := by
            intro k
            induction k with
            | zero =>
              intro x46 S47 H locs ls hf hR hS hE ok_this hl
              exact absurd hf (by rw [f_X11_time_L50]; exact fun h => by cases h)
            | succ k ih =>
              intro x46 S47 H locs ls hf hR hS hE ok_this hl
              rw [f_X11_time_L50] at hf
              obtain ⟨rec50_45, erec50_45, hf⟩ := jn_of2 hf
              have hL50_44 : ∀ (x46 : Int32) (S47 : MS) (H : Heap) (locs : List Loc) (ls : Array Slot), rec50_45 x46 S47 = some (ro, So) → Rp G S47 H → va_S (gA G) s.heap H locs → Ex S S47 → Ok S47 this 11 → lv_has ls 5 [(0, .ref this), (1, .int a1), (2, .int a2), (3, .int a3), (4, .int x46)] → W p l e rX11_time s m args below meth c H locs 0 0 (MQ below (Qn G S (some (.int ro)) So) args s 0 0 (gA G)) (F0 m 50 ls []) := by
                intro x46 S47 H locs ls hf hR hS hE ok_this hl
                rw [erec50_45] at hf
                exact ih x46 S47 _ _ _ hf hR hS hE ok_this hl
              refine lv_iload hx hb dX11_time_50 (lv_at hl 4 rfl) ?_
              refine lv_bipush (v := 40) hx hb dX11_time_52 (by decide) ?_
              refine lv_icmp_gt (tgt := 102) hx hb dX11_time_54 (by decide) (fun hc => ?_) (fun hc => ?_)
              · replace hf := if_t hf hc
                exact hj102_22 S47 _ _ _ hf hR hS hE ok_this (lv_sub hl [0, 3] rfl)
              · replace hf := if_f hf hc
                refine lv_aload_n hx hb dX11_time_57 rfl (lv_at hl 0 rfl) ?_
                obtain ⟨S48, hc49, hf⟩ := cv_of hf
                refine cl_RX11_337 (As := []) (rest := []) hC hR hS (c_X11_findFields l G n this S47 S48 hc49 ok_this) ok_this rfl ⟨Nat.le_of_ble_eq_true rfl, Nat.le_of_ble_eq_true rfl⟩ hl.1 rfl (Nat.le_of_ble_eq_true rfl) dX11_time_58 (Nat.zero_le _) (Nat.zero_le _) (fun H locs hR hS hE50 => ?_)
                have ok_this := hE50 _ _ ok_this
                have hE := hE.tr hE50
                refine lv_aload_n hx hb dX11_time_61 rfl (lv_at hl 0 rfl) ?_
                obtain ⟨q51, hq52, ok_q51, hf⟩ := gR_of hf
                refine gf_RX11_55 hC hR ok_this hq52 dX11_time_62 ?_
                refine lv_iload hx hb dX11_time_65 (lv_at hl 4 rfl) ?_
                refine lv_aload_n hx hb dX11_time_67 rfl (lv_at hl 0 rfl) ?_
                refine lv_iload_n hx hb dX11_time_68 rfl (lv_at hl 1 rfl) ?_
                refine lv_iload_n hx hb dX11_time_69 rfl (lv_at hl 2 rfl) ?_
                obtain ⟨x56, S53, hc54, hf⟩ := cl_of hf
                refine cl_RX11_359 (As := [.int a1, .int a2]) (rest := [.int x46, .ref q51]) hC hR hS (c_X11_has l G n this a1 a2 S48 x56 S53 hc54 ok_this) ok_this rfl ⟨Nat.le_of_ble_eq_true rfl, Nat.le_of_ble_eq_true rfl⟩ hl.1 rfl (Nat.le_of_ble_eq_true rfl) dX11_time_70 (Nat.zero_le _) (Nat.zero_le _) (fun H locs hR hS hE55 => ?_)
                have ok_this := hE55 _ _ ok_this
                have ok_q51 := hE55 _ _ ok_q51
                have hE := hE.tr hE55
                obtain ⟨hi57, hf⟩ := ck_of hf
                obtain ⟨hz58, hf⟩ := zb_of hf
                refine rB_zast hC hR hS ok_q51 hi57 hz58 dX11_time_73 hf (fun S59 H locs hf hR hS hE60 => ?_)
                have ok_this := hE60 _ _ ok_this
                have ok_q51 := hE60 _ _ ok_q51
                have hE := hE.tr hE60
                refine lv_iload hx hb dX11_time_74 (lv_at hl 4 rfl) ?_
                refine lv_bipush (v := 40) hx hb dX11_time_76 (by decide) ?_
                obtain ⟨j96_62, ej96_62, hf⟩ := jn_of1 hf
                have hj96_61 : ∀ (S63 : MS) (H : Heap) (locs : List Loc) (ls : Array Slot), j96_62 S63 = some (ro, So) → Rp G S63 H → va_S (gA G) s.heap H locs → Ex S S63 → Ok S63 this 11 → lv_has ls 5 [(0, .ref this), (1, .int a1), (2, .int a2), (3, .int a3), (4, .int x46)] → W p l e rX11_time s m args below meth c H locs 0 0 (MQ below (Qn G S (some (.int ro)) So) args s 0 0 (gA G)) (F0 m 96 ls []) := by
                  intro S63 H locs ls hf hR hS hE ok_this hl
                  rw [ej96_62] at hf
                  refine r_iinc (n := 1) (z := 1) (lv' := fun x64 => [(4, .int x64), (0, .ref this), (1, .int a1), (2, .int a2), (3, .int a3)]) hx hb dX11_time_96 hl (k := 4) rfl (by decide) (by decide) (fun _ => rfl) hf (fun x64 ls hf hl => ?_)
                  refine lv_goto (tgt := 50) hx hb dX11_time_99 (by decide) ?_
                  exact hL50_44 x64 S63 _ _ _ hf hR hS hE ok_this (lv_sub hl [1, 2, 3, 4, 0] rfl)
                refine lv_icmp_ge (tgt := 96) hx hb dX11_time_78 (by decide) (fun hc => ?_) (fun hc => ?_)
                · replace hf := if_t hf hc
                  exact hj96_61 S59 _ _ _ hf hR hS hE ok_this (lv_sub hl [0, 1, 2, 3, 4] rfl)
                · replace hf := if_f hf hc
                  refine lv_aload_n hx hb dX11_time_81 rfl (lv_at hl 0 rfl) ?_
                  refine lv_aload_n hx hb dX11_time_82 rfl (lv_at hl 0 rfl) ?_
                  obtain ⟨q65, hq66, ok_q65, hf⟩ := gR_of hf
                  refine gf_RX11_7 hC hR ok_this hq66 dX11_time_83 ?_
                  refine lv_bipush (v := 125) hx hb dX11_time_86 (by decide) ?_
                  refine lv_iload hx hb dX11_time_88 (lv_at hl 4 rfl) ?_
                  refine lv_iadd hx hb dX11_time_90 ?_
                  obtain ⟨hi67, hf⟩ := ck_of hf
                  refine r_iald hC hR ok_q65 hi67 dX11_time_91 ?_
                  obtain ⟨x71, S68, hc69, hf⟩ := cl_of hf
                  refine cl_RX11_322 (As := [.int (mI S59 q65 ((125 : Int32) + x46).toNatClampNeg)]) (rest := []) hC hR hS (c_X11_blow l G n this (mI S59 q65 ((125 : Int32) + x46).toNatClampNeg) S59 x71 S68 hc69 ok_this) ok_this rfl ⟨Nat.le_of_ble_eq_true rfl, Nat.le_of_ble_eq_true rfl⟩ hl.1 rfl (Nat.le_of_ble_eq_true rfl) dX11_time_92 (Nat.zero_le _) (Nat.zero_le _) (fun H locs hR hS hE70 => ?_)
                  have ok_this := hE70 _ _ ok_this
                  have ok_q51 := hE70 _ _ ok_q51
                  have ok_q65 := hE70 _ _ ok_q65
                  have hE := hE.tr hE70
                  refine lv_pop hx hb dX11_time_95 rfl ?_
                  exact hj96_61 S68 _ _ _ hf hR hS hE ok_this (lv_sub hl [0, 1, 2, 3, 4] rfl)
          exact hh73 n (0 : Int32) S19 _ _ _ hf hR hS hE ok_this (lv_sub hl [1, 2, 3, 4, 0] rfl)
        · replace hf := if_t hf hc
          refine lv_iconst (v := -1) hx hb dX11_time_34 (by decide) ?_
          exact r_iret hC hR hS hE hf dX11_time_35
abbrev rX11_isKept : Room := { frames := 7, cells := 0, slots := 0, locals := 172 }
def f_X11_isKept_L3 (n : Nat) (this : Nat) (a1 : Int32) (a2 : Int32) (a3 : Int32) : Nat → Int32 → MS → Option (Int32 × MS)
  | 0, _, _ => none
  | k + 1, x3, S4 => jn (f_X11_isKept_L3 n this a1 a2 a3 k) fun rec3_2 => (if a3 ≤ x3 then zb (1 : Int32) (some ((1 : Int32), S4)) else gR S4 (mR S4 this 0) 12 fun q5 => ck (inb ((125 : Int32) + x3) (mN S4 q5)) (cl (f_X11_blow n this (mI S4 q5 ((125 : Int32) + x3).toNatClampNeg) S4) fun x11 S8 => cv (f_X11_findFields n this S8) fun S12 => cl (f_X11_has n this a1 a2 S12) fun x18 S15 => (if x18 = 0 then zb (0 : Int32) (some ((0 : Int32), S15)) else bd (x3 + (1 : Int32)) fun x19 => rec3_2 x19 S15)))
def f_X11_isKept (n : Nat) (this : Nat) (a1 : Int32) (a2 : Int32) (a3 : Int32) (S : MS) : Option (Int32 × MS) :=
  f_X11_isKept_L3 n this a1 a2 a3 n (0 : Int32) S
set_option maxRecDepth 100000 in
set_option maxHeartbeats 4000000 in
theorem c_X11_isKept (l : Launch) (G : Gx) (n : Nat) (this : Nat) (a1 : Int32) (a2 : Int32) (a3 : Int32) (S : MS) (ro : Int32) (So : MS) (hf : f_X11_isKept n this a1 a2 a3 S = some (ro, So)) (ok_this : Ok S this 11) : Cn G l yX11_isKept cX11_isKept 5 (some .boolean) rX11_isKept [.ref this, .int a1, .int a2, .int a3] S (some (.int ro)) So := by
  refine Cn.of (by decide) (Nat.le_of_ble_eq_true rfl) ?_
  intro p e s m args below meth c hC hname hR ls hl
  have hC : Cx G RX11 cX11_isKept 5 (some .boolean) p s m args meth c := hC
  have hl : lv_has ls 5 [(0, .ref this), (1, .int a1), (2, .int a2), (3, .int a3)] := hl
  have hx := hC.x
  have hb := hC.b
  have hS : va_S (gA G) s.heap s.heap [] := va_S.rf
  have hE : Ex S S := Ex.rf S
  unfold f_X11_isKept at hf
  refine lv_iconst (v := 0) hx hb dX11_isKept_0 (by decide) ?_
  refine lv_istore (lv' := [(4, .int (0 : Int32)), (0, .ref this), (1, .int a1), (2, .int a2), (3, .int a3)]) hx hb dX11_isKept_1 hl (by decide) rfl (fun ls hl => ?_)
  have hh20 : ∀ k : Nat, ∀ (x3 : Int32) (S4 : MS) (H : Heap) (locs : List Loc) (ls : Array Slot), f_X11_isKept_L3 n this a1 a2 a3 k x3 S4 = some (ro, So) → Rp G S4 H → va_S (gA G) s.heap H locs → Ex S S4 → Ok S4 this 11 → lv_has ls 5 [(0, .ref this), (1, .int a1), (2, .int a2), (3, .int a3), (4, .int x3)] → W p l e rX11_isKept s m args below meth c H locs 0 0 (MQ below (Qn G S (some (.int ro)) So) args s 0 0 (gA G)) (F0 m 3 ls []) := by
    intro k
    induction k with
    | zero =>
      intro x3 S4 H locs ls hf hR hS hE ok_this hl
      exact absurd hf (by rw [f_X11_isKept_L3]; exact fun h => by cases h)
    | succ k ih =>
      intro x3 S4 H locs ls hf hR hS hE ok_this hl
      rw [f_X11_isKept_L3] at hf
      obtain ⟨rec3_2, erec3_2, hf⟩ := jn_of2 hf
      have hL3_1 : ∀ (x3 : Int32) (S4 : MS) (H : Heap) (locs : List Loc) (ls : Array Slot), rec3_2 x3 S4 = some (ro, So) → Rp G S4 H → va_S (gA G) s.heap H locs → Ex S S4 → Ok S4 this 11 → lv_has ls 5 [(0, .ref this), (1, .int a1), (2, .int a2), (3, .int a3), (4, .int x3)] → W p l e rX11_isKept s m args below meth c H locs 0 0 (MQ below (Qn G S (some (.int ro)) So) args s 0 0 (gA G)) (F0 m 3 ls []) := by
        intro x3 S4 H locs ls hf hR hS hE ok_this hl
        rw [erec3_2] at hf
        exact ih x3 S4 _ _ _ hf hR hS hE ok_this hl
      refine lv_iload hx hb dX11_isKept_3 (lv_at hl 4 rfl) ?_
      refine lv_iload_n hx hb dX11_isKept_5 rfl (lv_at hl 3 rfl) ?_
      refine lv_icmp_ge (tgt := 45) hx hb dX11_isKept_6 (by decide) (fun hc => ?_) (fun hc => ?_)
      · replace hf := if_t hf hc
        refine lv_iconst (v := 1) hx hb dX11_isKept_45 (by decide) ?_
        exact r_zret hC hR hS hE hf dX11_isKept_46
      · replace hf := if_f hf hc
        refine lv_aload_n hx hb dX11_isKept_9 rfl (lv_at hl 0 rfl) ?_
        refine lv_aload_n hx hb dX11_isKept_10 rfl (lv_at hl 0 rfl) ?_
        obtain ⟨q5, hq6, ok_q5, hf⟩ := gR_of hf
        refine gf_RX11_7 hC hR ok_this hq6 dX11_isKept_11 ?_
        refine lv_bipush (v := 125) hx hb dX11_isKept_14 (by decide) ?_
        refine lv_iload hx hb dX11_isKept_16 (lv_at hl 4 rfl) ?_
        refine lv_iadd hx hb dX11_isKept_18 ?_
        obtain ⟨hi7, hf⟩ := ck_of hf
        refine r_iald hC hR ok_q5 hi7 dX11_isKept_19 ?_
        obtain ⟨x11, S8, hc9, hf⟩ := cl_of hf
        refine cl_RX11_322 (As := [.int (mI S4 q5 ((125 : Int32) + x3).toNatClampNeg)]) (rest := []) hC hR hS (c_X11_blow l G n this (mI S4 q5 ((125 : Int32) + x3).toNatClampNeg) S4 x11 S8 hc9 ok_this) ok_this rfl ⟨Nat.le_of_ble_eq_true rfl, Nat.le_of_ble_eq_true rfl⟩ hl.1 rfl (Nat.le_of_ble_eq_true rfl) dX11_isKept_20 (Nat.zero_le _) (Nat.zero_le _) (fun H locs hR hS hE10 => ?_)
        have ok_this := hE10 _ _ ok_this
        have ok_q5 := hE10 _ _ ok_q5
        have hE := hE.tr hE10
        refine lv_pop hx hb dX11_isKept_23 rfl ?_
        refine lv_aload_n hx hb dX11_isKept_24 rfl (lv_at hl 0 rfl) ?_
        obtain ⟨S12, hc13, hf⟩ := cv_of hf
        refine cl_RX11_337 (As := []) (rest := []) hC hR hS (c_X11_findFields l G n this S8 S12 hc13 ok_this) ok_this rfl ⟨Nat.le_of_ble_eq_true rfl, Nat.le_of_ble_eq_true rfl⟩ hl.1 rfl (Nat.le_of_ble_eq_true rfl) dX11_isKept_25 (Nat.zero_le _) (Nat.zero_le _) (fun H locs hR hS hE14 => ?_)
        have ok_this := hE14 _ _ ok_this
        have ok_q5 := hE14 _ _ ok_q5
        have hE := hE.tr hE14
        refine lv_aload_n hx hb dX11_isKept_28 rfl (lv_at hl 0 rfl) ?_
        refine lv_iload_n hx hb dX11_isKept_29 rfl (lv_at hl 1 rfl) ?_
        refine lv_iload_n hx hb dX11_isKept_30 rfl (lv_at hl 2 rfl) ?_
        obtain ⟨x18, S15, hc16, hf⟩ := cl_of hf
        refine cl_RX11_359 (As := [.int a1, .int a2]) (rest := []) hC hR hS (c_X11_has l G n this a1 a2 S12 x18 S15 hc16 ok_this) ok_this rfl ⟨Nat.le_of_ble_eq_true rfl, Nat.le_of_ble_eq_true rfl⟩ hl.1 rfl (Nat.le_of_ble_eq_true rfl) dX11_isKept_31 (Nat.zero_le _) (Nat.zero_le _) (fun H locs hR hS hE17 => ?_)
        have ok_this := hE17 _ _ ok_this
        have ok_q5 := hE17 _ _ ok_q5
        have hE := hE.tr hE17
        refine lv_if_ne (tgt := 39) hx hb dX11_isKept_34 (by decide) (fun hc => ?_) (fun hc => ?_)
        · replace hf := if_f hf hc
          refine r_iinc (n := 1) (z := 1) (lv' := fun x19 => [(4, .int x19), (0, .ref this), (1, .int a1), (2, .int a2), (3, .int a3)]) hx hb dX11_isKept_39 hl (k := 4) rfl (by decide) (by decide) (fun _ => rfl) hf (fun x19 ls hf hl => ?_)
          refine lv_goto (tgt := 3) hx hb dX11_isKept_42 (by decide) ?_
          exact hL3_1 x19 S15 _ _ _ hf hR hS hE ok_this (lv_sub hl [1, 2, 3, 4, 0] rfl)
        · replace hf := if_t hf hc
          refine lv_iconst (v := 0) hx hb dX11_isKept_37 (by decide) ?_
          exact r_zret hC hR hS hE hf dX11_isKept_38
  exact hh20 n (0 : Int32) S _ _ _ hf hR hS hE ok_this (lv_sub hl [1, 2, 3, 4, 0] rfl)
abbrev rX11_keeps : Room := { frames := 8, cells := 0, slots := 0, locals := 196 }
def f_X11_keeps_L51 (n : Nat) (this : Nat) (a1 : Int32) (a2 : Int32) (a3 : Int32) (a4 : Int32) : Nat → Int32 → Int32 → MS → Option (Int32 × MS)
  | 0, _, _, _ => none
  | k + 1, x22, x23, S24 => jn (f_X11_keeps_L51 n this a1 a2 a3 a4 k) fun rec51_21 => gR S24 (mR S24 this 0) 12 fun q25 => ck (inb (((10 : Int32) + ((3 : Int32) * a3)) + (1 : Int32)) (mN S24 q25)) ((if (99 : Int32) < ((mI S24 q25 (((10 : Int32) + ((3 : Int32) * a3)) + (1 : Int32)).toNatClampNeg) + x23) then cv (f_X11_tries n this (0 : Int32) S24) fun S28 => some (x22, S28) else (if 0 ≤ x22 then cv (f_X11_tries n this (0 : Int32) S24) fun S31 => some (x22, S31) else cv (f_X11_copy n this (0 : Int32) (2 : Int32) S24) fun S34 => cv (f_X11_tries n this (2 : Int32) S34) fun S37 => gR S37 (mR S37 this 0) 12 fun q40 => ck (inb ((((mI S37 this 4) + (10 : Int32)) + ((3 : Int32) * a3)) + (1 : Int32)) (mN S37 q40)) (ck (inb ((((mI S37 this 4) + (10 : Int32)) + ((3 : Int32) * a3)) + (1 : Int32)) (mN S37 q40)) (bd (sI S37 q40 ((((mI S37 this 4) + (10 : Int32)) + ((3 : Int32) * a3)) + (1 : Int32)).toNatClampNeg ((mI S37 q40 ((((mI S37 this 4) + (10 : Int32)) + ((3 : Int32) * a3)) + (1 : Int32)).toNatClampNeg) + x23)) fun S44 => cl (f_X11_isKept n this a1 a2 a4 S44) fun x49 S46 => jn (fun (x52 : Int32) (S53 : MS) => bd (x23 + (1 : Int32)) fun x54 => rec51_21 x52 x54 S53) fun j126_51 => (if x49 = 0 then j126_51 x22 S46 else j126_51 x23 S46))))))
def f_X11_keeps (n : Nat) (this : Nat) (a1 : Int32) (a2 : Int32) (a3 : Int32) (a4 : Int32) (S : MS) : Option (Int32 × MS) :=
  cl (f_X11_isFarmer n a1 S) fun x4 S1 => (if x4 = 0 then some ((-1 : Int32), S1) else cl (f_X11_isCell n this a2 S1) fun x8 S5 => (if x8 = 0 then some ((-1 : Int32), S5) else cl (f_X11_isBone n this a3 S5) fun x12 S9 => (if x12 = 0 then some ((-1 : Int32), S9) else cl (f_X11_isIn n a4 (1 : Int32) (40 : Int32) S9) fun x16 S13 => (if x16 = 0 then some ((-1 : Int32), S13) else gR S13 (mR S13 this 0) 12 fun q17 => ck (inb (2 : Int32) (mN S13 q17)) ((if (mI S13 q17 (2 : Int32).toNatClampNeg) = 0 then some ((-1 : Int32), S13) else f_X11_keeps_L51 n this a1 a2 a3 a4 n (-1 : Int32) (0 : Int32) S13))))))
set_option maxRecDepth 100000 in
set_option maxHeartbeats 4000000 in
theorem c_X11_keeps (l : Launch) (G : Gx) (n : Nat) (this : Nat) (a1 : Int32) (a2 : Int32) (a3 : Int32) (a4 : Int32) (S : MS) (ro : Int32) (So : MS) (hf : f_X11_keeps n this a1 a2 a3 a4 S = some (ro, So)) (ok_this : Ok S this 11) : Cn G l yX11_keeps cX11_keeps 7 (some .int) rX11_keeps [.ref this, .int a1, .int a2, .int a3, .int a4] S (some (.int ro)) So := by
  refine Cn.of (by decide) (Nat.le_of_ble_eq_true rfl) ?_
  intro p e s m args below meth c hC hname hR ls hl
  have hC : Cx G RX11 cX11_keeps 7 (some .int) p s m args meth c := hC
  have hl : lv_has ls 7 [(0, .ref this), (1, .int a1), (2, .int a2), (3, .int a3), (4, .int a4)] := hl
  have hx := hC.x
  have hb := hC.b
  have hS : va_S (gA G) s.heap s.heap [] := va_S.rf
  have hE : Ex S S := Ex.rf S
  unfold f_X11_keeps at hf
  refine lv_iload_n hx hb dX11_keeps_0 rfl (lv_at hl 1 rfl) ?_
  obtain ⟨x4, S1, hc2, hf⟩ := cl_of hf
  refine cl_RX11_88 (As := [.int a1]) (rest := []) hC hR hS (c_X11_isFarmer l G n a1 S x4 S1 hc2 ) rfl ⟨Nat.le_of_ble_eq_true rfl, Nat.le_of_ble_eq_true rfl⟩ hl.1 rfl (Nat.le_of_ble_eq_true rfl) dX11_keeps_1 (Nat.zero_le _) (Nat.zero_le _) (fun H locs hR hS hE3 => ?_)
  have ok_this := hE3 _ _ ok_this
  have hE := hE.tr hE3
  refine lv_if_eq (tgt := 43) hx hb dX11_keeps_4 (by decide) (fun hc => ?_) (fun hc => ?_)
  · replace hf := if_t hf hc
    refine lv_iconst (v := -1) hx hb dX11_keeps_43 (by decide) ?_
    exact r_iret hC hR hS hE hf dX11_keeps_44
  · replace hf := if_f hf hc
    refine lv_aload_n hx hb dX11_keeps_7 rfl (lv_at hl 0 rfl) ?_
    refine lv_iload_n hx hb dX11_keeps_8 rfl (lv_at hl 2 rfl) ?_
    obtain ⟨x8, S5, hc6, hf⟩ := cl_of hf
    refine cl_RX11_82 (As := [.int a2]) (rest := []) hC hR hS (c_X11_isCell l G n this a2 S1 x8 S5 hc6 ok_this) ok_this rfl ⟨Nat.le_of_ble_eq_true rfl, Nat.le_of_ble_eq_true rfl⟩ hl.1 rfl (Nat.le_of_ble_eq_true rfl) dX11_keeps_9 (Nat.zero_le _) (Nat.zero_le _) (fun H locs hR hS hE7 => ?_)
    have ok_this := hE7 _ _ ok_this
    have hE := hE.tr hE7
    refine lv_if_eq (tgt := 43) hx hb dX11_keeps_12 (by decide) (fun hc => ?_) (fun hc => ?_)
    · replace hf := if_t hf hc
      refine lv_iconst (v := -1) hx hb dX11_keeps_43 (by decide) ?_
      exact r_iret hC hR hS hE hf dX11_keeps_44
    · replace hf := if_f hf hc
      refine lv_aload_n hx hb dX11_keeps_15 rfl (lv_at hl 0 rfl) ?_
      refine lv_iload_n hx hb dX11_keeps_16 rfl (lv_at hl 3 rfl) ?_
      obtain ⟨x12, S9, hc10, hf⟩ := cl_of hf
      refine cl_RX11_340 (As := [.int a3]) (rest := []) hC hR hS (c_X11_isBone l G n this a3 S5 x12 S9 hc10 ok_this) ok_this rfl ⟨Nat.le_of_ble_eq_true rfl, Nat.le_of_ble_eq_true rfl⟩ hl.1 rfl (Nat.le_of_ble_eq_true rfl) dX11_keeps_17 (Nat.zero_le _) (Nat.zero_le _) (fun H locs hR hS hE11 => ?_)
      have ok_this := hE11 _ _ ok_this
      have hE := hE.tr hE11
      refine lv_if_eq (tgt := 43) hx hb dX11_keeps_20 (by decide) (fun hc => ?_) (fun hc => ?_)
      · replace hf := if_t hf hc
        refine lv_iconst (v := -1) hx hb dX11_keeps_43 (by decide) ?_
        exact r_iret hC hR hS hE hf dX11_keeps_44
      · replace hf := if_f hf hc
        refine lv_iload hx hb dX11_keeps_23 (lv_at hl 4 rfl) ?_
        refine lv_iconst (v := 1) hx hb dX11_keeps_25 (by decide) ?_
        refine lv_bipush (v := 40) hx hb dX11_keeps_26 (by decide) ?_
        obtain ⟨x16, S13, hc14, hf⟩ := cl_of hf
        refine cl_RX11_71 (As := [.int a4, .int (1 : Int32), .int (40 : Int32)]) (rest := []) hC hR hS (c_X11_isIn l G n a4 (1 : Int32) (40 : Int32) S9 x16 S13 hc14 ) rfl ⟨Nat.le_of_ble_eq_true rfl, Nat.le_of_ble_eq_true rfl⟩ hl.1 rfl (Nat.le_of_ble_eq_true rfl) dX11_keeps_28 (Nat.zero_le _) (Nat.zero_le _) (fun H locs hR hS hE15 => ?_)
        have ok_this := hE15 _ _ ok_this
        have hE := hE.tr hE15
        refine lv_if_eq (tgt := 43) hx hb dX11_keeps_31 (by decide) (fun hc => ?_) (fun hc => ?_)
        · replace hf := if_t hf hc
          refine lv_iconst (v := -1) hx hb dX11_keeps_43 (by decide) ?_
          exact r_iret hC hR hS hE hf dX11_keeps_44
        · replace hf := if_f hf hc
          refine lv_aload_n hx hb dX11_keeps_34 rfl (lv_at hl 0 rfl) ?_
          obtain ⟨q17, hq18, ok_q17, hf⟩ := gR_of hf
          refine gf_RX11_7 hC hR ok_this hq18 dX11_keeps_35 ?_
          refine lv_iconst (v := 2) hx hb dX11_keeps_38 (by decide) ?_
          obtain ⟨hi19, hf⟩ := ck_of hf
          refine r_iald hC hR ok_q17 hi19 dX11_keeps_39 ?_
          refine lv_if_ne (tgt := 45) hx hb dX11_keeps_40 (by decide) (fun hc => ?_) (fun hc => ?_)
          · replace hf := if_f hf hc
            refine lv_iconst (v := -1) hx hb dX11_keeps_45 (by decide) ?_
            refine lv_istore (lv' := [(5, .int (-1 : Int32)), (0, .ref this), (1, .int a1), (2, .int a2), (3, .int a3), (4, .int a4)]) hx hb dX11_keeps_46 hl (by decide) rfl (fun ls hl => ?_)
            refine lv_iconst (v := 0) hx hb dX11_keeps_48 (by decide) ?_
            refine lv_istore (lv' := [(6, .int (0 : Int32)), (5, .int (-1 : Int32)), (0, .ref this), (1, .int a1), (2, .int a2), (3, .int a3), (4, .int a4)]) hx hb dX11_keeps_49 hl (by decide) rfl (fun ls hl => ?_)
            have hh57 : ∀ k : Nat, ∀ (x22 : Int32) (x23 : Int32) (S24 : MS) (H : Heap) (locs : List Loc) (ls : Array Slot), f_X11_keeps_L51 n this a1 a2 a3 a4 k x22 x23 S24 = some (ro, So) → Rp G S24 H → va_S (gA G) s.heap H locs → Ex S S24 → Ok S24 this 11 → lv_has ls 7 [(0, .ref this), (1, .int a1), (2, .int a2), (3, .int a3), (4, .int a4), (5, .int x22), (6, .int x23)] → W p l e rX11_keeps s m args below meth c H locs 0 0 (MQ below (Qn G S (some (.int ro)) So) args s 0 0 (gA G)) (F0 m 51 ls []) := by
              intro k
              induction k with
              | zero =>
                intro x22 x23 S24 H locs ls hf hR hS hE ok_this hl
                exact absurd hf (by rw [f_X11_keeps_L51]; exact fun h => by cases h)
              | succ k ih =>
                intro x22 x23 S24 H locs ls hf hR hS hE ok_this hl
                rw [f_X11_keeps_L51] at hf
                obtain ⟨rec51_21, erec51_21, hf⟩ := jn_of3 hf
                have hL51_20 : ∀ (x22 : Int32) (x23 : Int32) (S24 : MS) (H : Heap) (locs : List Loc) (ls : Array Slot), rec51_21 x22 x23 S24 = some (ro, So) → Rp G S24 H → va_S (gA G) s.heap H locs → Ex S S24 → Ok S24 this 11 → lv_has ls 7 [(0, .ref this), (1, .int a1), (2, .int a2), (3, .int a3), (4, .int a4), (5, .int x22), (6, .int x23)] → W p l e rX11_keeps s m args below meth c H locs 0 0 (MQ below (Qn G S (some (.int ro)) So) args s 0 0 (gA G)) (F0 m 51 ls []) := by
                  intro x22 x23 S24 H locs ls hf hR hS hE ok_this hl
                  rw [erec51_21] at hf
                  exact ih x22 x23 S24 _ _ _ hf hR hS hE ok_this hl
                refine lv_aload_n hx hb dX11_keeps_51 rfl (lv_at hl 0 rfl) ?_
                obtain ⟨q25, hq26, ok_q25, hf⟩ := gR_of hf
                refine gf_RX11_7 hC hR ok_this hq26 dX11_keeps_52 ?_
                refine lv_bipush (v := 10) hx hb dX11_keeps_55 (by decide) ?_
                refine lv_iconst (v := 3) hx hb dX11_keeps_57 (by decide) ?_
                refine lv_iload_n hx hb dX11_keeps_58 rfl (lv_at hl 3 rfl) ?_
                refine lv_imul hx hb dX11_keeps_59 ?_
                refine lv_iadd hx hb dX11_keeps_60 ?_
                refine lv_iconst (v := 1) hx hb dX11_keeps_61 (by decide) ?_
                refine lv_iadd hx hb dX11_keeps_62 ?_
                obtain ⟨hi27, hf⟩ := ck_of hf
                refine r_iald hC hR ok_q25 hi27 dX11_keeps_63 ?_
                refine lv_iload hx hb dX11_keeps_64 (lv_at hl 6 rfl) ?_
                refine lv_iadd hx hb dX11_keeps_66 ?_
                refine lv_bipush (v := 99) hx hb dX11_keeps_67 (by decide) ?_
                refine lv_icmp_gt (tgt := 132) hx hb dX11_keeps_69 (by decide) (fun hc => ?_) (fun hc => ?_)
                · replace hf := if_t hf hc
                  refine lv_aload_n hx hb dX11_keeps_132 rfl (lv_at hl 0 rfl) ?_
                  refine lv_iconst (v := 0) hx hb dX11_keeps_133 (by decide) ?_
                  obtain ⟨S28, hc29, hf⟩ := cv_of hf
                  refine cl_RX11_379 (As := [.int (0 : Int32)]) (rest := []) hC hR hS (c_X11_tries l G n this (0 : Int32) S24 S28 hc29 ok_this) ok_this rfl ⟨Nat.le_of_ble_eq_true rfl, Nat.le_of_ble_eq_true rfl⟩ hl.1 rfl (Nat.le_of_ble_eq_true rfl) dX11_keeps_134 (Nat.zero_le _) (Nat.zero_le _) (fun H locs hR hS hE30 => ?_)
                  have ok_this := hE30 _ _ ok_this
                  have ok_q25 := hE30 _ _ ok_q25
                  have hE := hE.tr hE30
                  refine lv_iload hx hb dX11_keeps_137 (lv_at hl 5 rfl) ?_
                  exact r_iret hC hR hS hE hf dX11_keeps_139
                · replace hf := if_f hf hc
                  refine lv_iload hx hb dX11_keeps_72 (lv_at hl 5 rfl) ?_
                  refine lv_if_ge (tgt := 132) hx hb dX11_keeps_74 (by decide) (fun hc => ?_) (fun hc => ?_)
                  · replace hf := if_t hf hc
                    refine lv_aload_n hx hb dX11_keeps_132 rfl (lv_at hl 0 rfl) ?_
                    refine lv_iconst (v := 0) hx hb dX11_keeps_133 (by decide) ?_
                    obtain ⟨S31, hc32, hf⟩ := cv_of hf
                    refine cl_RX11_379 (As := [.int (0 : Int32)]) (rest := []) hC hR hS (c_X11_tries l G n this (0 : Int32) S24 S31 hc32 ok_this) ok_this rfl ⟨Nat.le_of_ble_eq_true rfl, Nat.le_of_ble_eq_true rfl⟩ hl.1 rfl (Nat.le_of_ble_eq_true rfl) dX11_keeps_134 (Nat.zero_le _) (Nat.zero_le _) (fun H locs hR hS hE33 => ?_)
                    have ok_this := hE33 _ _ ok_this
                    have ok_q25 := hE33 _ _ ok_q25
                    have hE := hE.tr hE33
                    refine lv_iload hx hb dX11_keeps_137 (lv_at hl 5 rfl) ?_
                    exact r_iret hC hR hS hE hf dX11_keeps_139
                  · replace hf := if_f hf hc
                    refine lv_aload_n hx hb dX11_keeps_77 rfl (lv_at hl 0 rfl) ?_
                    refine lv_iconst (v := 0) hx hb dX11_keeps_78 (by decide) ?_
                    refine lv_iconst (v := 2) hx hb dX11_keeps_79 (by decide) ?_
                    obtain ⟨S34, hc35, hf⟩ := cv_of hf
                    refine cl_RX11_67 (As := [.int (0 : Int32), .int (2 : Int32)]) (rest := []) hC hR hS (c_X11_copy l G n this (0 : Int32) (2 : Int32) S24 S34 hc35 ok_this) ok_this rfl ⟨Nat.le_of_ble_eq_true rfl, Nat.le_of_ble_eq_true rfl⟩ hl.1 rfl (Nat.le_of_ble_eq_true rfl) dX11_keeps_80 (Nat.zero_le _) (Nat.zero_le _) (fun H locs hR hS hE36 => ?_)
                    have ok_this := hE36 _ _ ok_this
                    have ok_q25 := hE36 _ _ ok_q25
                    have hE := hE.tr hE36
                    refine lv_aload_n hx hb dX11_keeps_83 rfl (lv_at hl 0 rfl) ?_
                    refine lv_iconst (v := 2) hx hb dX11_keeps_84 (by decide) ?_
                    obtain ⟨S37, hc38, hf⟩ := cv_of hf
                    refine cl_RX11_379 (As := [.int (2 : Int32)]) (rest := []) hC hR hS (c_X11_tries l G n this (2 : Int32) S34 S37 hc38 ok_this) ok_this rfl ⟨Nat.le_of_ble_eq_true rfl, Nat.le_of_ble_eq_true rfl⟩ hl.1 rfl (Nat.le_of_ble_eq_true rfl) dX11_keeps_85 (Nat.zero_le _) (Nat.zero_le _) (fun H locs hR hS hE39 => ?_)
                    have ok_this := hE39 _ _ ok_this
                    have ok_q25 := hE39 _ _ ok_q25
                    have hE := hE.tr hE39
                    refine lv_aload_n hx hb dX11_keeps_88 rfl (lv_at hl 0 rfl) ?_
                    obtain ⟨q40, hq41, ok_q40, hf⟩ := gR_of hf
                    refine gf_RX11_7 hC hR ok_this hq41 dX11_keeps_89 ?_
                    refine lv_aload_n hx hb dX11_keeps_92 rfl (lv_at hl 0 rfl) ?_
                    refine gf_RX11_75 hC hR ok_this dX11_keeps_93 ?_
                    refine lv_bipush (v := 10) hx hb dX11_keeps_96 (by decide) ?_
                    refine lv_iadd hx hb dX11_keeps_98 ?_
                    refine lv_iconst (v := 3) hx hb dX11_keeps_99 (by decide) ?_
                    refine lv_iload_n hx hb dX11_keeps_100 rfl (lv_at hl 3 rfl) ?_
                    refine lv_imul hx hb dX11_keeps_101 ?_
                    refine lv_iadd hx hb dX11_keeps_102 ?_
                    refine lv_iconst (v := 1) hx hb dX11_keeps_103 (by decide) ?_
                    refine lv_iadd hx hb dX11_keeps_104 ?_
                    refine lv_dup2_11 hx hb dX11_keeps_105 rfl rfl ?_
                    obtain ⟨hi42, hf⟩ := ck_of hf
                    refine r_iald hC hR ok_q40 hi42 dX11_keeps_106 ?_
                    refine lv_iload hx hb dX11_keeps_107 (lv_at hl 6 rfl) ?_
                    refine lv_iadd hx hb dX11_keeps_109 ?_
                    obtain ⟨hi43, hf⟩ := ck_of hf
                    refine rB_iast hC hR hS ok_q40 hi43 dX11_keeps_110 hf (fun S44 H locs hf hR hS hE45 => ?_)
                    have ok_this := hE45 _ _ ok_this
                    have ok_q25 := hE45 _ _ ok_q25
                    have ok_q40 := hE45 _ _ ok_q40
                    have hE := hE.tr hE45
                    refine lv_aload_n hx hb dX11_keeps_111 rfl (lv_at hl 0 rfl) ?_
                    refine lv_iload_n hx hb dX11_keeps_112 rfl (lv_at hl 1 rfl) ?_
                    refine lv_iload_n hx hb dX11_keeps_113 rfl (lv_at hl 2 rfl) ?_
                    refine lv_iload hx hb dX11_keeps_114 (lv_at hl 4 rfl) ?_
                    obtain ⟨x49, S46, hc47, hf⟩ := cl_of hf
                    refine cl_RX11_395 (As := [.int a1, .int a2, .int a4]) (rest := []) hC hR hS (c_X11_isKept l G n this a1 a2 a4 S44 x49 S46 hc47 ok_this) ok_this rfl ⟨Nat.le_of_ble_eq_true rfl, Nat.le_of_ble_eq_true rfl⟩ hl.1 rfl (Nat.le_of_ble_eq_true rfl) dX11_keeps_116 (Nat.zero_le _) (Nat.zero_le _) (fun H locs hR hS hE48 => ?_)
                    have ok_this := hE48 _ _ ok_this
                    have ok_q25 := hE48 _ _ ok_q25
                    have ok_q40 := hE48 _ _ ok_q40
                    have hE := hE.tr hE48
                    obtain ⟨j126_51, ej126_51, hf⟩ := jn_of2 hf
                    have hj126_50 : ∀ (x52 : Int32) (S53 : MS) (H : Heap) (locs : List Loc) (ls : Array Slot), j126_51 x52 S53 = some (ro, So) → Rp G S53 H → va_S (gA G) s.heap H locs → Ex S S53 → Ok S53 this 11 → lv_has ls 7 [(0, .ref this), (1, .int a1), (2, .int a2), (3, .int a3), (4, .int a4), (5, .int x52), (6, .int x23)] → W p l e rX11_keeps s m args below meth c H locs 0 0 (MQ below (Qn G S (some (.int ro)) So) args s 0 0 (gA G)) (F0 m 126 ls []) := by
                      intro x52 S53 H locs ls hf hR hS hE ok_this hl
                      rw [ej126_51] at hf
                      refine r_iinc (n := 1) (z := 1) (lv' := fun x54 => [(6, .int x54), (0, .ref this), (1, .int a1), (2, .int a2), (3, .int a3), (4, .int a4), (5, .int x52)]) hx hb dX11_keeps_126 hl (k := 6) rfl (by decide) (by decide) (fun _ => rfl) hf (fun x54 ls hf hl => ?_)
                      refine lv_goto (tgt := 51) hx hb dX11_keeps_129 (by decide) ?_
                      exact hL51_20 x52 x54 S53 _ _ _ hf hR hS hE ok_this (lv_sub hl [1, 2, 3, 4, 5, 6, 0] rfl)
                    refine lv_if_eq (tgt := 126) hx hb dX11_keeps_119 (by decide) (fun hc => ?_) (fun hc => ?_)
                    · replace hf := if_t hf hc
                      exact hj126_50 x22 S46 _ _ _ hf hR hS hE ok_this (lv_sub hl [0, 1, 2, 3, 4, 5, 6] rfl)
                    · replace hf := if_f hf hc
                      refine lv_iload hx hb dX11_keeps_122 (lv_at hl 6 rfl) ?_
                      refine lv_istore (lv' := [(5, .int x23), (0, .ref this), (1, .int a1), (2, .int a2), (3, .int a3), (4, .int a4), (6, .int x23)]) hx hb dX11_keeps_124 hl (by decide) rfl (fun ls hl => ?_)
                      exact hj126_50 x23 S46 _ _ _ hf hR hS hE ok_this (lv_sub hl [1, 2, 3, 4, 5, 0, 6] rfl)
            exact hh57 n (-1 : Int32) (0 : Int32) S13 _ _ _ hf hR hS hE ok_this (lv_sub hl [2, 3, 4, 5, 6, 1, 0] rfl)
          · replace hf := if_t hf hc
            refine lv_iconst (v := -1) hx hb dX11_keeps_43 (by decide) ?_
            exact r_iret hC hR hS hE hf dX11_keeps_44
abbrev rX11_calm : Room := { frames := 7, cells := 0, slots := 0, locals := 172 }
def f_X11_calm_L24 (n : Nat) (this : Nat) : Nat → Int32 → MS → Option (Int32 × MS)
  | 0, _, _ => none
  | k + 1, x12, S13 => jn (f_X11_calm_L24 n this k) fun rec24_11 => (if (40 : Int32) ≤ x12 then cv (f_X11_tries n this (0 : Int32) S13) fun S14 => some (x12, S14) else gR S13 (mR S13 this 0) 12 fun q17 => ck (inb ((125 : Int32) + x12) (mN S13 q17)) (cl (f_X11_blow n this (mI S13 q17 ((125 : Int32) + x12).toNatClampNeg) S13) fun x23 S20 => (if x23 = 0 then bd (x12 + (1 : Int32)) fun x27 => rec24_11 x27 S20 else cv (f_X11_tries n this (0 : Int32) S20) fun S24 => some (x12, S24))))
def f_X11_calm (n : Nat) (this : Nat) (S : MS) : Option (Int32 × MS) :=
  gR S (mR S this 0) 12 fun q1 => ck (inb (2 : Int32) (mN S q1)) ((if (mI S q1 (2 : Int32).toNatClampNeg) = 0 then some ((-1 : Int32), S) else cv (f_X11_copy n this (0 : Int32) (2 : Int32) S) fun S4 => cv (f_X11_tries n this (2 : Int32) S4) fun S7 => f_X11_calm_L24 n this n (0 : Int32) S7))
set_option maxRecDepth 100000 in
set_option maxHeartbeats 4000000 in
theorem c_X11_calm (l : Launch) (G : Gx) (n : Nat) (this : Nat) (S : MS) (ro : Int32) (So : MS) (hf : f_X11_calm n this S = some (ro, So)) (ok_this : Ok S this 11) : Cn G l yX11_calm cX11_calm 2 (some .int) rX11_calm [.ref this] S (some (.int ro)) So := by
  refine Cn.of (by decide) (Nat.le_of_ble_eq_true rfl) ?_
  intro p e s m args below meth c hC hname hR ls hl
  have hC : Cx G RX11 cX11_calm 2 (some .int) p s m args meth c := hC
  have hl : lv_has ls 2 [(0, .ref this)] := hl
  have hx := hC.x
  have hb := hC.b
  have hS : va_S (gA G) s.heap s.heap [] := va_S.rf
  have hE : Ex S S := Ex.rf S
  unfold f_X11_calm at hf
  refine lv_aload_n hx hb dX11_calm_0 rfl (lv_at hl 0 rfl) ?_
  obtain ⟨q1, hq2, ok_q1, hf⟩ := gR_of hf
  refine gf_RX11_7 hC hR ok_this hq2 dX11_calm_1 ?_
  refine lv_iconst (v := 2) hx hb dX11_calm_4 (by decide) ?_
  obtain ⟨hi3, hf⟩ := ck_of hf
  refine r_iald hC hR ok_q1 hi3 dX11_calm_5 ?_
  refine lv_if_ne (tgt := 11) hx hb dX11_calm_6 (by decide) (fun hc => ?_) (fun hc => ?_)
  · replace hf := if_f hf hc
    refine lv_aload_n hx hb dX11_calm_11 rfl (lv_at hl 0 rfl) ?_
    refine lv_iconst (v := 0) hx hb dX11_calm_12 (by decide) ?_
    refine lv_iconst (v := 2) hx hb dX11_calm_13 (by decide) ?_
    obtain ⟨S4, hc5, hf⟩ := cv_of hf
    refine cl_RX11_67 (As := [.int (0 : Int32), .int (2 : Int32)]) (rest := []) hC hR hS (c_X11_copy l G n this (0 : Int32) (2 : Int32) S S4 hc5 ok_this) ok_this rfl ⟨Nat.le_of_ble_eq_true rfl, Nat.le_of_ble_eq_true rfl⟩ hl.1 rfl (Nat.le_of_ble_eq_true rfl) dX11_calm_14 (Nat.zero_le _) (Nat.zero_le _) (fun H locs hR hS hE6 => ?_)
    have ok_this := hE6 _ _ ok_this
    have ok_q1 := hE6 _ _ ok_q1
    have hE := hE.tr hE6
    refine lv_aload_n hx hb dX11_calm_17 rfl (lv_at hl 0 rfl) ?_
    refine lv_iconst (v := 2) hx hb dX11_calm_18 (by decide) ?_
    obtain ⟨S7, hc8, hf⟩ := cv_of hf
    refine cl_RX11_379 (As := [.int (2 : Int32)]) (rest := []) hC hR hS (c_X11_tries l G n this (2 : Int32) S4 S7 hc8 ok_this) ok_this rfl ⟨Nat.le_of_ble_eq_true rfl, Nat.le_of_ble_eq_true rfl⟩ hl.1 rfl (Nat.le_of_ble_eq_true rfl) dX11_calm_19 (Nat.zero_le _) (Nat.zero_le _) (fun H locs hR hS hE9 => ?_)
    have ok_this := hE9 _ _ ok_this
    have ok_q1 := hE9 _ _ ok_q1
    have hE := hE.tr hE9
    refine lv_iconst (v := 0) hx hb dX11_calm_22 (by decide) ?_
    refine lv_istore_n (lv' := [(1, .int (0 : Int32)), (0, .ref this)]) hx hb dX11_calm_23 rfl hl (by decide) rfl (fun ls hl => ?_)
    have hh28 : ∀ k : Nat, ∀ (x12 : Int32) (S13 : MS) (H : Heap) (locs : List Loc) (ls : Array Slot), f_X11_calm_L24 n this k x12 S13 = some (ro, So) → Rp G S13 H → va_S (gA G) s.heap H locs → Ex S S13 → Ok S13 this 11 → lv_has ls 2 [(0, .ref this), (1, .int x12)] → W p l e rX11_calm s m args below meth c H locs 0 0 (MQ below (Qn G S (some (.int ro)) So) args s 0 0 (gA G)) (F0 m 24 ls []) := by
      intro k
      induction k with
      | zero =>
        intro x12 S13 H locs ls hf hR hS hE ok_this hl
        exact absurd hf (by rw [f_X11_calm_L24]; exact fun h => by cases h)
      | succ k ih =>
        intro x12 S13 H locs ls hf hR hS hE ok_this hl
        rw [f_X11_calm_L24] at hf
        obtain ⟨rec24_11, erec24_11, hf⟩ := jn_of2 hf
        have hL24_10 : ∀ (x12 : Int32) (S13 : MS) (H : Heap) (locs : List Loc) (ls : Array Slot), rec24_11 x12 S13 = some (ro, So) → Rp G S13 H → va_S (gA G) s.heap H locs → Ex S S13 → Ok S13 this 11 → lv_has ls 2 [(0, .ref this), (1, .int x12)] → W p l e rX11_calm s m args below meth c H locs 0 0 (MQ below (Qn G S (some (.int ro)) So) args s 0 0 (gA G)) (F0 m 24 ls []) := by
          intro x12 S13 H locs ls hf hR hS hE ok_this hl
          rw [erec24_11] at hf
          exact ih x12 S13 _ _ _ hf hR hS hE ok_this hl
        refine lv_iload_n hx hb dX11_calm_24 rfl (lv_at hl 1 rfl) ?_
        refine lv_bipush (v := 40) hx hb dX11_calm_25 (by decide) ?_
        refine lv_icmp_ge (tgt := 52) hx hb dX11_calm_27 (by decide) (fun hc => ?_) (fun hc => ?_)
        · replace hf := if_t hf hc
          refine lv_aload_n hx hb dX11_calm_52 rfl (lv_at hl 0 rfl) ?_
          refine lv_iconst (v := 0) hx hb dX11_calm_53 (by decide) ?_
          obtain ⟨S14, hc15, hf⟩ := cv_of hf
          refine cl_RX11_379 (As := [.int (0 : Int32)]) (rest := []) hC hR hS (c_X11_tries l G n this (0 : Int32) S13 S14 hc15 ok_this) ok_this rfl ⟨Nat.le_of_ble_eq_true rfl, Nat.le_of_ble_eq_true rfl⟩ hl.1 rfl (Nat.le_of_ble_eq_true rfl) dX11_calm_54 (Nat.zero_le _) (Nat.zero_le _) (fun H locs hR hS hE16 => ?_)
          have ok_this := hE16 _ _ ok_this
          have hE := hE.tr hE16
          refine lv_iload_n hx hb dX11_calm_57 rfl (lv_at hl 1 rfl) ?_
          exact r_iret hC hR hS hE hf dX11_calm_58
        · replace hf := if_f hf hc
          refine lv_aload_n hx hb dX11_calm_30 rfl (lv_at hl 0 rfl) ?_
          refine lv_aload_n hx hb dX11_calm_31 rfl (lv_at hl 0 rfl) ?_
          obtain ⟨q17, hq18, ok_q17, hf⟩ := gR_of hf
          refine gf_RX11_7 hC hR ok_this hq18 dX11_calm_32 ?_
          refine lv_bipush (v := 125) hx hb dX11_calm_35 (by decide) ?_
          refine lv_iload_n hx hb dX11_calm_37 rfl (lv_at hl 1 rfl) ?_
          refine lv_iadd hx hb dX11_calm_38 ?_
          obtain ⟨hi19, hf⟩ := ck_of hf
          refine r_iald hC hR ok_q17 hi19 dX11_calm_39 ?_
          obtain ⟨x23, S20, hc21, hf⟩ := cl_of hf
          refine cl_RX11_322 (As := [.int (mI S13 q17 ((125 : Int32) + x12).toNatClampNeg)]) (rest := []) hC hR hS (c_X11_blow l G n this (mI S13 q17 ((125 : Int32) + x12).toNatClampNeg) S13 x23 S20 hc21 ok_this) ok_this rfl ⟨Nat.le_of_ble_eq_true rfl, Nat.le_of_ble_eq_true rfl⟩ hl.1 rfl (Nat.le_of_ble_eq_true rfl) dX11_calm_40 (Nat.zero_le _) (Nat.zero_le _) (fun H locs hR hS hE22 => ?_)
          have ok_this := hE22 _ _ ok_this
          have ok_q17 := hE22 _ _ ok_q17
          have hE := hE.tr hE22
          refine lv_if_ne (tgt := 52) hx hb dX11_calm_43 (by decide) (fun hc => ?_) (fun hc => ?_)
          · replace hf := if_f hf hc
            refine lv_aload_n hx hb dX11_calm_52 rfl (lv_at hl 0 rfl) ?_
            refine lv_iconst (v := 0) hx hb dX11_calm_53 (by decide) ?_
            obtain ⟨S24, hc25, hf⟩ := cv_of hf
            refine cl_RX11_379 (As := [.int (0 : Int32)]) (rest := []) hC hR hS (c_X11_tries l G n this (0 : Int32) S20 S24 hc25 ok_this) ok_this rfl ⟨Nat.le_of_ble_eq_true rfl, Nat.le_of_ble_eq_true rfl⟩ hl.1 rfl (Nat.le_of_ble_eq_true rfl) dX11_calm_54 (Nat.zero_le _) (Nat.zero_le _) (fun H locs hR hS hE26 => ?_)
            have ok_this := hE26 _ _ ok_this
            have ok_q17 := hE26 _ _ ok_q17
            have hE := hE.tr hE26
            refine lv_iload_n hx hb dX11_calm_57 rfl (lv_at hl 1 rfl) ?_
            exact r_iret hC hR hS hE hf dX11_calm_58
          · replace hf := if_t hf hc
            refine r_iinc (n := 1) (z := 1) (lv' := fun x27 => [(1, .int x27), (0, .ref this)]) hx hb dX11_calm_46 hl (k := 1) rfl (by decide) (by decide) (fun _ => rfl) hf (fun x27 ls hf hl => ?_)
            refine lv_goto (tgt := 24) hx hb dX11_calm_49 (by decide) ?_
            exact hL24_10 x27 S20 _ _ _ hf hR hS hE ok_this (lv_sub hl [1, 0] rfl)
    exact hh28 n (0 : Int32) S7 _ _ _ hf hR hS hE ok_this (lv_sub hl [1, 0] rfl)
  · replace hf := if_t hf hc
    refine lv_iconst (v := -1) hx hb dX11_calm_9 (by decide) ?_
    exact r_iret hC hR hS hE hf dX11_calm_10
abbrev rX11_disputes : Room := { frames := 7, cells := 0, slots := 0, locals := 172 }
def f_X11_disputes_L49 (n : Nat) (this : Nat) (a1 : Int32) : Nat → Int32 → Int32 → MS → Option (Int32 × MS)
  | 0, _, _, _ => none
  | k + 1, x16, x17, S18 => jn (f_X11_disputes_L49 n this a1 k) fun rec49_15 => (if a1 ≤ x17 then cv (f_X11_tries n this (0 : Int32) S18) fun S19 => some (x16, S19) else gR S18 (mR S18 this 0) 12 fun q22 => ck (inb ((125 : Int32) + x17) (mN S18 q22)) (cl (f_X11_blow n this (mI S18 q22 ((125 : Int32) + x17).toNatClampNeg) S18) fun x28 S25 => cl (f_X11_disputed n this S25) fun x32 S29 => bd (x16 + x32) fun x33 => bd (x17 + (1 : Int32)) fun x34 => rec49_15 x33 x34 S29))
def f_X11_disputes (n : Nat) (this : Nat) (a1 : Int32) (S : MS) : Option (Int32 × MS) :=
  cl (f_X11_isIn n a1 (0 : Int32) (40 : Int32) S) fun x4 S1 => (if x4 = 0 then some ((-1 : Int32), S1) else jn (fun (S7 : MS) => (if a1 = 0 then cl (f_X11_disputed n this S7) fun x39 S36 => some (x39, S36) else cv (f_X11_copy n this (0 : Int32) (2 : Int32) S7) fun S8 => cv (f_X11_tries n this (2 : Int32) S8) fun S11 => f_X11_disputes_L49 n this a1 n (0 : Int32) (0 : Int32) S11)) fun j25_6 => (if a1 ≤ 0 then j25_6 S1 else gR S1 (mR S1 this 0) 12 fun q40 => ck (inb (2 : Int32) (mN S1 q40)) ((if (mI S1 q40 (2 : Int32).toNatClampNeg) = 0 then some ((-1 : Int32), S1) else j25_6 S1))))
set_option maxRecDepth 100000 in
set_option maxHeartbeats 4000000 in
theorem c_X11_disputes (l : Launch) (G : Gx) (n : Nat) (this : Nat) (a1 : Int32) (S : MS) (ro : Int32) (So : MS) (hf : f_X11_disputes n this a1 S = some (ro, So)) (ok_this : Ok S this 11) : Cn G l yX11_disputes cX11_disputes 4 (some .int) rX11_disputes [.ref this, .int a1] S (some (.int ro)) So := by
  refine Cn.of (by decide) (Nat.le_of_ble_eq_true rfl) ?_
  intro p e s m args below meth c hC hname hR ls hl
  have hC : Cx G RX11 cX11_disputes 4 (some .int) p s m args meth c := hC
  have hl : lv_has ls 4 [(0, .ref this), (1, .int a1)] := hl
  have hx := hC.x
  have hb := hC.b
  have hS : va_S (gA G) s.heap s.heap [] := va_S.rf
  have hE : Ex S S := Ex.rf S
  unfold f_X11_disputes at hf
  refine lv_iload_n hx hb dX11_disputes_0 rfl (lv_at hl 1 rfl) ?_
  refine lv_iconst (v := 0) hx hb dX11_disputes_1 (by decide) ?_
  refine lv_bipush (v := 40) hx hb dX11_disputes_2 (by decide) ?_
  obtain ⟨x4, S1, hc2, hf⟩ := cl_of hf
  refine cl_RX11_71 (As := [.int a1, .int (0 : Int32), .int (40 : Int32)]) (rest := []) hC hR hS (c_X11_isIn l G n a1 (0 : Int32) (40 : Int32) S x4 S1 hc2 ) rfl ⟨Nat.le_of_ble_eq_true rfl, Nat.le_of_ble_eq_true rfl⟩ hl.1 rfl (Nat.le_of_ble_eq_true rfl) dX11_disputes_4 (Nat.zero_le _) (Nat.zero_le _) (fun H locs hR hS hE3 => ?_)
  have ok_this := hE3 _ _ ok_this
  have hE := hE.tr hE3
  refine lv_if_eq (tgt := 23) hx hb dX11_disputes_7 (by decide) (fun hc => ?_) (fun hc => ?_)
  · replace hf := if_t hf hc
    refine lv_iconst (v := -1) hx hb dX11_disputes_23 (by decide) ?_
    exact r_iret hC hR hS hE hf dX11_disputes_24
  · replace hf := if_f hf hc
    refine lv_iload_n hx hb dX11_disputes_10 rfl (lv_at hl 1 rfl) ?_
    obtain ⟨j25_6, ej25_6, hf⟩ := jn_of1 hf
    have hj25_5 : ∀ (S7 : MS) (H : Heap) (locs : List Loc) (ls : Array Slot), j25_6 S7 = some (ro, So) → Rp G S7 H → va_S (gA G) s.heap H locs → Ex S S7 → Ok S7 this 11 → lv_has ls 4 [(0, .ref this), (1, .int a1)] → W p l e rX11_disputes s m args below meth c H locs 0 0 (MQ below (Qn G S (some (.int ro)) So) args s 0 0 (gA G)) (F0 m 25 ls []) := by
      intro S7 H locs ls hf hR hS hE ok_this hl
      rw [ej25_6] at hf
      refine lv_iload_n hx hb dX11_disputes_25 rfl (lv_at hl 1 rfl) ?_
      refine lv_if_ne (tgt := 34) hx hb dX11_disputes_26 (by decide) (fun hc => ?_) (fun hc => ?_)
      · replace hf := if_f hf hc
        refine lv_aload_n hx hb dX11_disputes_34 rfl (lv_at hl 0 rfl) ?_
        refine lv_iconst (v := 0) hx hb dX11_disputes_35 (by decide) ?_
        refine lv_iconst (v := 2) hx hb dX11_disputes_36 (by decide) ?_
        obtain ⟨S8, hc9, hf⟩ := cv_of hf
        refine cl_RX11_67 (As := [.int (0 : Int32), .int (2 : Int32)]) (rest := []) hC hR hS (c_X11_copy l G n this (0 : Int32) (2 : Int32) S7 S8 hc9 ok_this) ok_this rfl ⟨Nat.le_of_ble_eq_true rfl, Nat.le_of_ble_eq_true rfl⟩ hl.1 rfl (Nat.le_of_ble_eq_true rfl) dX11_disputes_37 (Nat.zero_le _) (Nat.zero_le _) (fun H locs hR hS hE10 => ?_)
        have ok_this := hE10 _ _ ok_this
        have hE := hE.tr hE10
        refine lv_aload_n hx hb dX11_disputes_40 rfl (lv_at hl 0 rfl) ?_
        refine lv_iconst (v := 2) hx hb dX11_disputes_41 (by decide) ?_
        obtain ⟨S11, hc12, hf⟩ := cv_of hf
        refine cl_RX11_379 (As := [.int (2 : Int32)]) (rest := []) hC hR hS (c_X11_tries l G n this (2 : Int32) S8 S11 hc12 ok_this) ok_this rfl ⟨Nat.le_of_ble_eq_true rfl, Nat.le_of_ble_eq_true rfl⟩ hl.1 rfl (Nat.le_of_ble_eq_true rfl) dX11_disputes_42 (Nat.zero_le _) (Nat.zero_le _) (fun H locs hR hS hE13 => ?_)
        have ok_this := hE13 _ _ ok_this
        have hE := hE.tr hE13
        refine lv_iconst (v := 0) hx hb dX11_disputes_45 (by decide) ?_
        refine lv_istore_n (lv' := [(2, .int (0 : Int32)), (0, .ref this), (1, .int a1)]) hx hb dX11_disputes_46 rfl hl (by decide) rfl (fun ls hl => ?_)
        refine lv_iconst (v := 0) hx hb dX11_disputes_47 (by decide) ?_
        refine lv_istore_n (lv' := [(3, .int (0 : Int32)), (2, .int (0 : Int32)), (0, .ref this), (1, .int a1)]) hx hb dX11_disputes_48 rfl hl (by decide) rfl (fun ls hl => ?_)
        have hh35 : ∀ k : Nat, ∀ (x16 : Int32) (x17 : Int32) (S18 : MS) (H : Heap) (locs : List Loc) (ls : Array Slot), f_X11_disputes_L49 n this a1 k x16 x17 S18 = some (ro, So) → Rp G S18 H → va_S (gA G) s.heap H locs → Ex S S18 → Ok S18 this 11 → lv_has ls 4 [(0, .ref this), (1, .int a1), (2, .int x16), (3, .int x17)] → W p l e rX11_disputes s m args below meth c H locs 0 0 (MQ below (Qn G S (some (.int ro)) So) args s 0 0 (gA G)) (F0 m 49 ls []) := by
          intro k
          induction k with
          | zero =>
            intro x16 x17 S18 H locs ls hf hR hS hE ok_this hl
            exact absurd hf (by rw [f_X11_disputes_L49]; exact fun h => by cases h)
          | succ k ih =>
            intro x16 x17 S18 H locs ls hf hR hS hE ok_this hl
            rw [f_X11_disputes_L49] at hf
            obtain ⟨rec49_15, erec49_15, hf⟩ := jn_of3 hf
            have hL49_14 : ∀ (x16 : Int32) (x17 : Int32) (S18 : MS) (H : Heap) (locs : List Loc) (ls : Array Slot), rec49_15 x16 x17 S18 = some (ro, So) → Rp G S18 H → va_S (gA G) s.heap H locs → Ex S S18 → Ok S18 this 11 → lv_has ls 4 [(0, .ref this), (1, .int a1), (2, .int x16), (3, .int x17)] → W p l e rX11_disputes s m args below meth c H locs 0 0 (MQ below (Qn G S (some (.int ro)) So) args s 0 0 (gA G)) (F0 m 49 ls []) := by
              intro x16 x17 S18 H locs ls hf hR hS hE ok_this hl
              rw [erec49_15] at hf
              exact ih x16 x17 S18 _ _ _ hf hR hS hE ok_this hl
            refine lv_iload_n hx hb dX11_disputes_49 rfl (lv_at hl 3 rfl) ?_
            refine lv_iload_n hx hb dX11_disputes_50 rfl (lv_at hl 1 rfl) ?_
            refine lv_icmp_ge (tgt := 81) hx hb dX11_disputes_51 (by decide) (fun hc => ?_) (fun hc => ?_)
            · replace hf := if_t hf hc
              refine lv_aload_n hx hb dX11_disputes_81 rfl (lv_at hl 0 rfl) ?_
              refine lv_iconst (v := 0) hx hb dX11_disputes_82 (by decide) ?_
              obtain ⟨S19, hc20, hf⟩ := cv_of hf
              refine cl_RX11_379 (As := [.int (0 : Int32)]) (rest := []) hC hR hS (c_X11_tries l G n this (0 : Int32) S18 S19 hc20 ok_this) ok_this rfl ⟨Nat.le_of_ble_eq_true rfl, Nat.le_of_ble_eq_true rfl⟩ hl.1 rfl (Nat.le_of_ble_eq_true rfl) dX11_disputes_83 (Nat.zero_le _) (Nat.zero_le _) (fun H locs hR hS hE21 => ?_)
              have ok_this := hE21 _ _ ok_this
              have hE := hE.tr hE21
              refine lv_iload_n hx hb dX11_disputes_86 rfl (lv_at hl 2 rfl) ?_
              exact r_iret hC hR hS hE hf dX11_disputes_87
            · replace hf := if_f hf hc
              refine lv_aload_n hx hb dX11_disputes_54 rfl (lv_at hl 0 rfl) ?_
              refine lv_aload_n hx hb dX11_disputes_55 rfl (lv_at hl 0 rfl) ?_
              obtain ⟨q22, hq23, ok_q22, hf⟩ := gR_of hf
              refine gf_RX11_7 hC hR ok_this hq23 dX11_disputes_56 ?_
              refine lv_bipush (v := 125) hx hb dX11_disputes_59 (by decide) ?_
              refine lv_iload_n hx hb dX11_disputes_61 rfl (lv_at hl 3 rfl) ?_
              refine lv_iadd hx hb dX11_disputes_62 ?_
              obtain ⟨hi24, hf⟩ := ck_of hf
              refine r_iald hC hR ok_q22 hi24 dX11_disputes_63 ?_
              obtain ⟨x28, S25, hc26, hf⟩ := cl_of hf
              refine cl_RX11_322 (As := [.int (mI S18 q22 ((125 : Int32) + x17).toNatClampNeg)]) (rest := []) hC hR hS (c_X11_blow l G n this (mI S18 q22 ((125 : Int32) + x17).toNatClampNeg) S18 x28 S25 hc26 ok_this) ok_this rfl ⟨Nat.le_of_ble_eq_true rfl, Nat.le_of_ble_eq_true rfl⟩ hl.1 rfl (Nat.le_of_ble_eq_true rfl) dX11_disputes_64 (Nat.zero_le _) (Nat.zero_le _) (fun H locs hR hS hE27 => ?_)
              have ok_this := hE27 _ _ ok_this
              have ok_q22 := hE27 _ _ ok_q22
              have hE := hE.tr hE27
              refine lv_pop hx hb dX11_disputes_67 rfl ?_
              refine lv_iload_n hx hb dX11_disputes_68 rfl (lv_at hl 2 rfl) ?_
              refine lv_aload_n hx hb dX11_disputes_69 rfl (lv_at hl 0 rfl) ?_
              obtain ⟨x32, S29, hc30, hf⟩ := cl_of hf
              refine cl_RX11_398 (As := []) (rest := [.int x16]) hC hR hS (c_X11_disputed l G n this S25 x32 S29 hc30 ok_this) ok_this rfl ⟨Nat.le_of_ble_eq_true rfl, Nat.le_of_ble_eq_true rfl⟩ hl.1 rfl (Nat.le_of_ble_eq_true rfl) dX11_disputes_70 (Nat.zero_le _) (Nat.zero_le _) (fun H locs hR hS hE31 => ?_)
              have ok_this := hE31 _ _ ok_this
              have ok_q22 := hE31 _ _ ok_q22
              have hE := hE.tr hE31
              refine lv_iadd hx hb dX11_disputes_73 ?_
              refine bdi hf (fun x33 hf => ?_)
              refine lv_istore_n (lv' := [(2, .int x33), (0, .ref this), (1, .int a1), (3, .int x17)]) hx hb dX11_disputes_74 rfl hl (by decide) rfl (fun ls hl => ?_)
              refine r_iinc (n := 1) (z := 1) (lv' := fun x34 => [(3, .int x34), (2, .int x33), (0, .ref this), (1, .int a1)]) hx hb dX11_disputes_75 hl (k := 3) rfl (by decide) (by decide) (fun _ => rfl) hf (fun x34 ls hf hl => ?_)
              refine lv_goto (tgt := 49) hx hb dX11_disputes_78 (by decide) ?_
              exact hL49_14 x33 x34 S29 _ _ _ hf hR hS hE ok_this (lv_sub hl [2, 3, 1, 0] rfl)
        exact hh35 n (0 : Int32) (0 : Int32) S11 _ _ _ hf hR hS hE ok_this (lv_sub hl [2, 3, 1, 0] rfl)
      · replace hf := if_t hf hc
        refine lv_aload_n hx hb dX11_disputes_29 rfl (lv_at hl 0 rfl) ?_
        obtain ⟨x39, S36, hc37, hf⟩ := cl_of hf
        refine cl_RX11_398 (As := []) (rest := []) hC hR hS (c_X11_disputed l G n this S7 x39 S36 hc37 ok_this) ok_this rfl ⟨Nat.le_of_ble_eq_true rfl, Nat.le_of_ble_eq_true rfl⟩ hl.1 rfl (Nat.le_of_ble_eq_true rfl) dX11_disputes_30 (Nat.zero_le _) (Nat.zero_le _) (fun H locs hR hS hE38 => ?_)
        have ok_this := hE38 _ _ ok_this
        have hE := hE.tr hE38
        exact r_iret hC hR hS hE hf dX11_disputes_33
    refine lv_if_le (tgt := 25) hx hb dX11_disputes_11 (by decide) (fun hc => ?_) (fun hc => ?_)
    · replace hf := if_t hf hc
      exact hj25_5 S1 _ _ _ hf hR hS hE ok_this (lv_sub hl [0, 1] rfl)
    · replace hf := if_f hf hc
      refine lv_aload_n hx hb dX11_disputes_14 rfl (lv_at hl 0 rfl) ?_
      obtain ⟨q40, hq41, ok_q40, hf⟩ := gR_of hf
      refine gf_RX11_7 hC hR ok_this hq41 dX11_disputes_15 ?_
      refine lv_iconst (v := 2) hx hb dX11_disputes_18 (by decide) ?_
      obtain ⟨hi42, hf⟩ := ck_of hf
      refine r_iald hC hR ok_q40 hi42 dX11_disputes_19 ?_
      refine lv_if_ne (tgt := 25) hx hb dX11_disputes_20 (by decide) (fun hc => ?_) (fun hc => ?_)
      · replace hf := if_f hf hc
        exact hj25_5 S1 _ _ _ hf hR hS hE ok_this (lv_sub hl [0, 1] rfl)
      · replace hf := if_t hf hc
        refine lv_iconst (v := -1) hx hb dX11_disputes_23 (by decide) ?_
        exact r_iret hC hR hS hE hf dX11_disputes_24
abbrev rX11_map : Room := { frames := 2, cells := 0, slots := 0, locals := 43 }
def f_X11_map (n : Nat) (this : Nat) (a1 : Int32) (a2 : Int32) (S : MS) : Option (Int32 × MS) :=
  cl (f_X11_isBone n this a1 S) fun x4 S1 => (if x4 = 0 then zb (0 : Int32) (some ((0 : Int32), S1)) else (if a2 = (-1 : Int32) then gR S1 (mR S1 this 0) 12 fun q5 => ck (inb ((165 : Int32) + a1) (mN S1 q5)) (bd (sI S1 q5 ((165 : Int32) + a1).toNatClampNeg a2) fun S8 => zb (1 : Int32) (some ((1 : Int32), S8))) else cl (f_X11_isCell n this a2 S1) fun x13 S10 => (if x13 = 0 then zb (0 : Int32) (some ((0 : Int32), S10)) else gR S10 (mR S10 this 0) 12 fun q14 => ck (inb ((165 : Int32) + a1) (mN S10 q14)) (bd (sI S10 q14 ((165 : Int32) + a1).toNatClampNeg a2) fun S17 => zb (1 : Int32) (some ((1 : Int32), S17))))))
set_option maxRecDepth 100000 in
set_option maxHeartbeats 4000000 in
theorem c_X11_map (l : Launch) (G : Gx) (n : Nat) (this : Nat) (a1 : Int32) (a2 : Int32) (S : MS) (ro : Int32) (So : MS) (hf : f_X11_map n this a1 a2 S = some (ro, So)) (ok_this : Ok S this 11) : Cn G l yX11_map cX11_map 3 (some .boolean) rX11_map [.ref this, .int a1, .int a2] S (some (.int ro)) So := by
  refine Cn.of (by decide) (Nat.le_of_ble_eq_true rfl) ?_
  intro p e s m args below meth c hC hname hR ls hl
  have hC : Cx G RX11 cX11_map 3 (some .boolean) p s m args meth c := hC
  have hl : lv_has ls 3 [(0, .ref this), (1, .int a1), (2, .int a2)] := hl
  have hx := hC.x
  have hb := hC.b
  have hS : va_S (gA G) s.heap s.heap [] := va_S.rf
  have hE : Ex S S := Ex.rf S
  unfold f_X11_map at hf
  refine lv_aload_n hx hb dX11_map_0 rfl (lv_at hl 0 rfl) ?_
  refine lv_iload_n hx hb dX11_map_1 rfl (lv_at hl 1 rfl) ?_
  obtain ⟨x4, S1, hc2, hf⟩ := cl_of hf
  refine cl_RX11_340 (As := [.int a1]) (rest := []) hC hR hS (c_X11_isBone l G n this a1 S x4 S1 hc2 ok_this) ok_this rfl ⟨Nat.le_of_ble_eq_true rfl, Nat.le_of_ble_eq_true rfl⟩ hl.1 rfl (Nat.le_of_ble_eq_true rfl) dX11_map_2 (Nat.zero_le _) (Nat.zero_le _) (fun H locs hR hS hE3 => ?_)
  have ok_this := hE3 _ _ ok_this
  have hE := hE.tr hE3
  refine lv_if_eq (tgt := 21) hx hb dX11_map_5 (by decide) (fun hc => ?_) (fun hc => ?_)
  · replace hf := if_t hf hc
    refine lv_iconst (v := 0) hx hb dX11_map_21 (by decide) ?_
    exact r_zret hC hR hS hE hf dX11_map_22
  · replace hf := if_f hf hc
    refine lv_iload_n hx hb dX11_map_8 rfl (lv_at hl 2 rfl) ?_
    refine lv_iconst (v := -1) hx hb dX11_map_9 (by decide) ?_
    refine lv_icmp_eq (tgt := 23) hx hb dX11_map_10 (by decide) (fun hc => ?_) (fun hc => ?_)
    · replace hf := if_t hf hc
      refine lv_aload_n hx hb dX11_map_23 rfl (lv_at hl 0 rfl) ?_
      obtain ⟨q5, hq6, ok_q5, hf⟩ := gR_of hf
      refine gf_RX11_7 hC hR ok_this hq6 dX11_map_24 ?_
      refine lv_sipush (v := 165) hx hb dX11_map_27 (by decide) ?_
      refine lv_iload_n hx hb dX11_map_30 rfl (lv_at hl 1 rfl) ?_
      refine lv_iadd hx hb dX11_map_31 ?_
      refine lv_iload_n hx hb dX11_map_32 rfl (lv_at hl 2 rfl) ?_
      obtain ⟨hi7, hf⟩ := ck_of hf
      refine rB_iast hC hR hS ok_q5 hi7 dX11_map_33 hf (fun S8 H locs hf hR hS hE9 => ?_)
      have ok_this := hE9 _ _ ok_this
      have ok_q5 := hE9 _ _ ok_q5
      have hE := hE.tr hE9
      refine lv_iconst (v := 1) hx hb dX11_map_34 (by decide) ?_
      exact r_zret hC hR hS hE hf dX11_map_35
    · replace hf := if_f hf hc
      refine lv_aload_n hx hb dX11_map_13 rfl (lv_at hl 0 rfl) ?_
      refine lv_iload_n hx hb dX11_map_14 rfl (lv_at hl 2 rfl) ?_
      obtain ⟨x13, S10, hc11, hf⟩ := cl_of hf
      refine cl_RX11_82 (As := [.int a2]) (rest := []) hC hR hS (c_X11_isCell l G n this a2 S1 x13 S10 hc11 ok_this) ok_this rfl ⟨Nat.le_of_ble_eq_true rfl, Nat.le_of_ble_eq_true rfl⟩ hl.1 rfl (Nat.le_of_ble_eq_true rfl) dX11_map_15 (Nat.zero_le _) (Nat.zero_le _) (fun H locs hR hS hE12 => ?_)
      have ok_this := hE12 _ _ ok_this
      have hE := hE.tr hE12
      refine lv_if_ne (tgt := 23) hx hb dX11_map_18 (by decide) (fun hc => ?_) (fun hc => ?_)
      · replace hf := if_f hf hc
        refine lv_aload_n hx hb dX11_map_23 rfl (lv_at hl 0 rfl) ?_
        obtain ⟨q14, hq15, ok_q14, hf⟩ := gR_of hf
        refine gf_RX11_7 hC hR ok_this hq15 dX11_map_24 ?_
        refine lv_sipush (v := 165) hx hb dX11_map_27 (by decide) ?_
        refine lv_iload_n hx hb dX11_map_30 rfl (lv_at hl 1 rfl) ?_
        refine lv_iadd hx hb dX11_map_31 ?_
        refine lv_iload_n hx hb dX11_map_32 rfl (lv_at hl 2 rfl) ?_
        obtain ⟨hi16, hf⟩ := ck_of hf
        refine rB_iast hC hR hS ok_q14 hi16 dX11_map_33 hf (fun S17 H locs hf hR hS hE18 => ?_)
        have ok_this := hE18 _ _ ok_this
        have ok_q14 := hE18 _ _ ok_q14
        have hE := hE.tr hE18
        refine lv_iconst (v := 1) hx hb dX11_map_34 (by decide) ?_
        exact r_zret hC hR hS hE hf dX11_map_35
      · replace hf := if_t hf hc
        refine lv_iconst (v := 0) hx hb dX11_map_21 (by decide) ?_
        exact r_zret hC hR hS hE hf dX11_map_22
abbrev rX11_isMapped : Room := { frames := 1, cells := 0, slots := 0, locals := 21 }
def f_X11_isMapped_L2 (n : Nat) (this : Nat) : Nat → Int32 → MS → Option (Int32 × MS)
  | 0, _, _ => none
  | k + 1, x3, S4 => jn (f_X11_isMapped_L2 n this k) fun rec2_2 => cl (f_X11_bones n this S4) fun x8 S5 => (if x8 ≤ x3 then zb (1 : Int32) (some ((1 : Int32), S5)) else gR S5 (mR S5 this 0) 12 fun q9 => ck (inb ((165 : Int32) + x3) (mN S5 q9)) (jn (fun (S14 : MS) => bd (x3 + (1 : Int32)) fun x15 => rec2_2 x15 S14) fun j43_13 => (if (mI S5 q9 ((165 : Int32) + x3).toNatClampNeg) < 0 then j43_13 S5 else gR S5 (mR S5 this 0) 12 fun q16 => ck (inb ((165 : Int32) + x3) (mN S5 q16)) (cl (f_X11_cellOf n this x3 S5) fun x22 S19 => (if (mI S5 q16 ((165 : Int32) + x3).toNatClampNeg) = x22 then j43_13 S19 else zb (0 : Int32) (some ((0 : Int32), S19)))))))
def f_X11_isMapped (n : Nat) (this : Nat) (S : MS) : Option (Int32 × MS) :=
  f_X11_isMapped_L2 n this n (0 : Int32) S
set_option maxRecDepth 100000 in
set_option maxHeartbeats 4000000 in
theorem c_X11_isMapped (l : Launch) (G : Gx) (n : Nat) (this : Nat) (S : MS) (ro : Int32) (So : MS) (hf : f_X11_isMapped n this S = some (ro, So)) (ok_this : Ok S this 11) : Cn G l yX11_isMapped cX11_isMapped 2 (some .boolean) rX11_isMapped [.ref this] S (some (.int ro)) So := by
  refine Cn.of (by decide) (Nat.le_of_ble_eq_true rfl) ?_
  intro p e s m args below meth c hC hname hR ls hl
  have hC : Cx G RX11 cX11_isMapped 2 (some .boolean) p s m args meth c := hC
  have hl : lv_has ls 2 [(0, .ref this)] := hl
  have hx := hC.x
  have hb := hC.b
  have hS : va_S (gA G) s.heap s.heap [] := va_S.rf
  have hE : Ex S S := Ex.rf S
  unfold f_X11_isMapped at hf
  refine lv_iconst (v := 0) hx hb dX11_isMapped_0 (by decide) ?_
  refine lv_istore_n (lv' := [(1, .int (0 : Int32)), (0, .ref this)]) hx hb dX11_isMapped_1 rfl hl (by decide) rfl (fun ls hl => ?_)
  have hh24 : ∀ k : Nat, ∀ (x3 : Int32) (S4 : MS) (H : Heap) (locs : List Loc) (ls : Array Slot), f_X11_isMapped_L2 n this k x3 S4 = some (ro, So) → Rp G S4 H → va_S (gA G) s.heap H locs → Ex S S4 → Ok S4 this 11 → lv_has ls 2 [(0, .ref this), (1, .int x3)] → W p l e rX11_isMapped s m args below meth c H locs 0 0 (MQ below (Qn G S (some (.int ro)) So) args s 0 0 (gA G)) (F0 m 2 ls []) := by
    intro k
    induction k with
    | zero =>
      intro x3 S4 H locs ls hf hR hS hE ok_this hl
      exact absurd hf (by rw [f_X11_isMapped_L2]; exact fun h => by cases h)
    | succ k ih =>
      intro x3 S4 H locs ls hf hR hS hE ok_this hl
      rw [f_X11_isMapped_L2] at hf
      obtain ⟨rec2_2, erec2_2, hf⟩ := jn_of2 hf
      have hL2_1 : ∀ (x3 : Int32) (S4 : MS) (H : Heap) (locs : List Loc) (ls : Array Slot), rec2_2 x3 S4 = some (ro, So) → Rp G S4 H → va_S (gA G) s.heap H locs → Ex S S4 → Ok S4 this 11 → lv_has ls 2 [(0, .ref this), (1, .int x3)] → W p l e rX11_isMapped s m args below meth c H locs 0 0 (MQ below (Qn G S (some (.int ro)) So) args s 0 0 (gA G)) (F0 m 2 ls []) := by
        intro x3 S4 H locs ls hf hR hS hE ok_this hl
        rw [erec2_2] at hf
        exact ih x3 S4 _ _ _ hf hR hS hE ok_this hl
      refine lv_iload_n hx hb dX11_isMapped_2 rfl (lv_at hl 1 rfl) ?_
      refine lv_aload_n hx hb dX11_isMapped_3 rfl (lv_at hl 0 rfl) ?_
      obtain ⟨x8, S5, hc6, hf⟩ := cl_of hf
      refine cl_RX11_316 (As := []) (rest := [.int x3]) hC hR hS (c_X11_bones l G n this S4 x8 S5 hc6 ok_this) ok_this rfl ⟨Nat.le_of_ble_eq_true rfl, Nat.le_of_ble_eq_true rfl⟩ hl.1 rfl (Nat.le_of_ble_eq_true rfl) dX11_isMapped_4 (Nat.zero_le _) (Nat.zero_le _) (fun H locs hR hS hE7 => ?_)
      have ok_this := hE7 _ _ ok_this
      have hE := hE.tr hE7
      refine lv_icmp_ge (tgt := 49) hx hb dX11_isMapped_7 (by decide) (fun hc => ?_) (fun hc => ?_)
      · replace hf := if_t hf hc
        refine lv_iconst (v := 1) hx hb dX11_isMapped_49 (by decide) ?_
        exact r_zret hC hR hS hE hf dX11_isMapped_50
      · replace hf := if_f hf hc
        refine lv_aload_n hx hb dX11_isMapped_10 rfl (lv_at hl 0 rfl) ?_
        obtain ⟨q9, hq10, ok_q9, hf⟩ := gR_of hf
        refine gf_RX11_7 hC hR ok_this hq10 dX11_isMapped_11 ?_
        refine lv_sipush (v := 165) hx hb dX11_isMapped_14 (by decide) ?_
        refine lv_iload_n hx hb dX11_isMapped_17 rfl (lv_at hl 1 rfl) ?_
        refine lv_iadd hx hb dX11_isMapped_18 ?_
        obtain ⟨hi11, hf⟩ := ck_of hf
        refine r_iald hC hR ok_q9 hi11 dX11_isMapped_19 ?_
        obtain ⟨j43_13, ej43_13, hf⟩ := jn_of1 hf
        have hj43_12 : ∀ (S14 : MS) (H : Heap) (locs : List Loc) (ls : Array Slot), j43_13 S14 = some (ro, So) → Rp G S14 H → va_S (gA G) s.heap H locs → Ex S S14 → Ok S14 this 11 → lv_has ls 2 [(0, .ref this), (1, .int x3)] → W p l e rX11_isMapped s m args below meth c H locs 0 0 (MQ below (Qn G S (some (.int ro)) So) args s 0 0 (gA G)) (F0 m 43 ls []) := by
          intro S14 H locs ls hf hR hS hE ok_this hl
          rw [ej43_13] at hf
          refine r_iinc (n := 1) (z := 1) (lv' := fun x15 => [(1, .int x15), (0, .ref this)]) hx hb dX11_isMapped_43 hl (k := 1) rfl (by decide) (by decide) (fun _ => rfl) hf (fun x15 ls hf hl => ?_)
          refine lv_goto (tgt := 2) hx hb dX11_isMapped_46 (by decide) ?_
          exact hL2_1 x15 S14 _ _ _ hf hR hS hE ok_this (lv_sub hl [1, 0] rfl)
        refine lv_if_lt (tgt := 43) hx hb dX11_isMapped_20 (by decide) (fun hc => ?_) (fun hc => ?_)
        · replace hf := if_t hf hc
          exact hj43_12 S5 _ _ _ hf hR hS hE ok_this (lv_sub hl [0, 1] rfl)
        · replace hf := if_f hf hc
          refine lv_aload_n hx hb dX11_isMapped_23 rfl (lv_at hl 0 rfl) ?_
          obtain ⟨q16, hq17, ok_q16, hf⟩ := gR_of hf
          refine gf_RX11_7 hC hR ok_this hq17 dX11_isMapped_24 ?_
          refine lv_sipush (v := 165) hx hb dX11_isMapped_27 (by decide) ?_
          refine lv_iload_n hx hb dX11_isMapped_30 rfl (lv_at hl 1 rfl) ?_
          refine lv_iadd hx hb dX11_isMapped_31 ?_
          obtain ⟨hi18, hf⟩ := ck_of hf
          refine r_iald hC hR ok_q16 hi18 dX11_isMapped_32 ?_
          refine lv_aload_n hx hb dX11_isMapped_33 rfl (lv_at hl 0 rfl) ?_
          refine lv_iload_n hx hb dX11_isMapped_34 rfl (lv_at hl 1 rfl) ?_
          obtain ⟨x22, S19, hc20, hf⟩ := cl_of hf
          refine cl_RX11_291 (As := [.int x3]) (rest := [.int (mI S5 q16 ((165 : Int32) + x3).toNatClampNeg)]) hC hR hS (c_X11_cellOf l G n this x3 S5 x22 S19 hc20 ok_this) ok_this rfl ⟨Nat.le_of_ble_eq_true rfl, Nat.le_of_ble_eq_true rfl⟩ hl.1 rfl (Nat.le_of_ble_eq_true rfl) dX11_isMapped_35 (Nat.zero_le _) (Nat.zero_le _) (fun H locs hR hS hE21 => ?_)
          have ok_this := hE21 _ _ ok_this
          have ok_q9 := hE21 _ _ ok_q9
          have ok_q16 := hE21 _ _ ok_q16
          have hE := hE.tr hE21
          refine lv_icmp_eq (tgt := 43) hx hb dX11_isMapped_38 (by decide) (fun hc => ?_) (fun hc => ?_)
          · replace hf := if_t hf hc
            exact hj43_12 S19 _ _ _ hf hR hS hE ok_this (lv_sub hl [0, 1] rfl)
          · replace hf := if_f hf hc
            refine lv_iconst (v := 0) hx hb dX11_isMapped_41 (by decide) ?_
            exact r_zret hC hR hS hE hf dX11_isMapped_42
  exact hh24 n (0 : Int32) S _ _ _ hf hR hS hE ok_this (lv_sub hl [1, 0] rfl)
abbrev rX11_made : Room := { frames := 7, cells := 0, slots := 0, locals := 172 }
def f_X11_made_L4 (n : Nat) (this : Nat) : Nat → Int32 → Int32 → MS → Option (Int32 × MS)
  | 0, _, _, _ => none
  | k + 1, x3, x4, S5 => jn (f_X11_made_L4 n this k) fun rec4_2 => gR S5 (mR S5 this 0) 12 fun q6 => ck (inb (2 : Int32) (mN S5 q6)) ((if (mI S5 q6 (2 : Int32).toNatClampNeg) ≤ x4 then cv (f_X11_tries n this (0 : Int32) S5) fun S9 => some (x3, S9) else cv (f_X11_copy n this (0 : Int32) (2 : Int32) S5) fun S12 => cv (f_X11_tries n this (2 : Int32) S12) fun S15 => cl (f_X11_blow n this x4 S15) fun x21 S18 => cl (f_X11_isMapped n this S18) fun x25 S22 => jn (fun (x28 : Int32) (x29 : Int32) (S30 : MS) => bd (x28 ||| x29) fun x31 => bd (x4 + (1 : Int32)) fun x32 => rec4_2 x31 x32 S30) fun j46_27 => (if x25 = 0 then j46_27 x3 (0 : Int32) S22 else j46_27 x3 ((1 : Int32) <<< (x4 &&& 31)) S22)))
def f_X11_made (n : Nat) (this : Nat) (S : MS) : Option (Int32 × MS) :=
  f_X11_made_L4 n this n (0 : Int32) (0 : Int32) S
set_option maxRecDepth 100000 in
set_option maxHeartbeats 4000000 in
theorem c_X11_made (l : Launch) (G : Gx) (n : Nat) (this : Nat) (S : MS) (ro : Int32) (So : MS) (hf : f_X11_made n this S = some (ro, So)) (ok_this : Ok S this 11) : Cn G l yX11_made cX11_made 3 (some .int) rX11_made [.ref this] S (some (.int ro)) So := by
  refine Cn.of (by decide) (Nat.le_of_ble_eq_true rfl) ?_
  intro p e s m args below meth c hC hname hR ls hl
  have hC : Cx G RX11 cX11_made 3 (some .int) p s m args meth c := hC
  have hl : lv_has ls 3 [(0, .ref this)] := hl
  have hx := hC.x
  have hb := hC.b
  have hS : va_S (gA G) s.heap s.heap [] := va_S.rf
  have hE : Ex S S := Ex.rf S
  unfold f_X11_made at hf
  refine lv_iconst (v := 0) hx hb dX11_made_0 (by decide) ?_
  refine lv_istore_n (lv' := [(1, .int (0 : Int32)), (0, .ref this)]) hx hb dX11_made_1 rfl hl (by decide) rfl (fun ls hl => ?_)
  refine lv_iconst (v := 0) hx hb dX11_made_2 (by decide) ?_
  refine lv_istore_n (lv' := [(2, .int (0 : Int32)), (1, .int (0 : Int32)), (0, .ref this)]) hx hb dX11_made_3 rfl hl (by decide) rfl (fun ls hl => ?_)
  have hh36 : ∀ k : Nat, ∀ (x3 : Int32) (x4 : Int32) (S5 : MS) (H : Heap) (locs : List Loc) (ls : Array Slot), f_X11_made_L4 n this k x3 x4 S5 = some (ro, So) → Rp G S5 H → va_S (gA G) s.heap H locs → Ex S S5 → Ok S5 this 11 → lv_has ls 3 [(0, .ref this), (1, .int x3), (2, .int x4)] → W p l e rX11_made s m args below meth c H locs 0 0 (MQ below (Qn G S (some (.int ro)) So) args s 0 0 (gA G)) (F0 m 4 ls []) := by
    intro k
    induction k with
    | zero =>
      intro x3 x4 S5 H locs ls hf hR hS hE ok_this hl
      exact absurd hf (by rw [f_X11_made_L4]; exact fun h => by cases h)
    | succ k ih =>
      intro x3 x4 S5 H locs ls hf hR hS hE ok_this hl
      rw [f_X11_made_L4] at hf
      obtain ⟨rec4_2, erec4_2, hf⟩ := jn_of3 hf
      have hL4_1 : ∀ (x3 : Int32) (x4 : Int32) (S5 : MS) (H : Heap) (locs : List Loc) (ls : Array Slot), rec4_2 x3 x4 S5 = some (ro, So) → Rp G S5 H → va_S (gA G) s.heap H locs → Ex S S5 → Ok S5 this 11 → lv_has ls 3 [(0, .ref this), (1, .int x3), (2, .int x4)] → W p l e rX11_made s m args below meth c H locs 0 0 (MQ below (Qn G S (some (.int ro)) So) args s 0 0 (gA G)) (F0 m 4 ls []) := by
        intro x3 x4 S5 H locs ls hf hR hS hE ok_this hl
        rw [erec4_2] at hf
        exact ih x3 x4 S5 _ _ _ hf hR hS hE ok_this hl
      refine lv_iload_n hx hb dX11_made_4 rfl (lv_at hl 2 rfl) ?_
      refine lv_aload_n hx hb dX11_made_5 rfl (lv_at hl 0 rfl) ?_
      obtain ⟨q6, hq7, ok_q6, hf⟩ := gR_of hf
      refine gf_RX11_7 hC hR ok_this hq7 dX11_made_6 ?_
      refine lv_iconst (v := 2) hx hb dX11_made_9 (by decide) ?_
      obtain ⟨hi8, hf⟩ := ck_of hf
      refine r_iald hC hR ok_q6 hi8 dX11_made_10 ?_
      refine lv_icmp_ge (tgt := 54) hx hb dX11_made_11 (by decide) (fun hc => ?_) (fun hc => ?_)
      · replace hf := if_t hf hc
        refine lv_aload_n hx hb dX11_made_54 rfl (lv_at hl 0 rfl) ?_
        refine lv_iconst (v := 0) hx hb dX11_made_55 (by decide) ?_
        obtain ⟨S9, hc10, hf⟩ := cv_of hf
        refine cl_RX11_379 (As := [.int (0 : Int32)]) (rest := []) hC hR hS (c_X11_tries l G n this (0 : Int32) S5 S9 hc10 ok_this) ok_this rfl ⟨Nat.le_of_ble_eq_true rfl, Nat.le_of_ble_eq_true rfl⟩ hl.1 rfl (Nat.le_of_ble_eq_true rfl) dX11_made_56 (Nat.zero_le _) (Nat.zero_le _) (fun H locs hR hS hE11 => ?_)
        have ok_this := hE11 _ _ ok_this
        have ok_q6 := hE11 _ _ ok_q6
        have hE := hE.tr hE11
        refine lv_iload_n hx hb dX11_made_59 rfl (lv_at hl 1 rfl) ?_
        exact r_iret hC hR hS hE hf dX11_made_60
      · replace hf := if_f hf hc
        refine lv_aload_n hx hb dX11_made_14 rfl (lv_at hl 0 rfl) ?_
        refine lv_iconst (v := 0) hx hb dX11_made_15 (by decide) ?_
        refine lv_iconst (v := 2) hx hb dX11_made_16 (by decide) ?_
        obtain ⟨S12, hc13, hf⟩ := cv_of hf
        refine cl_RX11_67 (As := [.int (0 : Int32), .int (2 : Int32)]) (rest := []) hC hR hS (c_X11_copy l G n this (0 : Int32) (2 : Int32) S5 S12 hc13 ok_this) ok_this rfl ⟨Nat.le_of_ble_eq_true rfl, Nat.le_of_ble_eq_true rfl⟩ hl.1 rfl (Nat.le_of_ble_eq_true rfl) dX11_made_17 (Nat.zero_le _) (Nat.zero_le _) (fun H locs hR hS hE14 => ?_)
        have ok_this := hE14 _ _ ok_this
        have ok_q6 := hE14 _ _ ok_q6
        have hE := hE.tr hE14
        refine lv_aload_n hx hb dX11_made_20 rfl (lv_at hl 0 rfl) ?_
        refine lv_iconst (v := 2) hx hb dX11_made_21 (by decide) ?_
        obtain ⟨S15, hc16, hf⟩ := cv_of hf
        refine cl_RX11_379 (As := [.int (2 : Int32)]) (rest := []) hC hR hS (c_X11_tries l G n this (2 : Int32) S12 S15 hc16 ok_this) ok_this rfl ⟨Nat.le_of_ble_eq_true rfl, Nat.le_of_ble_eq_true rfl⟩ hl.1 rfl (Nat.le_of_ble_eq_true rfl) dX11_made_22 (Nat.zero_le _) (Nat.zero_le _) (fun H locs hR hS hE17 => ?_)
        have ok_this := hE17 _ _ ok_this
        have ok_q6 := hE17 _ _ ok_q6
        have hE := hE.tr hE17
        refine lv_aload_n hx hb dX11_made_25 rfl (lv_at hl 0 rfl) ?_
        refine lv_iload_n hx hb dX11_made_26 rfl (lv_at hl 2 rfl) ?_
        obtain ⟨x21, S18, hc19, hf⟩ := cl_of hf
        refine cl_RX11_322 (As := [.int x4]) (rest := []) hC hR hS (c_X11_blow l G n this x4 S15 x21 S18 hc19 ok_this) ok_this rfl ⟨Nat.le_of_ble_eq_true rfl, Nat.le_of_ble_eq_true rfl⟩ hl.1 rfl (Nat.le_of_ble_eq_true rfl) dX11_made_27 (Nat.zero_le _) (Nat.zero_le _) (fun H locs hR hS hE20 => ?_)
        have ok_this := hE20 _ _ ok_this
        have ok_q6 := hE20 _ _ ok_q6
        have hE := hE.tr hE20
        refine lv_pop hx hb dX11_made_30 rfl ?_
        refine lv_iload_n hx hb dX11_made_31 rfl (lv_at hl 1 rfl) ?_
        refine lv_aload_n hx hb dX11_made_32 rfl (lv_at hl 0 rfl) ?_
        obtain ⟨x25, S22, hc23, hf⟩ := cl_of hf
        refine cl_RX11_401 (As := []) (rest := [.int x3]) hC hR hS (c_X11_isMapped l G n this S18 x25 S22 hc23 ok_this) ok_this rfl ⟨Nat.le_of_ble_eq_true rfl, Nat.le_of_ble_eq_true rfl⟩ hl.1 rfl (Nat.le_of_ble_eq_true rfl) dX11_made_33 (Nat.zero_le _) (Nat.zero_le _) (fun H locs hR hS hE24 => ?_)
        have ok_this := hE24 _ _ ok_this
        have ok_q6 := hE24 _ _ ok_q6
        have hE := hE.tr hE24
        obtain ⟨j46_27, ej46_27, hf⟩ := jn_of3 hf
        have hj46_26 : ∀ (x28 : Int32) (x29 : Int32) (S30 : MS) (H : Heap) (locs : List Loc) (ls : Array Slot), j46_27 x28 x29 S30 = some (ro, So) → Rp G S30 H → va_S (gA G) s.heap H locs → Ex S S30 → Ok S30 this 11 → lv_has ls 3 [(0, .ref this), (2, .int x4)] → W p l e rX11_made s m args below meth c H locs 0 0 (MQ below (Qn G S (some (.int ro)) So) args s 0 0 (gA G)) (F0 m 46 ls [.int x29, .int x28]) := by
          intro x28 x29 S30 H locs ls hf hR hS hE ok_this hl
          rw [ej46_27] at hf
          refine lv_ior hx hb dX11_made_46 ?_
          refine bdi hf (fun x31 hf => ?_)
          refine lv_istore_n (lv' := [(1, .int x31), (0, .ref this), (2, .int x4)]) hx hb dX11_made_47 rfl hl (by decide) rfl (fun ls hl => ?_)
          refine r_iinc (n := 1) (z := 1) (lv' := fun x32 => [(2, .int x32), (1, .int x31), (0, .ref this)]) hx hb dX11_made_48 hl (k := 2) rfl (by decide) (by decide) (fun _ => rfl) hf (fun x32 ls hf hl => ?_)
          refine lv_goto (tgt := 4) hx hb dX11_made_51 (by decide) ?_
          exact hL4_1 x31 x32 S30 _ _ _ hf hR hS hE ok_this (lv_sub hl [2, 1, 0] rfl)
        refine lv_if_eq (tgt := 45) hx hb dX11_made_36 (by decide) (fun hc => ?_) (fun hc => ?_)
        · replace hf := if_t hf hc
          refine lv_iconst (v := 0) hx hb dX11_made_45 (by decide) ?_
          exact hj46_26 x3 (0 : Int32) S22 _ _ _ hf hR hS hE ok_this (lv_sub hl [0, 2] rfl)
        · replace hf := if_f hf hc
          refine lv_iconst (v := 1) hx hb dX11_made_39 (by decide) ?_
          refine lv_iload_n hx hb dX11_made_40 rfl (lv_at hl 2 rfl) ?_
          refine lv_ishl hx hb dX11_made_41 ?_
          refine lv_goto (tgt := 46) hx hb dX11_made_42 (by decide) ?_
          exact hj46_26 x3 ((1 : Int32) <<< (x4 &&& 31)) S22 _ _ _ hf hR hS hE ok_this (lv_sub hl [0, 2] rfl)
  exact hh36 n (0 : Int32) (0 : Int32) S _ _ _ hf hR hS hE ok_this (lv_sub hl [2, 1, 0] rfl)
abbrev rX11_chances : Room := { frames := 0, cells := 0, slots := 0, locals := 0 }
def f_X11_chances_L4 (n : Nat) (this : Nat) : Nat → Int32 → Int32 → MS → Option (Int32 × MS)
  | 0, _, _, _ => none
  | k + 1, x3, x4, S5 => jn (f_X11_chances_L4 n this k) fun rec4_2 => gR S5 (mR S5 this 0) 12 fun q6 => ck (inb (2 : Int32) (mN S5 q6)) ((if (mI S5 q6 (2 : Int32).toNatClampNeg) ≤ x4 then some (x3, S5) else gR S5 (mR S5 this 0) 12 fun q9 => ck (inb (((100 : Int32) + ((4 : Int32) * x4)) + (3 : Int32)) (mN S5 q9)) (bd (x3 + (mI S5 q9 (((100 : Int32) + ((4 : Int32) * x4)) + (3 : Int32)).toNatClampNeg)) fun x12 => bd (x4 + (1 : Int32)) fun x13 => rec4_2 x12 x13 S5)))
def f_X11_chances (n : Nat) (this : Nat) (S : MS) : Option (Int32 × MS) :=
  f_X11_chances_L4 n this n (0 : Int32) (0 : Int32) S
set_option maxRecDepth 100000 in
set_option maxHeartbeats 4000000 in
theorem c_X11_chances (l : Launch) (G : Gx) (n : Nat) (this : Nat) (S : MS) (ro : Int32) (So : MS) (hf : f_X11_chances n this S = some (ro, So)) (ok_this : Ok S this 11) : Cn G l yX11_chances cX11_chances 3 (some .int) rX11_chances [.ref this] S (some (.int ro)) So := by
  refine Cn.of (by decide) (Nat.le_of_ble_eq_true rfl) ?_
  intro p e s m args below meth c hC hname hR ls hl
  have hC : Cx G RX11 cX11_chances 3 (some .int) p s m args meth c := hC
  have hl : lv_has ls 3 [(0, .ref this)] := hl
  have hx := hC.x
  have hb := hC.b
  have hS : va_S (gA G) s.heap s.heap [] := va_S.rf
  have hE : Ex S S := Ex.rf S
  unfold f_X11_chances at hf
  refine lv_iconst (v := 0) hx hb dX11_chances_0 (by decide) ?_
  refine lv_istore_n (lv' := [(1, .int (0 : Int32)), (0, .ref this)]) hx hb dX11_chances_1 rfl hl (by decide) rfl (fun ls hl => ?_)
  refine lv_iconst (v := 0) hx hb dX11_chances_2 (by decide) ?_
  refine lv_istore_n (lv' := [(2, .int (0 : Int32)), (1, .int (0 : Int32)), (0, .ref this)]) hx hb dX11_chances_3 rfl hl (by decide) rfl (fun ls hl => ?_)
  have hh14 : ∀ k : Nat, ∀ (x3 : Int32) (x4 : Int32) (S5 : MS) (H : Heap) (locs : List Loc) (ls : Array Slot), f_X11_chances_L4 n this k x3 x4 S5 = some (ro, So) → Rp G S5 H → va_S (gA G) s.heap H locs → Ex S S5 → Ok S5 this 11 → lv_has ls 3 [(0, .ref this), (1, .int x3), (2, .int x4)] → W p l e rX11_chances s m args below meth c H locs 0 0 (MQ below (Qn G S (some (.int ro)) So) args s 0 0 (gA G)) (F0 m 4 ls []) := by
    intro k
    induction k with
    | zero =>
      intro x3 x4 S5 H locs ls hf hR hS hE ok_this hl
      exact absurd hf (by rw [f_X11_chances_L4]; exact fun h => by cases h)
    | succ k ih =>
      intro x3 x4 S5 H locs ls hf hR hS hE ok_this hl
      rw [f_X11_chances_L4] at hf
      obtain ⟨rec4_2, erec4_2, hf⟩ := jn_of3 hf
      have hL4_1 : ∀ (x3 : Int32) (x4 : Int32) (S5 : MS) (H : Heap) (locs : List Loc) (ls : Array Slot), rec4_2 x3 x4 S5 = some (ro, So) → Rp G S5 H → va_S (gA G) s.heap H locs → Ex S S5 → Ok S5 this 11 → lv_has ls 3 [(0, .ref this), (1, .int x3), (2, .int x4)] → W p l e rX11_chances s m args below meth c H locs 0 0 (MQ below (Qn G S (some (.int ro)) So) args s 0 0 (gA G)) (F0 m 4 ls []) := by
        intro x3 x4 S5 H locs ls hf hR hS hE ok_this hl
        rw [erec4_2] at hf
        exact ih x3 x4 S5 _ _ _ hf hR hS hE ok_this hl
      refine lv_iload_n hx hb dX11_chances_4 rfl (lv_at hl 2 rfl) ?_
      refine lv_aload_n hx hb dX11_chances_5 rfl (lv_at hl 0 rfl) ?_
      obtain ⟨q6, hq7, ok_q6, hf⟩ := gR_of hf
      refine gf_RX11_7 hC hR ok_this hq7 dX11_chances_6 ?_
      refine lv_iconst (v := 2) hx hb dX11_chances_9 (by decide) ?_
      obtain ⟨hi8, hf⟩ := ck_of hf
      refine r_iald hC hR ok_q6 hi8 dX11_chances_10 ?_
      refine lv_icmp_ge (tgt := 36) hx hb dX11_chances_11 (by decide) (fun hc => ?_) (fun hc => ?_)
      · replace hf := if_t hf hc
        refine lv_iload_n hx hb dX11_chances_36 rfl (lv_at hl 1 rfl) ?_
        exact r_iret hC hR hS hE hf dX11_chances_37
      · replace hf := if_f hf hc
        refine lv_iload_n hx hb dX11_chances_14 rfl (lv_at hl 1 rfl) ?_
        refine lv_aload_n hx hb dX11_chances_15 rfl (lv_at hl 0 rfl) ?_
        obtain ⟨q9, hq10, ok_q9, hf⟩ := gR_of hf
        refine gf_RX11_7 hC hR ok_this hq10 dX11_chances_16 ?_
        refine lv_bipush (v := 100) hx hb dX11_chances_19 (by decide) ?_
        refine lv_iconst (v := 4) hx hb dX11_chances_21 (by decide) ?_
        refine lv_iload_n hx hb dX11_chances_22 rfl (lv_at hl 2 rfl) ?_
        refine lv_imul hx hb dX11_chances_23 ?_
        refine lv_iadd hx hb dX11_chances_24 ?_
        refine lv_iconst (v := 3) hx hb dX11_chances_25 (by decide) ?_
        refine lv_iadd hx hb dX11_chances_26 ?_
        obtain ⟨hi11, hf⟩ := ck_of hf
        refine r_iald hC hR ok_q9 hi11 dX11_chances_27 ?_
        refine lv_iadd hx hb dX11_chances_28 ?_
        refine bdi hf (fun x12 hf => ?_)
        refine lv_istore_n (lv' := [(1, .int x12), (0, .ref this), (2, .int x4)]) hx hb dX11_chances_29 rfl hl (by decide) rfl (fun ls hl => ?_)
        refine r_iinc (n := 1) (z := 1) (lv' := fun x13 => [(2, .int x13), (1, .int x12), (0, .ref this)]) hx hb dX11_chances_30 hl (k := 2) rfl (by decide) (by decide) (fun _ => rfl) hf (fun x13 ls hf hl => ?_)
        refine lv_goto (tgt := 4) hx hb dX11_chances_33 (by decide) ?_
        exact hL4_1 x12 x13 S5 _ _ _ hf hR hS hE ok_this (lv_sub hl [2, 1, 0] rfl)
  exact hh14 n (0 : Int32) (0 : Int32) S _ _ _ hf hR hS hE ok_this (lv_sub hl [2, 1, 0] rfl)
abbrev rX11_drawnWind : Room := { frames := 0, cells := 0, slots := 0, locals := 0 }
def f_X11_drawnWind_L4 (n : Nat) (this : Nat) : Nat → Int32 → Int32 → MS → Option (Int32 × MS)
  | 0, _, _, _ => none
  | k + 1, x3, x4, S5 => jn (f_X11_drawnWind_L4 n this k) fun rec4_2 => gR S5 (mR S5 this 0) 12 fun q6 => ck (inb (((100 : Int32) + ((4 : Int32) * x4)) + (3 : Int32)) (mN S5 q6)) ((if x3 < (mI S5 q6 (((100 : Int32) + ((4 : Int32) * x4)) + (3 : Int32)).toNatClampNeg) then some (x4, S5) else gR S5 (mR S5 this 0) 12 fun q9 => ck (inb (((100 : Int32) + ((4 : Int32) * x4)) + (3 : Int32)) (mN S5 q9)) (bd (x3 - (mI S5 q9 (((100 : Int32) + ((4 : Int32) * x4)) + (3 : Int32)).toNatClampNeg)) fun x12 => bd (x4 + (1 : Int32)) fun x13 => rec4_2 x12 x13 S5)))
def f_X11_drawnWind (n : Nat) (this : Nat) (a1 : Int32) (S : MS) : Option (Int32 × MS) :=
  f_X11_drawnWind_L4 n this n a1 (0 : Int32) S
set_option maxRecDepth 100000 in
set_option maxHeartbeats 4000000 in
theorem c_X11_drawnWind (l : Launch) (G : Gx) (n : Nat) (this : Nat) (a1 : Int32) (S : MS) (ro : Int32) (So : MS) (hf : f_X11_drawnWind n this a1 S = some (ro, So)) (ok_this : Ok S this 11) : Cn G l yX11_drawnWind cX11_drawnWind 4 (some .int) rX11_drawnWind [.ref this, .int a1] S (some (.int ro)) So := by
  refine Cn.of (by decide) (Nat.le_of_ble_eq_true rfl) ?_
  intro p e s m args below meth c hC hname hR ls hl
  have hC : Cx G RX11 cX11_drawnWind 4 (some .int) p s m args meth c := hC
  have hl : lv_has ls 4 [(0, .ref this), (1, .int a1)] := hl
  have hx := hC.x
  have hb := hC.b
  have hS : va_S (gA G) s.heap s.heap [] := va_S.rf
  have hE : Ex S S := Ex.rf S
  unfold f_X11_drawnWind at hf
  refine lv_iload_n hx hb dX11_drawnWind_0 rfl (lv_at hl 1 rfl) ?_
  refine lv_istore_n (lv' := [(2, .int a1), (0, .ref this), (1, .int a1)]) hx hb dX11_drawnWind_1 rfl hl (by decide) rfl (fun ls hl => ?_)
  refine lv_iconst (v := 0) hx hb dX11_drawnWind_2 (by decide) ?_
  refine lv_istore_n (lv' := [(3, .int (0 : Int32)), (2, .int a1), (0, .ref this), (1, .int a1)]) hx hb dX11_drawnWind_3 rfl hl (by decide) rfl (fun ls hl => ?_)
  have hh14 : ∀ k : Nat, ∀ (x3 : Int32) (x4 : Int32) (S5 : MS) (H : Heap) (locs : List Loc) (ls : Array Slot), f_X11_drawnWind_L4 n this k x3 x4 S5 = some (ro, So) → Rp G S5 H → va_S (gA G) s.heap H locs → Ex S S5 → Ok S5 this 11 → lv_has ls 4 [(0, .ref this), (2, .int x3), (3, .int x4)] → W p l e rX11_drawnWind s m args below meth c H locs 0 0 (MQ below (Qn G S (some (.int ro)) So) args s 0 0 (gA G)) (F0 m 4 ls []) := by
    intro k
    induction k with
    | zero =>
      intro x3 x4 S5 H locs ls hf hR hS hE ok_this hl
      exact absurd hf (by rw [f_X11_drawnWind_L4]; exact fun h => by cases h)
    | succ k ih =>
      intro x3 x4 S5 H locs ls hf hR hS hE ok_this hl
      rw [f_X11_drawnWind_L4] at hf
      obtain ⟨rec4_2, erec4_2, hf⟩ := jn_of3 hf
      have hL4_1 : ∀ (x3 : Int32) (x4 : Int32) (S5 : MS) (H : Heap) (locs : List Loc) (ls : Array Slot), rec4_2 x3 x4 S5 = some (ro, So) → Rp G S5 H → va_S (gA G) s.heap H locs → Ex S S5 → Ok S5 this 11 → lv_has ls 4 [(0, .ref this), (2, .int x3), (3, .int x4)] → W p l e rX11_drawnWind s m args below meth c H locs 0 0 (MQ below (Qn G S (some (.int ro)) So) args s 0 0 (gA G)) (F0 m 4 ls []) := by
        intro x3 x4 S5 H locs ls hf hR hS hE ok_this hl
        rw [erec4_2] at hf
        exact ih x3 x4 S5 _ _ _ hf hR hS hE ok_this hl
      refine lv_iload_n hx hb dX11_drawnWind_4 rfl (lv_at hl 1 rfl) ?_
      refine lv_aload_n hx hb dX11_drawnWind_5 rfl (lv_at hl 0 rfl) ?_
      obtain ⟨q6, hq7, ok_q6, hf⟩ := gR_of hf
      refine gf_RX11_7 hC hR ok_this hq7 dX11_drawnWind_6 ?_
      refine lv_bipush (v := 100) hx hb dX11_drawnWind_9 (by decide) ?_
      refine lv_iconst (v := 4) hx hb dX11_drawnWind_11 (by decide) ?_
      refine lv_iload_n hx hb dX11_drawnWind_12 rfl (lv_at hl 2 rfl) ?_
      refine lv_imul hx hb dX11_drawnWind_13 ?_
      refine lv_iadd hx hb dX11_drawnWind_14 ?_
      refine lv_iconst (v := 3) hx hb dX11_drawnWind_15 (by decide) ?_
      refine lv_iadd hx hb dX11_drawnWind_16 ?_
      obtain ⟨hi8, hf⟩ := ck_of hf
      refine r_iald hC hR ok_q6 hi8 dX11_drawnWind_17 ?_
      refine lv_icmp_lt (tgt := 43) hx hb dX11_drawnWind_18 (by decide) (fun hc => ?_) (fun hc => ?_)
      · replace hf := if_t hf hc
        refine lv_iload_n hx hb dX11_drawnWind_43 rfl (lv_at hl 2 rfl) ?_
        exact r_iret hC hR hS hE hf dX11_drawnWind_44
      · replace hf := if_f hf hc
        refine lv_iload_n hx hb dX11_drawnWind_21 rfl (lv_at hl 1 rfl) ?_
        refine lv_aload_n hx hb dX11_drawnWind_22 rfl (lv_at hl 0 rfl) ?_
        obtain ⟨q9, hq10, ok_q9, hf⟩ := gR_of hf
        refine gf_RX11_7 hC hR ok_this hq10 dX11_drawnWind_23 ?_
        refine lv_bipush (v := 100) hx hb dX11_drawnWind_26 (by decide) ?_
        refine lv_iconst (v := 4) hx hb dX11_drawnWind_28 (by decide) ?_
        refine lv_iload_n hx hb dX11_drawnWind_29 rfl (lv_at hl 2 rfl) ?_
        refine lv_imul hx hb dX11_drawnWind_30 ?_
        refine lv_iadd hx hb dX11_drawnWind_31 ?_
        refine lv_iconst (v := 3) hx hb dX11_drawnWind_32 (by decide) ?_
        refine lv_iadd hx hb dX11_drawnWind_33 ?_
        obtain ⟨hi11, hf⟩ := ck_of hf
        refine r_iald hC hR ok_q9 hi11 dX11_drawnWind_34 ?_
        refine lv_isub hx hb dX11_drawnWind_35 ?_
        refine bdi hf (fun x12 hf => ?_)
        refine lv_istore_n (lv' := [(2, .int x12), (0, .ref this), (3, .int x4)]) hx hb dX11_drawnWind_36 rfl hl (by decide) rfl (fun ls hl => ?_)
        refine r_iinc (n := 1) (z := 1) (lv' := fun x13 => [(3, .int x13), (2, .int x12), (0, .ref this)]) hx hb dX11_drawnWind_37 hl (k := 2) rfl (by decide) (by decide) (fun _ => rfl) hf (fun x13 ls hf hl => ?_)
        refine lv_goto (tgt := 4) hx hb dX11_drawnWind_40 (by decide) ?_
        exact hL4_1 x12 x13 S5 _ _ _ hf hR hS hE ok_this (lv_sub hl [2, 1, 0] rfl)
  exact hh14 n a1 (0 : Int32) S _ _ _ hf hR hS hE ok_this (lv_sub hl [2, 1, 0] rfl)
abbrev rX11_hours : Room := { frames := 7, cells := 0, slots := 0, locals := 172 }
def f_X11_hours_L57 (n : Nat) (this : Nat) (a2 : Int32) : Nat → Int32 → Int32 → Int32 → MS → Option (Int32 × MS)
  | 0, _, _, _, _ => none
  | k + 1, x19, x20, x21, S22 => jn (f_X11_hours_L57 n this a2 k) fun rec57_18 => (if a2 ≤ x21 then some (x20, S22) else cl (f_X11_chances n this S22) fun x26 S23 => dv x26 (cl (f_X11_drawnWind n this (x19 - x19 / x26 * x26) S23) fun x31 S28 => cl (f_X11_blow n this x31 S28) fun x35 S32 => bd (x20 + x35) fun x36 => dv (30103 : Int32) (bd (((x19 * (179 : Int32)) + (41 : Int32)) - ((x19 * (179 : Int32)) + (41 : Int32)) / (30103 : Int32) * (30103 : Int32)) fun x38 => bd (x21 + (1 : Int32)) fun x39 => rec57_18 x38 x36 x39 S32)))
def f_X11_hours (n : Nat) (this : Nat) (a1 : Int32) (a2 : Int32) (S : MS) : Option (Int32 × MS) :=
  cl (f_X11_isIn n a1 (0 : Int32) (9999 : Int32) S) fun x4 S1 => (if x4 = 0 then some ((-1 : Int32), S1) else cl (f_X11_isIn n a2 (1 : Int32) (40 : Int32) S1) fun x8 S5 => (if x8 = 0 then some ((-1 : Int32), S5) else cl (f_X11_chances n this S5) fun x12 S9 => (if x12 = 0 then some ((-1 : Int32), S9) else gR S9 (mR S9 this 0) 12 fun q13 => ck (inb (0 : Int32) (mN S9 q13)) ((if ((mI S9 q13 (0 : Int32).toNatClampNeg) + a2) ≤ (999 : Int32) then bd ((a1 * (3 : Int32)) + (8 : Int32)) fun x16 => f_X11_hours_L57 n this a2 n x16 (0 : Int32) (0 : Int32) S9 else some ((-1 : Int32), S9))))))
set_option maxRecDepth 100000 in
set_option maxHeartbeats 4000000 in
theorem c_X11_hours (l : Launch) (G : Gx) (n : Nat) (this : Nat) (a1 : Int32) (a2 : Int32) (S : MS) (ro : Int32) (So : MS) (hf : f_X11_hours n this a1 a2 S = some (ro, So)) (ok_this : Ok S this 11) : Cn G l yX11_hours cX11_hours 6 (some .int) rX11_hours [.ref this, .int a1, .int a2] S (some (.int ro)) So := by
  refine Cn.of (by decide) (Nat.le_of_ble_eq_true rfl) ?_
  intro p e s m args below meth c hC hname hR ls hl
  have hC : Cx G RX11 cX11_hours 6 (some .int) p s m args meth c := hC
  have hl : lv_has ls 6 [(0, .ref this), (1, .int a1), (2, .int a2)] := hl
  have hx := hC.x
  have hb := hC.b
  have hS : va_S (gA G) s.heap s.heap [] := va_S.rf
  have hE : Ex S S := Ex.rf S
  unfold f_X11_hours at hf
  refine lv_iload_n hx hb dX11_hours_0 rfl (lv_at hl 1 rfl) ?_
  refine lv_iconst (v := 0) hx hb dX11_hours_1 (by decide) ?_
  refine lv_sipush (v := 9999) hx hb dX11_hours_2 (by decide) ?_
  obtain ⟨x4, S1, hc2, hf⟩ := cl_of hf
  refine cl_RX11_71 (As := [.int a1, .int (0 : Int32), .int (9999 : Int32)]) (rest := []) hC hR hS (c_X11_isIn l G n a1 (0 : Int32) (9999 : Int32) S x4 S1 hc2 ) rfl ⟨Nat.le_of_ble_eq_true rfl, Nat.le_of_ble_eq_true rfl⟩ hl.1 rfl (Nat.le_of_ble_eq_true rfl) dX11_hours_5 (Nat.zero_le _) (Nat.zero_le _) (fun H locs hR hS hE3 => ?_)
  have ok_this := hE3 _ _ ok_this
  have hE := hE.tr hE3
  refine lv_if_eq (tgt := 42) hx hb dX11_hours_8 (by decide) (fun hc => ?_) (fun hc => ?_)
  · replace hf := if_t hf hc
    refine lv_iconst (v := -1) hx hb dX11_hours_42 (by decide) ?_
    exact r_iret hC hR hS hE hf dX11_hours_43
  · replace hf := if_f hf hc
    refine lv_iload_n hx hb dX11_hours_11 rfl (lv_at hl 2 rfl) ?_
    refine lv_iconst (v := 1) hx hb dX11_hours_12 (by decide) ?_
    refine lv_bipush (v := 40) hx hb dX11_hours_13 (by decide) ?_
    obtain ⟨x8, S5, hc6, hf⟩ := cl_of hf
    refine cl_RX11_71 (As := [.int a2, .int (1 : Int32), .int (40 : Int32)]) (rest := []) hC hR hS (c_X11_isIn l G n a2 (1 : Int32) (40 : Int32) S1 x8 S5 hc6 ) rfl ⟨Nat.le_of_ble_eq_true rfl, Nat.le_of_ble_eq_true rfl⟩ hl.1 rfl (Nat.le_of_ble_eq_true rfl) dX11_hours_15 (Nat.zero_le _) (Nat.zero_le _) (fun H locs hR hS hE7 => ?_)
    have ok_this := hE7 _ _ ok_this
    have hE := hE.tr hE7
    refine lv_if_eq (tgt := 42) hx hb dX11_hours_18 (by decide) (fun hc => ?_) (fun hc => ?_)
    · replace hf := if_t hf hc
      refine lv_iconst (v := -1) hx hb dX11_hours_42 (by decide) ?_
      exact r_iret hC hR hS hE hf dX11_hours_43
    · replace hf := if_f hf hc
      refine lv_aload_n hx hb dX11_hours_21 rfl (lv_at hl 0 rfl) ?_
      obtain ⟨x12, S9, hc10, hf⟩ := cl_of hf
      refine cl_RX11_404 (As := []) (rest := []) hC hR hS (c_X11_chances l G n this S5 x12 S9 hc10 ok_this) ok_this rfl ⟨Nat.le_of_ble_eq_true rfl, Nat.le_of_ble_eq_true rfl⟩ hl.1 rfl (Nat.le_of_ble_eq_true rfl) dX11_hours_22 (Nat.zero_le _) (Nat.zero_le _) (fun H locs hR hS hE11 => ?_)
      have ok_this := hE11 _ _ ok_this
      have hE := hE.tr hE11
      refine lv_if_eq (tgt := 42) hx hb dX11_hours_25 (by decide) (fun hc => ?_) (fun hc => ?_)
      · replace hf := if_t hf hc
        refine lv_iconst (v := -1) hx hb dX11_hours_42 (by decide) ?_
        exact r_iret hC hR hS hE hf dX11_hours_43
      · replace hf := if_f hf hc
        refine lv_aload_n hx hb dX11_hours_28 rfl (lv_at hl 0 rfl) ?_
        obtain ⟨q13, hq14, ok_q13, hf⟩ := gR_of hf
        refine gf_RX11_7 hC hR ok_this hq14 dX11_hours_29 ?_
        refine lv_iconst (v := 0) hx hb dX11_hours_32 (by decide) ?_
        obtain ⟨hi15, hf⟩ := ck_of hf
        refine r_iald hC hR ok_q13 hi15 dX11_hours_33 ?_
        refine lv_iload_n hx hb dX11_hours_34 rfl (lv_at hl 2 rfl) ?_
        refine lv_iadd hx hb dX11_hours_35 ?_
        refine lv_sipush (v := 999) hx hb dX11_hours_36 (by decide) ?_
        refine lv_icmp_le (tgt := 44) hx hb dX11_hours_39 (by decide) (fun hc => ?_) (fun hc => ?_)
        · replace hf := if_t hf hc
          refine lv_iload_n hx hb dX11_hours_44 rfl (lv_at hl 1 rfl) ?_
          refine lv_iconst (v := 3) hx hb dX11_hours_45 (by decide) ?_
          refine lv_imul hx hb dX11_hours_46 ?_
          refine lv_bipush (v := 8) hx hb dX11_hours_47 (by decide) ?_
          refine lv_iadd hx hb dX11_hours_49 ?_
          refine bdi hf (fun x16 hf => ?_)
          refine lv_istore_n (lv' := [(3, .int x16), (0, .ref this), (1, .int a1), (2, .int a2)]) hx hb dX11_hours_50 rfl hl (by decide) rfl (fun ls hl => ?_)
          refine lv_iconst (v := 0) hx hb dX11_hours_51 (by decide) ?_
          refine lv_istore (lv' := [(4, .int (0 : Int32)), (3, .int x16), (0, .ref this), (1, .int a1), (2, .int a2)]) hx hb dX11_hours_52 hl (by decide) rfl (fun ls hl => ?_)
          refine lv_iconst (v := 0) hx hb dX11_hours_54 (by decide) ?_
          refine lv_istore (lv' := [(5, .int (0 : Int32)), (4, .int (0 : Int32)), (3, .int x16), (0, .ref this), (1, .int a1), (2, .int a2)]) hx hb dX11_hours_55 hl (by decide) rfl (fun ls hl => ?_)
          have hh40 : ∀ k : Nat, ∀ (x19 : Int32) (x20 : Int32) (x21 : Int32) (S22 : MS) (H : Heap) (locs : List Loc) (ls : Array Slot), f_X11_hours_L57 n this a2 k x19 x20 x21 S22 = some (ro, So) → Rp G S22 H → va_S (gA G) s.heap H locs → Ex S S22 → Ok S22 this 11 → lv_has ls 6 [(0, .ref this), (2, .int a2), (3, .int x19), (4, .int x20), (5, .int x21)] → W p l e rX11_hours s m args below meth c H locs 0 0 (MQ below (Qn G S (some (.int ro)) So) args s 0 0 (gA G)) (F0 m 57 ls []) := by
            intro k
            induction k with
            | zero =>
              intro x19 x20 x21 S22 H locs ls hf hR hS hE ok_this hl
              exact absurd hf (by rw [f_X11_hours_L57]; exact fun h => by cases h)
            | succ k ih =>
              intro x19 x20 x21 S22 H locs ls hf hR hS hE ok_this hl
              rw [f_X11_hours_L57] at hf
              obtain ⟨rec57_18, erec57_18, hf⟩ := jn_of4 hf
              have hL57_17 : ∀ (x19 : Int32) (x20 : Int32) (x21 : Int32) (S22 : MS) (H : Heap) (locs : List Loc) (ls : Array Slot), rec57_18 x19 x20 x21 S22 = some (ro, So) → Rp G S22 H → va_S (gA G) s.heap H locs → Ex S S22 → Ok S22 this 11 → lv_has ls 6 [(0, .ref this), (2, .int a2), (3, .int x19), (4, .int x20), (5, .int x21)] → W p l e rX11_hours s m args below meth c H locs 0 0 (MQ below (Qn G S (some (.int ro)) So) args s 0 0 (gA G)) (F0 m 57 ls []) := by
                intro x19 x20 x21 S22 H locs ls hf hR hS hE ok_this hl
                rw [erec57_18] at hf
                exact ih x19 x20 x21 S22 _ _ _ hf hR hS hE ok_this hl
              refine lv_iload hx hb dX11_hours_57 (lv_at hl 4 rfl) ?_
              refine lv_iload_n hx hb dX11_hours_59 rfl (lv_at hl 1 rfl) ?_
              refine lv_icmp_ge (tgt := 101) hx hb dX11_hours_60 (by decide) (fun hc => ?_) (fun hc => ?_)
              · replace hf := if_t hf hc
                refine lv_iload hx hb dX11_hours_101 (lv_at hl 3 rfl) ?_
                exact r_iret hC hR hS hE hf dX11_hours_103
              · replace hf := if_f hf hc
                refine lv_iload hx hb dX11_hours_63 (lv_at hl 3 rfl) ?_
                refine lv_aload_n hx hb dX11_hours_65 rfl (lv_at hl 0 rfl) ?_
                refine lv_aload_n hx hb dX11_hours_66 rfl (lv_at hl 0 rfl) ?_
                refine lv_iload_n hx hb dX11_hours_67 rfl (lv_at hl 2 rfl) ?_
                refine lv_aload_n hx hb dX11_hours_68 rfl (lv_at hl 0 rfl) ?_
                obtain ⟨x26, S23, hc24, hf⟩ := cl_of hf
                refine cl_RX11_404 (As := []) (rest := [.int x19, .ref this, .ref this, .int x20]) hC hR hS (c_X11_chances l G n this S22 x26 S23 hc24 ok_this) ok_this rfl ⟨Nat.le_of_ble_eq_true rfl, Nat.le_of_ble_eq_true rfl⟩ hl.1 rfl (Nat.le_of_ble_eq_true rfl) dX11_hours_69 (Nat.zero_le _) (Nat.zero_le _) (fun H locs hR hS hE25 => ?_)
                have ok_this := hE25 _ _ ok_this
                have hE := hE.tr hE25
                obtain ⟨hn27, hf⟩ := dv_of hf
                refine lv_irem hx hb dX11_hours_72 hn27 ?_
                obtain ⟨x31, S28, hc29, hf⟩ := cl_of hf
                refine cl_RX11_407 (As := [.int (x19 - x19 / x26 * x26)]) (rest := [.ref this, .int x20]) hC hR hS (c_X11_drawnWind l G n this (x19 - x19 / x26 * x26) S23 x31 S28 hc29 ok_this) ok_this rfl ⟨Nat.le_of_ble_eq_true rfl, Nat.le_of_ble_eq_true rfl⟩ hl.1 rfl (Nat.le_of_ble_eq_true rfl) dX11_hours_73 (Nat.zero_le _) (Nat.zero_le _) (fun H locs hR hS hE30 => ?_)
                have ok_this := hE30 _ _ ok_this
                have hE := hE.tr hE30
                obtain ⟨x35, S32, hc33, hf⟩ := cl_of hf
                refine cl_RX11_322 (As := [.int x31]) (rest := [.int x20]) hC hR hS (c_X11_blow l G n this x31 S28 x35 S32 hc33 ok_this) ok_this rfl ⟨Nat.le_of_ble_eq_true rfl, Nat.le_of_ble_eq_true rfl⟩ hl.1 rfl (Nat.le_of_ble_eq_true rfl) dX11_hours_76 (Nat.zero_le _) (Nat.zero_le _) (fun H locs hR hS hE34 => ?_)
                have ok_this := hE34 _ _ ok_this
                have hE := hE.tr hE34
                refine lv_iadd hx hb dX11_hours_79 ?_
                refine bdi hf (fun x36 hf => ?_)
                refine lv_istore (lv' := [(4, .int x36), (0, .ref this), (2, .int a2), (3, .int x19), (5, .int x21)]) hx hb dX11_hours_80 hl (by decide) rfl (fun ls hl => ?_)
                refine lv_iload_n hx hb dX11_hours_82 rfl (lv_at hl 3 rfl) ?_
                refine lv_sipush (v := 179) hx hb dX11_hours_83 (by decide) ?_
                refine lv_imul hx hb dX11_hours_86 ?_
                refine lv_bipush (v := 41) hx hb dX11_hours_87 (by decide) ?_
                refine lv_iadd hx hb dX11_hours_89 ?_
                refine lv_sipush (v := 30103) hx hb dX11_hours_90 (by decide) ?_
                obtain ⟨hn37, hf⟩ := dv_of hf
                refine lv_irem hx hb dX11_hours_93 hn37 ?_
                refine bdi hf (fun x38 hf => ?_)
                refine lv_istore_n (lv' := [(3, .int x38), (4, .int x36), (0, .ref this), (2, .int a2), (5, .int x21)]) hx hb dX11_hours_94 rfl hl (by decide) rfl (fun ls hl => ?_)
                refine r_iinc (n := 1) (z := 1) (lv' := fun x39 => [(5, .int x39), (3, .int x38), (4, .int x36), (0, .ref this), (2, .int a2)]) hx hb dX11_hours_95 hl (k := 4) rfl (by decide) (by decide) (fun _ => rfl) hf (fun x39 ls hf hl => ?_)
                refine lv_goto (tgt := 57) hx hb dX11_hours_98 (by decide) ?_
                exact hL57_17 x38 x36 x39 S32 _ _ _ hf hR hS hE ok_this (lv_sub hl [3, 4, 1, 2, 0] rfl)
          exact hh40 n x16 (0 : Int32) (0 : Int32) S9 _ _ _ hf hR hS hE ok_this (lv_sub hl [3, 5, 2, 1, 0] rfl)
        · replace hf := if_f hf hc
          refine lv_iconst (v := -1) hx hb dX11_hours_42 (by decide) ?_
          exact r_iret hC hR hS hE hf dX11_hours_43
abbrev rX11_image : Room := { frames := 1, cells := 0, slots := 0, locals := 23 }
def f_X11_image (n : Nat) (this : Nat) (S : MS) : Option (Int32 × MS) :=
  cv (f_X11_copy n this (0 : Int32) (1 : Int32) S) fun S1 => gR S1 (mR S1 this 0) 12 fun q4 => ck (inb (0 : Int32) (mN S1 q4)) (some ((mI S1 q4 (0 : Int32).toNatClampNeg), S1))
set_option maxRecDepth 100000 in
set_option maxHeartbeats 4000000 in
theorem c_X11_image (l : Launch) (G : Gx) (n : Nat) (this : Nat) (S : MS) (ro : Int32) (So : MS) (hf : f_X11_image n this S = some (ro, So)) (ok_this : Ok S this 11) : Cn G l yX11_image cX11_image 1 (some .int) rX11_image [.ref this] S (some (.int ro)) So := by
  refine Cn.of (by decide) (Nat.le_of_ble_eq_true rfl) ?_
  intro p e s m args below meth c hC hname hR ls hl
  have hC : Cx G RX11 cX11_image 1 (some .int) p s m args meth c := hC
  have hl : lv_has ls 1 [(0, .ref this)] := hl
  have hx := hC.x
  have hb := hC.b
  have hS : va_S (gA G) s.heap s.heap [] := va_S.rf
  have hE : Ex S S := Ex.rf S
  unfold f_X11_image at hf
  refine lv_aload_n hx hb dX11_image_0 rfl (lv_at hl 0 rfl) ?_
  refine lv_iconst (v := 0) hx hb dX11_image_1 (by decide) ?_
  refine lv_iconst (v := 1) hx hb dX11_image_2 (by decide) ?_
  obtain ⟨S1, hc2, hf⟩ := cv_of hf
  refine cl_RX11_67 (As := [.int (0 : Int32), .int (1 : Int32)]) (rest := []) hC hR hS (c_X11_copy l G n this (0 : Int32) (1 : Int32) S S1 hc2 ok_this) ok_this rfl ⟨Nat.le_of_ble_eq_true rfl, Nat.le_of_ble_eq_true rfl⟩ hl.1 rfl (Nat.le_of_ble_eq_true rfl) dX11_image_3 (Nat.zero_le _) (Nat.zero_le _) (fun H locs hR hS hE3 => ?_)
  have ok_this := hE3 _ _ ok_this
  have hE := hE.tr hE3
  refine lv_aload_n hx hb dX11_image_6 rfl (lv_at hl 0 rfl) ?_
  obtain ⟨q4, hq5, ok_q4, hf⟩ := gR_of hf
  refine gf_RX11_7 hC hR ok_this hq5 dX11_image_7 ?_
  refine lv_iconst (v := 0) hx hb dX11_image_10 (by decide) ?_
  obtain ⟨hi6, hf⟩ := ck_of hf
  refine r_iald hC hR ok_q4 hi6 dX11_image_11 ?_
  exact r_iret hC hR hS hE hf dX11_image_12
abbrev rX11_back : Room := { frames := 1, cells := 0, slots := 0, locals := 23 }
def f_X11_back (n : Nat) (this : Nat) (S : MS) : Option (Int32 × MS) :=
  cv (f_X11_copy n this (1 : Int32) (0 : Int32) S) fun S1 => gR S1 (mR S1 this 0) 12 fun q4 => ck (inb (0 : Int32) (mN S1 q4)) (some ((mI S1 q4 (0 : Int32).toNatClampNeg), S1))
set_option maxRecDepth 100000 in
set_option maxHeartbeats 4000000 in
theorem c_X11_back (l : Launch) (G : Gx) (n : Nat) (this : Nat) (S : MS) (ro : Int32) (So : MS) (hf : f_X11_back n this S = some (ro, So)) (ok_this : Ok S this 11) : Cn G l yX11_back cX11_back 1 (some .int) rX11_back [.ref this] S (some (.int ro)) So := by
  refine Cn.of (by decide) (Nat.le_of_ble_eq_true rfl) ?_
  intro p e s m args below meth c hC hname hR ls hl
  have hC : Cx G RX11 cX11_back 1 (some .int) p s m args meth c := hC
  have hl : lv_has ls 1 [(0, .ref this)] := hl
  have hx := hC.x
  have hb := hC.b
  have hS : va_S (gA G) s.heap s.heap [] := va_S.rf
  have hE : Ex S S := Ex.rf S
  unfold f_X11_back at hf
  refine lv_aload_n hx hb dX11_back_0 rfl (lv_at hl 0 rfl) ?_
  refine lv_iconst (v := 1) hx hb dX11_back_1 (by decide) ?_
  refine lv_iconst (v := 0) hx hb dX11_back_2 (by decide) ?_
  obtain ⟨S1, hc2, hf⟩ := cv_of hf
  refine cl_RX11_67 (As := [.int (1 : Int32), .int (0 : Int32)]) (rest := []) hC hR hS (c_X11_copy l G n this (1 : Int32) (0 : Int32) S S1 hc2 ok_this) ok_this rfl ⟨Nat.le_of_ble_eq_true rfl, Nat.le_of_ble_eq_true rfl⟩ hl.1 rfl (Nat.le_of_ble_eq_true rfl) dX11_back_3 (Nat.zero_le _) (Nat.zero_le _) (fun H locs hR hS hE3 => ?_)
  have ok_this := hE3 _ _ ok_this
  have hE := hE.tr hE3
  refine lv_aload_n hx hb dX11_back_6 rfl (lv_at hl 0 rfl) ?_
  obtain ⟨q4, hq5, ok_q4, hf⟩ := gR_of hf
  refine gf_RX11_7 hC hR ok_this hq5 dX11_back_7 ?_
  refine lv_iconst (v := 0) hx hb dX11_back_10 (by decide) ?_
  obtain ⟨hi6, hf⟩ := ck_of hf
  refine r_iald hC hR ok_q4 hi6 dX11_back_11 ?_
  exact r_iret hC hR hS hE hf dX11_back_12
abbrev rX11_crops : Room := { frames := 0, cells := 0, slots := 0, locals := 0 }
def f_X11_crops_L4 (n : Nat) (this : Nat) : Nat → Int32 → Int32 → MS → Option (Int32 × MS)
  | 0, _, _, _ => none
  | k + 1, x3, x4, S5 => jn (f_X11_crops_L4 n this k) fun rec4_2 => (if (mI S5 this 3) ≤ x4 then some (x3, S5) else gR S5 (mR S5 this 0) 12 fun q6 => ck (inb ((240 : Int32) + x4) (mN S5 q6)) (jn (fun (x11 : Int32) (x12 : Int32) (S13 : MS) => bd (x11 + x12) fun x14 => bd (x4 + (1 : Int32)) fun x15 => rec4_2 x14 x15 S13) fun j31_10 => (if (mI S5 q6 ((240 : Int32) + x4).toNatClampNeg) < 0 then j31_10 x3 (0 : Int32) S5 else j31_10 x3 (1 : Int32) S5)))
def f_X11_crops (n : Nat) (this : Nat) (S : MS) : Option (Int32 × MS) :=
  f_X11_crops_L4 n this n (0 : Int32) (0 : Int32) S
set_option maxRecDepth 100000 in
set_option maxHeartbeats 4000000 in
theorem c_X11_crops (l : Launch) (G : Gx) (n : Nat) (this : Nat) (S : MS) (ro : Int32) (So : MS) (hf : f_X11_crops n this S = some (ro, So)) (ok_this : Ok S this 11) : Cn G l yX11_crops cX11_crops 3 (some .int) rX11_crops [.ref this] S (some (.int ro)) So := by
  refine Cn.of (by decide) (Nat.le_of_ble_eq_true rfl) ?_
  intro p e s m args below meth c hC hname hR ls hl
  have hC : Cx G RX11 cX11_crops 3 (some .int) p s m args meth c := hC
  have hl : lv_has ls 3 [(0, .ref this)] := hl
  have hx := hC.x
  have hb := hC.b
  have hS : va_S (gA G) s.heap s.heap [] := va_S.rf
  have hE : Ex S S := Ex.rf S
  unfold f_X11_crops at hf
  refine lv_iconst (v := 0) hx hb dX11_crops_0 (by decide) ?_
  refine lv_istore_n (lv' := [(1, .int (0 : Int32)), (0, .ref this)]) hx hb dX11_crops_1 rfl hl (by decide) rfl (fun ls hl => ?_)
  refine lv_iconst (v := 0) hx hb dX11_crops_2 (by decide) ?_
  refine lv_istore_n (lv' := [(2, .int (0 : Int32)), (1, .int (0 : Int32)), (0, .ref this)]) hx hb dX11_crops_3 rfl hl (by decide) rfl (fun ls hl => ?_)
  have hh19 : ∀ k : Nat, ∀ (x3 : Int32) (x4 : Int32) (S5 : MS) (H : Heap) (locs : List Loc) (ls : Array Slot), f_X11_crops_L4 n this k x3 x4 S5 = some (ro, So) → Rp G S5 H → va_S (gA G) s.heap H locs → Ex S S5 → Ok S5 this 11 → lv_has ls 3 [(0, .ref this), (1, .int x3), (2, .int x4)] → W p l e rX11_crops s m args below meth c H locs 0 0 (MQ below (Qn G S (some (.int ro)) So) args s 0 0 (gA G)) (F0 m 4 ls []) := by
    intro k
    induction k with
    | zero =>
      intro x3 x4 S5 H locs ls hf hR hS hE ok_this hl
      exact absurd hf (by rw [f_X11_crops_L4]; exact fun h => by cases h)
    | succ k ih =>
      intro x3 x4 S5 H locs ls hf hR hS hE ok_this hl
      rw [f_X11_crops_L4] at hf
      obtain ⟨rec4_2, erec4_2, hf⟩ := jn_of3 hf
      have hL4_1 : ∀ (x3 : Int32) (x4 : Int32) (S5 : MS) (H : Heap) (locs : List Loc) (ls : Array Slot), rec4_2 x3 x4 S5 = some (ro, So) → Rp G S5 H → va_S (gA G) s.heap H locs → Ex S S5 → Ok S5 this 11 → lv_has ls 3 [(0, .ref this), (1, .int x3), (2, .int x4)] → W p l e rX11_crops s m args below meth c H locs 0 0 (MQ below (Qn G S (some (.int ro)) So) args s 0 0 (gA G)) (F0 m 4 ls []) := by
        intro x3 x4 S5 H locs ls hf hR hS hE ok_this hl
        rw [erec4_2] at hf
        exact ih x3 x4 S5 _ _ _ hf hR hS hE ok_this hl
      refine lv_iload_n hx hb dX11_crops_4 rfl (lv_at hl 2 rfl) ?_
      refine lv_aload_n hx hb dX11_crops_5 rfl (lv_at hl 0 rfl) ?_
      refine gf_RX11_64 hC hR ok_this dX11_crops_6 ?_
      refine lv_icmp_ge (tgt := 39) hx hb dX11_crops_9 (by decide) (fun hc => ?_) (fun hc => ?_)
      · replace hf := if_t hf hc
        refine lv_iload_n hx hb dX11_crops_39 rfl (lv_at hl 1 rfl) ?_
        exact r_iret hC hR hS hE hf dX11_crops_40
      · replace hf := if_f hf hc
        refine lv_iload_n hx hb dX11_crops_12 rfl (lv_at hl 1 rfl) ?_
        refine lv_aload_n hx hb dX11_crops_13 rfl (lv_at hl 0 rfl) ?_
        obtain ⟨q6, hq7, ok_q6, hf⟩ := gR_of hf
        refine gf_RX11_7 hC hR ok_this hq7 dX11_crops_14 ?_
        refine lv_sipush (v := 240) hx hb dX11_crops_17 (by decide) ?_
        refine lv_iload_n hx hb dX11_crops_20 rfl (lv_at hl 2 rfl) ?_
        refine lv_iadd hx hb dX11_crops_21 ?_
        obtain ⟨hi8, hf⟩ := ck_of hf
        refine r_iald hC hR ok_q6 hi8 dX11_crops_22 ?_
        obtain ⟨j31_10, ej31_10, hf⟩ := jn_of3 hf
        have hj31_9 : ∀ (x11 : Int32) (x12 : Int32) (S13 : MS) (H : Heap) (locs : List Loc) (ls : Array Slot), j31_10 x11 x12 S13 = some (ro, So) → Rp G S13 H → va_S (gA G) s.heap H locs → Ex S S13 → Ok S13 this 11 → lv_has ls 3 [(0, .ref this), (2, .int x4)] → W p l e rX11_crops s m args below meth c H locs 0 0 (MQ below (Qn G S (some (.int ro)) So) args s 0 0 (gA G)) (F0 m 31 ls [.int x12, .int x11]) := by
          intro x11 x12 S13 H locs ls hf hR hS hE ok_this hl
          rw [ej31_10] at hf
          refine lv_iadd hx hb dX11_crops_31 ?_
          refine bdi hf (fun x14 hf => ?_)
          refine lv_istore_n (lv' := [(1, .int x14), (0, .ref this), (2, .int x4)]) hx hb dX11_crops_32 rfl hl (by decide) rfl (fun ls hl => ?_)
          refine r_iinc (n := 1) (z := 1) (lv' := fun x15 => [(2, .int x15), (1, .int x14), (0, .ref this)]) hx hb dX11_crops_33 hl (k := 2) rfl (by decide) (by decide) (fun _ => rfl) hf (fun x15 ls hf hl => ?_)
          refine lv_goto (tgt := 4) hx hb dX11_crops_36 (by decide) ?_
          exact hL4_1 x14 x15 S13 _ _ _ hf hR hS hE ok_this (lv_sub hl [2, 1, 0] rfl)
        refine lv_if_lt (tgt := 30) hx hb dX11_crops_23 (by decide) (fun hc => ?_) (fun hc => ?_)
        · replace hf := if_t hf hc
          refine lv_iconst (v := 0) hx hb dX11_crops_30 (by decide) ?_
          exact hj31_9 x3 (0 : Int32) S5 _ _ _ hf hR hS hE ok_this (lv_sub hl [0, 2] rfl)
        · replace hf := if_f hf hc
          refine lv_iconst (v := 1) hx hb dX11_crops_26 (by decide) ?_
          refine lv_goto (tgt := 31) hx hb dX11_crops_27 (by decide) ?_
          exact hj31_9 x3 (1 : Int32) S5 _ _ _ hf hR hS hE ok_this (lv_sub hl [0, 2] rfl)
  exact hh19 n (0 : Int32) (0 : Int32) S _ _ _ hf hR hS hE ok_this (lv_sub hl [2, 1, 0] rfl)
abbrev rX11_about : Room := { frames := 5, cells := 0, slots := 0, locals := 115 }
def f_X11_about (n : Nat) (this : Nat) (a1 : Int32) (S : MS) : Option (Int32 × MS) :=
  cl (f_X11_isIn n a1 (10 : Int32) (49 : Int32) S) fun x4 S1 => (if x4 = 0 then gR S1 (mR S1 this 0) 12 fun q5 => ck (inb (1 : Int32) (mN S1 q5)) (cl (f_X11_isIn n a1 (60 : Int32) ((59 : Int32) + (mI S1 q5 (1 : Int32).toNatClampNeg)) S1) fun x11 S8 => (if x11 = 0 then (if a1 = (0 : Int32) then some ((mI S8 this 1), S8) else (if a1 = (1 : Int32) then some ((mI S8 this 2), S8) else (if a1 = (2 : Int32) then gR S8 (mR S8 this 0) 12 fun q12 => ck (inb (0 : Int32) (mN S8 q12)) (some ((mI S8 q12 (0 : Int32).toNatClampNeg), S8)) else (if a1 = (3 : Int32) then gR S8 (mR S8 this 0) 12 fun q15 => ck (inb (1 : Int32) (mN S8 q15)) (some ((mI S8 q15 (1 : Int32).toNatClampNeg), S8)) else (if a1 = (4 : Int32) then gR S8 (mR S8 this 0) 12 fun q18 => ck (inb (2 : Int32) (mN S8 q18)) (some ((mI S8 q18 (2 : Int32).toNatClampNeg), S8)) else (if a1 = (5 : Int32) then gR S8 (mR S8 this 0) 12 fun q21 => ck (inb (3 : Int32) (mN S8 q21)) (some ((mI S8 q21 (3 : Int32).toNatClampNeg), S8)) else (if a1 = (6 : Int32) then gR S8 (mR S8 this 0) 12 fun q24 => ck (inb (4 : Int32) (mN S8 q24)) (some ((mI S8 q24 (4 : Int32).toNatClampNeg), S8)) else (if a1 = (7 : Int32) then cl (f_X11_fields n this S8) fun x30 S27 => some (x30, S27) else (if a1 = (8 : Int32) then some ((mI S8 this 7), S8) else (if a1 = (9 : Int32) then cl (f_X11_crops n this S8) fun x34 S31 => some (x34, S31) else some ((-2 : Int32), S8))))))))))) else gR S8 (mR S8 this 0) 12 fun q35 => ck (inb (((165 : Int32) + a1) - (60 : Int32)) (mN S8 q35)) (some ((mI S8 q35 (((165 : Int32) + a1) - (60 : Int32)).toNatClampNeg), S8)))) else gR S1 (mR S1 this 0) 12 fun q38 => ck (inb (((125 : Int32) + a1) - (10 : Int32)) (mN S1 q38)) (some ((mI S1 q38 (((125 : Int32) + a1) - (10 : Int32)).toNatClampNeg), S1)))
set_option maxRecDepth 100000 in
set_option maxHeartbeats 4000000 in
theorem c_X11_about (l : Launch) (G : Gx) (n : Nat) (this : Nat) (a1 : Int32) (S : MS) (ro : Int32) (So : MS) (hf : f_X11_about n this a1 S = some (ro, So)) (ok_this : Ok S this 11) : Cn G l yX11_about cX11_about 2 (some .int) rX11_about [.ref this, .int a1] S (some (.int ro)) So := by
  refine Cn.of (by decide) (Nat.le_of_ble_eq_true rfl) ?_
  intro p e s m args below meth c hC hname hR ls hl
  have hC : Cx G RX11 cX11_about 2 (some .int) p s m args meth c := hC
  have hl : lv_has ls 2 [(0, .ref this), (1, .int a1)] := hl
  have hx := hC.x
  have hb := hC.b
  have hS : va_S (gA G) s.heap s.heap [] := va_S.rf
  have hE : Ex S S := Ex.rf S
  unfold f_X11_about at hf
  refine lv_iload_n hx hb dX11_about_0 rfl (lv_at hl 1 rfl) ?_
  refine lv_bipush (v := 10) hx hb dX11_about_1 (by decide) ?_
  refine lv_bipush (v := 49) hx hb dX11_about_3 (by decide) ?_
  obtain ⟨x4, S1, hc2, hf⟩ := cl_of hf
  refine cl_RX11_71 (As := [.int a1, .int (10 : Int32), .int (49 : Int32)]) (rest := []) hC hR hS (c_X11_isIn l G n a1 (10 : Int32) (49 : Int32) S x4 S1 hc2 ) rfl ⟨Nat.le_of_ble_eq_true rfl, Nat.le_of_ble_eq_true rfl⟩ hl.1 rfl (Nat.le_of_ble_eq_true rfl) dX11_about_5 (Nat.zero_le _) (Nat.zero_le _) (fun H locs hR hS hE3 => ?_)
  have ok_this := hE3 _ _ ok_this
  have hE := hE.tr hE3
  refine lv_if_eq (tgt := 24) hx hb dX11_about_8 (by decide) (fun hc => ?_) (fun hc => ?_)
  · replace hf := if_t hf hc
    refine lv_iload_n hx hb dX11_about_24 rfl (lv_at hl 1 rfl) ?_
    refine lv_bipush (v := 60) hx hb dX11_about_25 (by decide) ?_
    refine lv_bipush (v := 59) hx hb dX11_about_27 (by decide) ?_
    refine lv_aload_n hx hb dX11_about_29 rfl (lv_at hl 0 rfl) ?_
    obtain ⟨q5, hq6, ok_q5, hf⟩ := gR_of hf
    refine gf_RX11_7 hC hR ok_this hq6 dX11_about_30 ?_
    refine lv_iconst (v := 1) hx hb dX11_about_33 (by decide) ?_
    obtain ⟨hi7, hf⟩ := ck_of hf
    refine r_iald hC hR ok_q5 hi7 dX11_about_34 ?_
    refine lv_iadd hx hb dX11_about_35 ?_
    obtain ⟨x11, S8, hc9, hf⟩ := cl_of hf
    refine cl_RX11_71 (As := [.int a1, .int (60 : Int32), .int ((59 : Int32) + (mI S1 q5 (1 : Int32).toNatClampNeg))]) (rest := []) hC hR hS (c_X11_isIn l G n a1 (60 : Int32) ((59 : Int32) + (mI S1 q5 (1 : Int32).toNatClampNeg)) S1 x11 S8 hc9 ) rfl ⟨Nat.le_of_ble_eq_true rfl, Nat.le_of_ble_eq_true rfl⟩ hl.1 rfl (Nat.le_of_ble_eq_true rfl) dX11_about_36 (Nat.zero_le _) (Nat.zero_le _) (fun H locs hR hS hE10 => ?_)
    have ok_this := hE10 _ _ ok_this
    have ok_q5 := hE10 _ _ ok_q5
    have hE := hE.tr hE10
    refine lv_if_eq (tgt := 56) hx hb dX11_about_39 (by decide) (fun hc => ?_) (fun hc => ?_)
    · replace hf := if_t hf hc
      refine lv_iload_n hx hb dX11_about_56 rfl (lv_at hl 1 rfl) ?_
      by_cases hc0 : a1 = (0 : Int32)
      · replace hf := if_t hf hc0
        rw [hc0]
        refine lv_tableIn (tgt := 112) hx hb dX11_about_57 (by decide) (by decide) rfl (by decide) ?_
        refine lv_aload_n hx hb dX11_about_112 rfl (lv_at hl 0 rfl) ?_
        refine gf_RX11_58 hC hR ok_this dX11_about_113 ?_
        exact r_iret hC hR hS hE hf dX11_about_116
      · replace hf := if_f hf hc0
        by_cases hc1 : a1 = (1 : Int32)
        · replace hf := if_t hf hc1
          rw [hc1]
          refine lv_tableIn (tgt := 117) hx hb dX11_about_57 (by decide) (by decide) rfl (by decide) ?_
          refine lv_aload_n hx hb dX11_about_117 rfl (lv_at hl 0 rfl) ?_
          refine gf_RX11_61 hC hR ok_this dX11_about_118 ?_
          exact r_iret hC hR hS hE hf dX11_about_121
        · replace hf := if_f hf hc1
          by_cases hc2 : a1 = (2 : Int32)
          · replace hf := if_t hf hc2
            rw [hc2]
            refine lv_tableIn (tgt := 122) hx hb dX11_about_57 (by decide) (by decide) rfl (by decide) ?_
            refine lv_aload_n hx hb dX11_about_122 rfl (lv_at hl 0 rfl) ?_
            obtain ⟨q12, hq13, ok_q12, hf⟩ := gR_of hf
            refine gf_RX11_7 hC hR ok_this hq13 dX11_about_123 ?_
            refine lv_iconst (v := 0) hx hb dX11_about_126 (by decide) ?_
            obtain ⟨hi14, hf⟩ := ck_of hf
            refine r_iald hC hR ok_q12 hi14 dX11_about_127 ?_
            exact r_iret hC hR hS hE hf dX11_about_128
          · replace hf := if_f hf hc2
            by_cases hc3 : a1 = (3 : Int32)
            · replace hf := if_t hf hc3
              rw [hc3]
              refine lv_tableIn (tgt := 129) hx hb dX11_about_57 (by decide) (by decide) rfl (by decide) ?_
              refine lv_aload_n hx hb dX11_about_129 rfl (lv_at hl 0 rfl) ?_
              obtain ⟨q15, hq16, ok_q15, hf⟩ := gR_of hf
              refine gf_RX11_7 hC hR ok_this hq16 dX11_about_130 ?_
              refine lv_iconst (v := 1) hx hb dX11_about_133 (by decide) ?_
              obtain ⟨hi17, hf⟩ := ck_of hf
              refine r_iald hC hR ok_q15 hi17 dX11_about_134 ?_
              exact r_iret hC hR hS hE hf dX11_about_135
            · replace hf := if_f hf hc3
              by_cases hc4 : a1 = (4 : Int32)
              · replace hf := if_t hf hc4
                rw [hc4]
                refine lv_tableIn (tgt := 136) hx hb dX11_about_57 (by decide) (by decide) rfl (by decide) ?_
                refine lv_aload_n hx hb dX11_about_136 rfl (lv_at hl 0 rfl) ?_
                obtain ⟨q18, hq19, ok_q18, hf⟩ := gR_of hf
                refine gf_RX11_7 hC hR ok_this hq19 dX11_about_137 ?_
                refine lv_iconst (v := 2) hx hb dX11_about_140 (by decide) ?_
                obtain ⟨hi20, hf⟩ := ck_of hf
                refine r_iald hC hR ok_q18 hi20 dX11_about_141 ?_
                exact r_iret hC hR hS hE hf dX11_about_142
              · replace hf := if_f hf hc4
                by_cases hc5 : a1 = (5 : Int32)
                · replace hf := if_t hf hc5
                  rw [hc5]
                  refine lv_tableIn (tgt := 143) hx hb dX11_about_57 (by decide) (by decide) rfl (by decide) ?_
                  refine lv_aload_n hx hb dX11_about_143 rfl (lv_at hl 0 rfl) ?_
                  obtain ⟨q21, hq22, ok_q21, hf⟩ := gR_of hf
                  refine gf_RX11_7 hC hR ok_this hq22 dX11_about_144 ?_
                  refine lv_iconst (v := 3) hx hb dX11_about_147 (by decide) ?_
                  obtain ⟨hi23, hf⟩ := ck_of hf
                  refine r_iald hC hR ok_q21 hi23 dX11_about_148 ?_
                  exact r_iret hC hR hS hE hf dX11_about_149
                · replace hf := if_f hf hc5
                  by_cases hc6 : a1 = (6 : Int32)
                  · replace hf := if_t hf hc6
                    rw [hc6]
                    refine lv_tableIn (tgt := 150) hx hb dX11_about_57 (by decide) (by decide) rfl (by decide) ?_
                    refine lv_aload_n hx hb dX11_about_150 rfl (lv_at hl 0 rfl) ?_
                    obtain ⟨q24, hq25, ok_q24, hf⟩ := gR_of hf
                    refine gf_RX11_7 hC hR ok_this hq25 dX11_about_151 ?_
                    refine lv_iconst (v := 4) hx hb dX11_about_154 (by decide) ?_
                    obtain ⟨hi26, hf⟩ := ck_of hf
                    refine r_iald hC hR ok_q24 hi26 dX11_about_155 ?_
                    exact r_iret hC hR hS hE hf dX11_about_156
                  · replace hf := if_f hf hc6
                    by_cases hc7 : a1 = (7 : Int32)
                    · replace hf := if_t hf hc7
                      rw [hc7]
                      refine lv_tableIn (tgt := 157) hx hb dX11_about_57 (by decide) (by decide) rfl (by decide) ?_
                      refine lv_aload_n hx hb dX11_about_157 rfl (lv_at hl 0 rfl) ?_
                      obtain ⟨x30, S27, hc28, hf⟩ := cl_of hf
                      refine cl_RX11_410 (As := []) (rest := []) hC hR hS (c_X11_fields l G n this S8 x30 S27 hc28 ok_this) ok_this rfl ⟨Nat.le_of_ble_eq_true rfl, Nat.le_of_ble_eq_true rfl⟩ hl.1 rfl (Nat.le_of_ble_eq_true rfl) dX11_about_158 (Nat.zero_le _) (Nat.zero_le _) (fun H locs hR hS hE29 => ?_)
                      have ok_this := hE29 _ _ ok_this
                      have ok_q5 := hE29 _ _ ok_q5
                      have hE := hE.tr hE29
                      exact r_iret hC hR hS hE hf dX11_about_161
                    · replace hf := if_f hf hc7
                      by_cases hc8 : a1 = (8 : Int32)
                      · replace hf := if_t hf hc8
                        rw [hc8]
                        refine lv_tableIn (tgt := 162) hx hb dX11_about_57 (by decide) (by decide) rfl (by decide) ?_
                        refine lv_aload_n hx hb dX11_about_162 rfl (lv_at hl 0 rfl) ?_
                        refine gf_RX11_94 hC hR ok_this dX11_about_163 ?_
                        exact r_iret hC hR hS hE hf dX11_about_166
                      · replace hf := if_f hf hc8
                        by_cases hc9 : a1 = (9 : Int32)
                        · replace hf := if_t hf hc9
                          rw [hc9]
                          refine lv_tableIn (tgt := 167) hx hb dX11_about_57 (by decide) (by decide) rfl (by decide) ?_
                          refine lv_aload_n hx hb dX11_about_167 rfl (lv_at hl 0 rfl) ?_
                          obtain ⟨x34, S31, hc32, hf⟩ := cl_of hf
                          refine cl_RX11_413 (As := []) (rest := []) hC hR hS (c_X11_crops l G n this S8 x34 S31 hc32 ok_this) ok_this rfl ⟨Nat.le_of_ble_eq_true rfl, Nat.le_of_ble_eq_true rfl⟩ hl.1 rfl (Nat.le_of_ble_eq_true rfl) dX11_about_168 (Nat.zero_le _) (Nat.zero_le _) (fun H locs hR hS hE33 => ?_)
                          have ok_this := hE33 _ _ ok_this
                          have ok_q5 := hE33 _ _ ok_q5
                          have hE := hE.tr hE33
                          exact r_iret hC hR hS hE hf dX11_about_171
                        · replace hf := if_f hf hc9
                          refine lv_tableOut (tgt := 172) hx hb dX11_about_57 (by have := ne_toInt hc0 (z := 0) (by decide); have := ne_toInt hc1 (z := 1) (by decide); have := ne_toInt hc2 (z := 2) (by decide); have := ne_toInt hc3 (z := 3) (by decide); have := ne_toInt hc4 (z := 4) (by decide); have := ne_toInt hc5 (z := 5) (by decide); have := ne_toInt hc6 (z := 6) (by decide); have := ne_toInt hc7 (z := 7) (by decide); have := ne_toInt hc8 (z := 8) (by decide); have := ne_toInt hc9 (z := 9) (by decide); omega) (by decide) ?_
                          refine lv_bipush (v := -2) hx hb dX11_about_172 (by decide) ?_
                          exact r_iret hC hR hS hE hf dX11_about_174
    · replace hf := if_f hf hc
      refine lv_aload_n hx hb dX11_about_42 rfl (lv_at hl 0 rfl) ?_
      obtain ⟨q35, hq36, ok_q35, hf⟩ := gR_of hf
      refine gf_RX11_7 hC hR ok_this hq36 dX11_about_43 ?_
      refine lv_sipush (v := 165) hx hb dX11_about_46 (by decide) ?_
      refine lv_iload_n hx hb dX11_about_49 rfl (lv_at hl 1 rfl) ?_
      refine lv_iadd hx hb dX11_about_50 ?_
      refine lv_bipush (v := 60) hx hb dX11_about_51 (by decide) ?_
      refine lv_isub hx hb dX11_about_53 ?_
      obtain ⟨hi37, hf⟩ := ck_of hf
      refine r_iald hC hR ok_q35 hi37 dX11_about_54 ?_
      exact r_iret hC hR hS hE hf dX11_about_55
  · replace hf := if_f hf hc
    refine lv_aload_n hx hb dX11_about_11 rfl (lv_at hl 0 rfl) ?_
    obtain ⟨q38, hq39, ok_q38, hf⟩ := gR_of hf
    refine gf_RX11_7 hC hR ok_this hq39 dX11_about_12 ?_
    refine lv_bipush (v := 125) hx hb dX11_about_15 (by decide) ?_
    refine lv_iload_n hx hb dX11_about_17 rfl (lv_at hl 1 rfl) ?_
    refine lv_iadd hx hb dX11_about_18 ?_
    refine lv_bipush (v := 10) hx hb dX11_about_19 (by decide) ?_
    refine lv_isub hx hb dX11_about_21 ?_
    obtain ⟨hi40, hf⟩ := ck_of hf
    refine r_iald hC hR ok_q38 hi40 dX11_about_22 ?_
    exact r_iret hC hR hS hE hf dX11_about_23
abbrev rL_cell : Room := { frames := 0, cells := 0, slots := 0, locals := 0 }
def f_L_cell (_n : Nat) (a1 : Nat) (a2 : Int32) (S : MS) : Option (Int32 × MS) :=
  (if (Int32.ofNat (mN S a1)) ≤ a2 then some ((0 : Int32), S) else ck (inb a2 (mN S a1)) (some ((mI S a1 a2.toNatClampNeg), S)))
set_option maxRecDepth 100000 in
set_option maxHeartbeats 4000000 in
theorem c_L_cell (l : Launch) (G : Gx) (n : Nat) (a1 : Nat) (a2 : Int32) (S : MS) (ro : Int32) (So : MS) (hf : f_L_cell n a1 a2 S = some (ro, So)) (ok_a1 : Ok S a1 12) : Cn G l yL_cell cL_cell 2 (some .int) rL_cell [.ref a1, .int a2] S (some (.int ro)) So := by
  refine Cn.of (by decide) (Nat.le_of_ble_eq_true rfl) ?_
  intro p e s m args below meth c hC hname hR ls hl
  have hC : Cx G RL cL_cell 2 (some .int) p s m args meth c := hC
  have hl : lv_has ls 2 [(0, .ref a1), (1, .int a2)] := hl
  have hx := hC.x
  have hb := hC.b
  have hS : va_S (gA G) s.heap s.heap [] := va_S.rf
  have hE : Ex S S := Ex.rf S
  unfold f_L_cell at hf
  refine lv_iload_n hx hb dL_cell_0 rfl (lv_at hl 1 rfl) ?_
  refine lv_aload_n hx hb dL_cell_1 rfl (lv_at hl 0 rfl) ?_
  refine r_alenI hC hR ok_a1 dL_cell_2 ?_
  refine lv_icmp_ge (tgt := 12) hx hb dL_cell_3 (by decide) (fun hc => ?_) (fun hc => ?_)
  · replace hf := if_t hf hc
    refine lv_iconst (v := 0) hx hb dL_cell_12 (by decide) ?_
    exact r_iret hC hR hS hE hf dL_cell_13
  · replace hf := if_f hf hc
    refine lv_aload_n hx hb dL_cell_6 rfl (lv_at hl 0 rfl) ?_
    refine lv_iload_n hx hb dL_cell_7 rfl (lv_at hl 1 rfl) ?_
    obtain ⟨hi1, hf⟩ := ck_of hf
    refine r_iald hC hR ok_a1 hi1 dL_cell_8 ?_
    refine lv_goto (tgt := 13) hx hb dL_cell_9 (by decide) ?_
    exact r_iret hC hR hS hE hf dL_cell_13
