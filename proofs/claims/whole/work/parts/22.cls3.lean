abbrev rX4_readAsk : Room := { frames := 37, cells := 0, slots := 0, locals := 841 }
def f_X4_readAsk_L103 (n : Nat) (this : Nat) (x3 : Int32) : Nat → Int32 → MS → Option (MS)
  | 0, _, _ => none
  | k + 1, x25, S26 => jn (f_X4_readAsk_L103 n this x3 k) fun rec103_24 => (if x3 ≤ x25 then some S26 else gR S26 (mR S26 this 3) 7 fun q27 => cv (f_X7_put n q27 (14 : Int32) (0 : Int32) S26) fun S29 => bd (x25 + (1 : Int32)) fun x32 => rec103_24 x32 S29)
def f_X4_readAsk_L2 (n : Nat) (this : Nat) (j27_2 : Int32 → MS → Option (MS)) : Nat → Int32 → MS → Option (MS)
  | 0, _, _ => none
  | k + 1, x55, S56 => jn (f_X4_readAsk_L2 n this j27_2 k) fun rec2_54 => (if (8 : Int32) ≤ x55 then j27_2 x55 S56 else (if (mI S56 this 5) = (14 : Int32) then bd (x55 + (1 : Int32)) fun x57 => cv (f_X4_advance n this S56) fun S58 => rec2_54 x57 S58 else j27_2 x55 S56))
def f_X4_readAsk (n : Nat) (this : Nat) (S : MS) : Option (MS) :=
  jn (fun (x3 : Int32) (S4 : MS) => jn (fun (S7 : MS) => cv (f_X4_readSum n this x3 S7) fun S8 => bd (mI S8 this 5) fun x11 => jn (fun (S14 : MS) => cv (f_X4_readSum n this x3 S14) fun S15 => gR S15 (mR S15 this 3) 7 fun q18 => cv (f_X7_put n q18 x11 (0 : Int32) S15) fun S20 => f_X4_readAsk_L103 n this x3 n (0 : Int32) S20) fun j87_13 => jn (fun (S36 : MS) => cv (f_X4_advance n this S36) fun S37 => j87_13 S37) fun j75_35 => jn (fun (S42 : MS) => (if x11 = (36 : Int32) then j75_35 S42 else (if x11 = (37 : Int32) then j75_35 S42 else cv (f_X4_complain n this (1 : Int32) S42) fun S43 => j87_13 S43))) fun j63_41 => (if x11 < (24 : Int32) then j63_41 S8 else (if x11 ≤ (27 : Int32) then j75_35 S8 else j63_41 S8))) fun j41_6 => (if (mI S4 this 5) = (14 : Int32) then cv (f_X4_complain n this (3 : Int32) S4) fun S49 => j41_6 S49 else j41_6 S4)) fun j27_2 => f_X4_readAsk_L2 n this j27_2 n (0 : Int32) S
set_option maxRecDepth 100000 in
set_option maxHeartbeats 4000000 in
theorem c_X4_readAsk (l : Launch) (G : Gx) (n : Nat) (this : Nat) (S : MS) (So : MS) (hf : f_X4_readAsk n this S = some So) (ok_this : Ok S this 4) : Cn G l yX4_readAsk cX4_readAsk 4 none rX4_readAsk [.ref this] S none So := by
  refine Cn.of (by decide) (Nat.le_of_ble_eq_true rfl) ?_
  intro p e s m args below meth c hC hname hR ls hl
  have hC : Cx G RX4 cX4_readAsk 4 none p s m args meth c := hC
  have hl : lv_has ls 4 [(0, .ref this)] := hl
  have hx := hC.x
  have hb := hC.b
  have hS : va_S (gA G) s.heap s.heap [] := va_S.rf
  have hE : Ex S S := Ex.rf S
  unfold f_X4_readAsk at hf
  refine lv_iconst (v := 0) hx hb dX4_readAsk_0 (by decide) ?_
  refine lv_istore_n (lv' := [(1, .int (0 : Int32)), (0, .ref this)]) hx hb dX4_readAsk_1 rfl hl (by decide) rfl (fun ls hl => ?_)
  obtain ⟨j27_2, ej27_2, hf⟩ := jn_of2 hf
  have hj27_1 : ∀ (x3 : Int32) (S4 : MS) (H : Heap) (locs : List Loc) (ls : Array Slot), j27_2 x3 S4 = some So → Rp G S4 H → va_S (gA G) s.heap H locs → Ex S S4 → Ok S4 this 4 → lv_has ls 4 [(0, .ref this), (1, .int x3)] → W p l e rX4_readAsk s m args below meth c H locs 0 0 (MQ below (Qn G S none So) args s 0 0 (gA G)) (F0 m 27 ls []) := by
    intro x3 S4 H locs ls hf hR hS hE ok_this hl
    rw [ej27_2] at hf
    refine lv_aload_n hx hb dX4_readAsk_27 rfl (lv_at hl 0 rfl) ?_
    refine gf_RX4_45 hC hR ok_this dX4_readAsk_28 ?_
    refine lv_bipush (v := 14) hx hb dX4_readAsk_31 (by decide) ?_
    obtain ⟨j41_6, ej41_6, hf⟩ := jn_of1 hf
    have hj41_5 : ∀ (S7 : MS) (H : Heap) (locs : List Loc) (ls : Array Slot), j41_6 S7 = some So → Rp G S7 H → va_S (gA G) s.heap H locs → Ex S S7 → Ok S7 this 4 → lv_has ls 4 [(0, .ref this), (1, .int x3)] → W p l e rX4_readAsk s m args below meth c H locs 0 0 (MQ below (Qn G S none So) args s 0 0 (gA G)) (F0 m 41 ls []) := by
      intro S7 H locs ls hf hR hS hE ok_this hl
      rw [ej41_6] at hf
      refine lv_aload_n hx hb dX4_readAsk_41 rfl (lv_at hl 0 rfl) ?_
      refine lv_iload_n hx hb dX4_readAsk_42 rfl (lv_at hl 1 rfl) ?_
      obtain ⟨S8, hc9, hf⟩ := cv_of hf
      refine cl_RX4_88 (As := [.int x3]) (rest := []) hC hR hS (c_X4_readSum l G n this x3 S7 S8 hc9 ok_this) ok_this rfl ⟨Nat.le_of_ble_eq_true rfl, Nat.le_of_ble_eq_true rfl⟩ hl.1 rfl (Nat.le_of_ble_eq_true rfl) dX4_readAsk_43 (Nat.zero_le _) (Nat.zero_le _) (fun H locs hR hS hE10 => ?_)
      have ok_this := hE10 _ _ ok_this
      have hE := hE.tr hE10
      refine lv_aload_n hx hb dX4_readAsk_46 rfl (lv_at hl 0 rfl) ?_
      refine gf_RX4_45 hC hR ok_this dX4_readAsk_47 ?_
      refine bdi hf (fun x11 hf => ?_)
      refine lv_istore_n (lv' := [(2, .int x11), (0, .ref this), (1, .int x3)]) hx hb dX4_readAsk_50 rfl hl (by decide) rfl (fun ls hl => ?_)
      refine lv_iload_n hx hb dX4_readAsk_51 rfl (lv_at hl 0 rfl) ?_
      refine lv_bipush (v := 24) hx hb dX4_readAsk_52 (by decide) ?_
      obtain ⟨j87_13, ej87_13, hf⟩ := jn_of1 hf
      have hj87_12 : ∀ (S14 : MS) (H : Heap) (locs : List Loc) (ls : Array Slot), j87_13 S14 = some So → Rp G S14 H → va_S (gA G) s.heap H locs → Ex S S14 → Ok S14 this 4 → lv_has ls 4 [(0, .ref this), (1, .int x3), (2, .int x11)] → W p l e rX4_readAsk s m args below meth c H locs 0 0 (MQ below (Qn G S none So) args s 0 0 (gA G)) (F0 m 87 ls []) := by
        intro S14 H locs ls hf hR hS hE ok_this hl
        rw [ej87_13] at hf
        refine lv_aload_n hx hb dX4_readAsk_87 rfl (lv_at hl 0 rfl) ?_
        refine lv_iload_n hx hb dX4_readAsk_88 rfl (lv_at hl 1 rfl) ?_
        obtain ⟨S15, hc16, hf⟩ := cv_of hf
        refine cl_RX4_88 (As := [.int x3]) (rest := []) hC hR hS (c_X4_readSum l G n this x3 S14 S15 hc16 ok_this) ok_this rfl ⟨Nat.le_of_ble_eq_true rfl, Nat.le_of_ble_eq_true rfl⟩ hl.1 rfl (Nat.le_of_ble_eq_true rfl) dX4_readAsk_89 (Nat.zero_le _) (Nat.zero_le _) (fun H locs hR hS hE17 => ?_)
        have ok_this := hE17 _ _ ok_this
        have hE := hE.tr hE17
        refine lv_aload_n hx hb dX4_readAsk_92 rfl (lv_at hl 0 rfl) ?_
        obtain ⟨q18, hq19, ok_q18, hf⟩ := gR_of hf
        refine gf_RX4_25 hC hR ok_this hq19 dX4_readAsk_93 ?_
        refine lv_iload_n hx hb dX4_readAsk_96 rfl (lv_at hl 2 rfl) ?_
        refine lv_iconst (v := 0) hx hb dX4_readAsk_97 (by decide) ?_
        obtain ⟨S20, hc21, hf⟩ := cv_of hf
        refine cl_RX4_110 (As := [.int x11, .int (0 : Int32)]) (rest := []) hC hR hS (c_X7_put l G n q18 x11 (0 : Int32) S15 S20 hc21 ok_q18) ok_q18 rfl ⟨Nat.le_of_ble_eq_true rfl, Nat.le_of_ble_eq_true rfl⟩ hl.1 rfl (Nat.le_of_ble_eq_true rfl) dX4_readAsk_98 (Nat.zero_le _) (Nat.zero_le _) (fun H locs hR hS hE22 => ?_)
        have ok_this := hE22 _ _ ok_this
        have ok_q18 := hE22 _ _ ok_q18
        have hE := hE.tr hE22
        refine lv_iconst (v := 0) hx hb dX4_readAsk_101 (by decide) ?_
        refine lv_istore_n (lv' := [(3, .int (0 : Int32)), (0, .ref this), (1, .int x3), (2, .int x11)]) hx hb dX4_readAsk_102 rfl hl (by decide) rfl (fun ls hl => ?_)
        have hh33 : ∀ k : Nat, ∀ (x25 : Int32) (S26 : MS) (H : Heap) (locs : List Loc) (ls : Array Slot), f_X4_readAsk_L103 n this x3 k x25 S26 = some So → Rp G S26 H → va_S (gA G) s.heap H locs → Ex S S26 → Ok S26 this 4 → lv_has ls 4 [(0, .ref this), (1, .int x3), (3, .int x25)] → W p l e rX4_readAsk s m args below meth c H locs 0 0 (MQ below (Qn G S none So) args s 0 0 (gA G)) (F0 m 103 ls []) := by
          intro k
          induction k with
          | zero =>
            intro x25 S26 H locs ls hf hR hS hE ok_this hl
            exact absurd hf (by rw [f_X4_readAsk_L103]; exact fun h => by cases h)
          | succ k ih =>
            intro x25 S26 H locs ls hf hR hS hE ok_this hl
            rw [f_X4_readAsk_L103] at hf
            obtain ⟨rec103_24, erec103_24, hf⟩ := jn_of2 hf
            have hL103_23 : ∀ (x25 : Int32) (S26 : MS) (H : Heap) (locs : List Loc) (ls : Array Slot), rec103_24 x25 S26 = some So → Rp G S26 H → va_S (gA G) s.heap H locs → Ex S S26 → Ok S26 this 4 → lv_has ls 4 [(0, .ref this), (1, .int x3), (3, .int x25)] → W p l e rX4_readAsk s m args below meth c H locs 0 0 (MQ below (Qn G S none So) args s 0 0 (gA G)) (F0 m 103 ls []) := by
              intro x25 S26 H locs ls hf hR hS hE ok_this hl
              rw [erec103_24] at hf
              exact ih x25 S26 _ _ _ hf hR hS hE ok_this hl
            refine lv_iload_n hx hb dX4_readAsk_103 rfl (lv_at hl 2 rfl) ?_
            refine lv_iload_n hx hb dX4_readAsk_104 rfl (lv_at hl 1 rfl) ?_
            refine lv_icmp_ge (tgt := 124) hx hb dX4_readAsk_105 (by decide) (fun hc => ?_) (fun hc => ?_)
            · replace hf := if_t hf hc
              exact r_vret hC hR hS hE hf dX4_readAsk_124
            · replace hf := if_f hf hc
              refine lv_aload_n hx hb dX4_readAsk_108 rfl (lv_at hl 0 rfl) ?_
              obtain ⟨q27, hq28, ok_q27, hf⟩ := gR_of hf
              refine gf_RX4_25 hC hR ok_this hq28 dX4_readAsk_109 ?_
              refine lv_bipush (v := 14) hx hb dX4_readAsk_112 (by decide) ?_
              refine lv_iconst (v := 0) hx hb dX4_readAsk_114 (by decide) ?_
              obtain ⟨S29, hc30, hf⟩ := cv_of hf
              refine cl_RX4_110 (As := [.int (14 : Int32), .int (0 : Int32)]) (rest := []) hC hR hS (c_X7_put l G n q27 (14 : Int32) (0 : Int32) S26 S29 hc30 ok_q27) ok_q27 rfl ⟨Nat.le_of_ble_eq_true rfl, Nat.le_of_ble_eq_true rfl⟩ hl.1 rfl (Nat.le_of_ble_eq_true rfl) dX4_readAsk_115 (Nat.zero_le _) (Nat.zero_le _) (fun H locs hR hS hE31 => ?_)
              have ok_this := hE31 _ _ ok_this
              have ok_q27 := hE31 _ _ ok_q27
              have hE := hE.tr hE31
              refine r_iinc (n := 1) (z := 1) (lv' := fun x32 => [(3, .int x32), (0, .ref this), (1, .int x3)]) hx hb dX4_readAsk_118 hl (k := 2) rfl (by decide) (by decide) (fun _ => rfl) hf (fun x32 ls hf hl => ?_)
              refine lv_goto (tgt := 103) hx hb dX4_readAsk_121 (by decide) ?_
              exact hL103_23 x32 S29 _ _ _ hf hR hS hE ok_this (lv_sub hl [1, 2, 0] rfl)
        exact hh33 n (0 : Int32) S20 _ _ _ hf hR hS hE ok_this (lv_sub hl [1, 2, 0] rfl)
      obtain ⟨j75_35, ej75_35, hf⟩ := jn_of1 hf
      have hj75_34 : ∀ (S36 : MS) (H : Heap) (locs : List Loc) (ls : Array Slot), j75_35 S36 = some So → Rp G S36 H → va_S (gA G) s.heap H locs → Ex S S36 → Ok S36 this 4 → lv_has ls 4 [(0, .ref this), (1, .int x3), (2, .int x11)] → W p l e rX4_readAsk s m args below meth c H locs 0 0 (MQ below (Qn G S none So) args s 0 0 (gA G)) (F0 m 75 ls []) := by
        intro S36 H locs ls hf hR hS hE ok_this hl
        rw [ej75_35] at hf
        refine lv_aload_n hx hb dX4_readAsk_75 rfl (lv_at hl 0 rfl) ?_
        obtain ⟨S37, hc38, hf⟩ := cv_of hf
        refine cl_RX4_51 (As := []) (rest := []) hC hR hS (c_X4_advance l G n this S36 S37 hc38 ok_this) ok_this rfl ⟨Nat.le_of_ble_eq_true rfl, Nat.le_of_ble_eq_true rfl⟩ hl.1 rfl (Nat.le_of_ble_eq_true rfl) dX4_readAsk_76 (Nat.zero_le _) (Nat.zero_le _) (fun H locs hR hS hE39 => ?_)
        have ok_this := hE39 _ _ ok_this
        have hE := hE.tr hE39
        refine lv_goto (tgt := 87) hx hb dX4_readAsk_79 (by decide) ?_
        exact hj87_12 S37 _ _ _ hf hR hS hE ok_this (lv_sub hl [0, 1, 2] rfl)
      obtain ⟨j63_41, ej63_41, hf⟩ := jn_of1 hf
      have hj63_40 : ∀ (S42 : MS) (H : Heap) (locs : List Loc) (ls : Array Slot), j63_41 S42 = some So → Rp G S42 H → va_S (gA G) s.heap H locs → Ex S S42 → Ok S42 this 4 → lv_has ls 4 [(0, .ref this), (1, .int x3), (2, .int x11)] → W p l e rX4_readAsk s m args below meth c H locs 0 0 (MQ below (Qn G S none So) args s 0 0 (gA G)) (F0 m 63 ls []) := by
        intro S42 H locs ls hf hR hS hE ok_this hl
        rw [ej63_41] at hf
        refine lv_iload_n hx hb dX4_readAsk_63 rfl (lv_at hl 2 rfl) ?_
        refine lv_bipush (v := 36) hx hb dX4_readAsk_64 (by decide) ?_
        refine lv_icmp_eq (tgt := 75) hx hb dX4_readAsk_66 (by decide) (fun hc => ?_) (fun hc => ?_)
        · replace hf := if_t hf hc
          exact hj75_34 S42 _ _ _ hf hR hS hE ok_this (lv_sub hl [0, 1, 2] rfl)
        · replace hf := if_f hf hc
          refine lv_iload_n hx hb dX4_readAsk_69 rfl (lv_at hl 2 rfl) ?_
          refine lv_bipush (v := 37) hx hb dX4_readAsk_70 (by decide) ?_
          refine lv_icmp_ne (tgt := 82) hx hb dX4_readAsk_72 (by decide) (fun hc => ?_) (fun hc => ?_)
          · replace hf := if_f hf hc
            refine lv_aload_n hx hb dX4_readAsk_82 rfl (lv_at hl 0 rfl) ?_
            refine lv_iconst (v := 1) hx hb dX4_readAsk_83 (by decide) ?_
            obtain ⟨S43, hc44, hf⟩ := cv_of hf
            refine cl_RX4_54 (As := [.int (1 : Int32)]) (rest := []) hC hR hS (c_X4_complain l G n this (1 : Int32) S42 S43 hc44 ok_this) ok_this rfl ⟨Nat.le_of_ble_eq_true rfl, Nat.le_of_ble_eq_true rfl⟩ hl.1 rfl (Nat.le_of_ble_eq_true rfl) dX4_readAsk_84 (Nat.zero_le _) (Nat.zero_le _) (fun H locs hR hS hE45 => ?_)
            have ok_this := hE45 _ _ ok_this
            have hE := hE.tr hE45
            exact hj87_12 S43 _ _ _ hf hR hS hE ok_this (lv_sub hl [0, 1, 2] rfl)
          · replace hf := if_t hf hc
            exact hj75_34 S42 _ _ _ hf hR hS hE ok_this (lv_sub hl [0, 1, 2] rfl)
      refine lv_icmp_lt (tgt := 63) hx hb dX4_readAsk_54 (by decide) (fun hc => ?_) (fun hc => ?_)
      · replace hf := if_t hf hc
        exact hj63_40 S8 _ _ _ hf hR hS hE ok_this (lv_sub hl [1, 2, 0] rfl)
      · replace hf := if_f hf hc
        refine lv_iload_n hx hb dX4_readAsk_57 rfl (lv_at hl 0 rfl) ?_
        refine lv_bipush (v := 27) hx hb dX4_readAsk_58 (by decide) ?_
        refine lv_icmp_le (tgt := 75) hx hb dX4_readAsk_60 (by decide) (fun hc => ?_) (fun hc => ?_)
        · replace hf := if_t hf hc
          exact hj75_34 S8 _ _ _ hf hR hS hE ok_this (lv_sub hl [1, 2, 0] rfl)
        · replace hf := if_f hf hc
          exact hj63_40 S8 _ _ _ hf hR hS hE ok_this (lv_sub hl [1, 2, 0] rfl)
    refine lv_icmp_ne (tgt := 41) hx hb dX4_readAsk_33 (by decide) (fun hc => ?_) (fun hc => ?_)
    · replace hf := if_f hf hc
      exact hj41_5 S4 _ _ _ hf hR hS hE ok_this (lv_sub hl [0, 1] rfl)
    · replace hf := if_t hf hc
      refine lv_aload_n hx hb dX4_readAsk_36 rfl (lv_at hl 0 rfl) ?_
      refine lv_iconst (v := 3) hx hb dX4_readAsk_37 (by decide) ?_
      obtain ⟨S49, hc50, hf⟩ := cv_of hf
      refine cl_RX4_54 (As := [.int (3 : Int32)]) (rest := []) hC hR hS (c_X4_complain l G n this (3 : Int32) S4 S49 hc50 ok_this) ok_this rfl ⟨Nat.le_of_ble_eq_true rfl, Nat.le_of_ble_eq_true rfl⟩ hl.1 rfl (Nat.le_of_ble_eq_true rfl) dX4_readAsk_38 (Nat.zero_le _) (Nat.zero_le _) (fun H locs hR hS hE51 => ?_)
      have ok_this := hE51 _ _ ok_this
      have hE := hE.tr hE51
      exact hj41_5 S49 _ _ _ hf hR hS hE ok_this (lv_sub hl [0, 1] rfl)
  have hh61 : ∀ k : Nat, ∀ (x55 : Int32) (S56 : MS) (H : Heap) (locs : List Loc) (ls : Array Slot), f_X4_readAsk_L2 n this j27_2 k x55 S56 = some So → Rp G S56 H → va_S (gA G) s.heap H locs → Ex S S56 → Ok S56 this 4 → lv_has ls 4 [(0, .ref this), (1, .int x55)] → W p l e rX4_readAsk s m args below meth c H locs 0 0 (MQ below (Qn G S none So) args s 0 0 (gA G)) (F0 m 2 ls []) := by
    intro k
    induction k with
    | zero =>
      intro x55 S56 H locs ls hf hR hS hE ok_this hl
      exact absurd hf (by rw [f_X4_readAsk_L2]; exact fun h => by cases h)
    | succ k ih =>
      intro x55 S56 H locs ls hf hR hS hE ok_this hl
      rw [f_X4_readAsk_L2] at hf
      obtain ⟨rec2_54, erec2_54, hf⟩ := jn_of2 hf
      have hL2_53 : ∀ (x55 : Int32) (S56 : MS) (H : Heap) (locs : List Loc) (ls : Array Slot), rec2_54 x55 S56 = some So → Rp G S56 H → va_S (gA G) s.heap H locs → Ex S S56 → Ok S56 this 4 → lv_has ls 4 [(0, .ref this), (1, .int x55)] → W p l e rX4_readAsk s m args below meth c H locs 0 0 (MQ below (Qn G S none So) args s 0 0 (gA G)) (F0 m 2 ls []) := by
        intro x55 S56 H locs ls hf hR hS hE ok_this hl
        rw [erec2_54] at hf
        exact ih x55 S56 _ _ _ hf hR hS hE ok_this hl
      refine lv_iload_n hx hb dX4_readAsk_2 rfl (lv_at hl 1 rfl) ?_
      refine lv_bipush (v := 8) hx hb dX4_readAsk_3 (by decide) ?_
      refine lv_icmp_ge (tgt := 27) hx hb dX4_readAsk_5 (by decide) (fun hc => ?_) (fun hc => ?_)
      · replace hf := if_t hf hc
        exact hj27_1 x55 S56 _ _ _ hf hR hS hE ok_this (lv_sub hl [0, 1] rfl)
      · replace hf := if_f hf hc
        refine lv_aload_n hx hb dX4_readAsk_8 rfl (lv_at hl 0 rfl) ?_
        refine gf_RX4_45 hC hR ok_this dX4_readAsk_9 ?_
        refine lv_bipush (v := 14) hx hb dX4_readAsk_12 (by decide) ?_
        refine lv_icmp_ne (tgt := 27) hx hb dX4_readAsk_14 (by decide) (fun hc => ?_) (fun hc => ?_)
        · replace hf := if_f hf hc
          exact hj27_1 x55 S56 _ _ _ hf hR hS hE ok_this (lv_sub hl [0, 1] rfl)
        · replace hf := if_t hf hc
          refine r_iinc (n := 1) (z := 1) (lv' := fun x57 => [(1, .int x57), (0, .ref this)]) hx hb dX4_readAsk_17 hl (k := 1) rfl (by decide) (by decide) (fun _ => rfl) hf (fun x57 ls hf hl => ?_)
          refine lv_aload_n hx hb dX4_readAsk_20 rfl (lv_at hl 1 rfl) ?_
          obtain ⟨S58, hc59, hf⟩ := cv_of hf
          refine cl_RX4_51 (As := []) (rest := []) hC hR hS (c_X4_advance l G n this S56 S58 hc59 ok_this) ok_this rfl ⟨Nat.le_of_ble_eq_true rfl, Nat.le_of_ble_eq_true rfl⟩ hl.1 rfl (Nat.le_of_ble_eq_true rfl) dX4_readAsk_21 (Nat.zero_le _) (Nat.zero_le _) (fun H locs hR hS hE60 => ?_)
          have ok_this := hE60 _ _ ok_this
          have hE := hE.tr hE60
          refine lv_goto (tgt := 2) hx hb dX4_readAsk_24 (by decide) ?_
          exact hL2_53 x57 S58 _ _ _ hf hR hS hE ok_this (lv_sub hl [1, 0] rfl)
  exact hh61 n (0 : Int32) S _ _ _ hf hR hS hE ok_this (lv_sub hl [1, 0] rfl)
abbrev rX4_readEither : Room := { frames := 38, cells := 0, slots := 0, locals := 864 }
def f_X4_readEither_L8 (n : Nat) (this : Nat) (j108_5 : Int32 → MS → Option (MS)) : Nat → Int32 → Int32 → MS → Option (MS)
  | 0, _, _, _ => none
  | k + 1, x15, x16, S17 => jn (f_X4_readEither_L8 n this j108_5 k) fun rec8_14 => (if (300 : Int32) ≤ x16 then j108_5 x15 S17 else jn (fun (S20 : MS) => jn (fun (x23 : Int32) (S24 : MS) => jn (fun (S27 : MS) => jn (fun (x30 : Int32) (S31 : MS) => cv (f_X4_advance n this S31) fun S32 => cv (f_X4_readAsk n this S32) fun S35 => jn (fun (S40 : MS) => bd (x16 + (1 : Int32)) fun x41 => rec8_14 x30 x41 S40) fun j102_39 => (if x23 = 0 then j102_39 S35 else gR S35 (mR S35 this 3) 7 fun q42 => cv (f_X7_put n q42 (15 : Int32) (0 : Int32) S35) fun S44 => j102_39 S44)) fun j79_29 => jn (fun (S50 : MS) => j79_29 (1 : Int32) S50) fun j74_49 => (if x15 = 0 then (if x23 = 0 then j74_49 S27 else j79_29 (0 : Int32) S27) else j74_49 S27)) fun j66_26 => (if x23 = 0 then (if x15 = 0 then j66_26 S24 else gR S24 (mR S24 this 3) 7 fun q54 => cv (f_X7_put n q54 (16 : Int32) (0 : Int32) S24) fun S56 => j66_26 S56) else j66_26 S24)) fun j47_22 => (if (mI S20 this 5) = (15 : Int32) then j47_22 (1 : Int32) S20 else j47_22 (0 : Int32) S20)) fun j33_19 => (if (mI S17 this 5) = (15 : Int32) then j33_19 S17 else (if (mI S17 this 5) = (16 : Int32) then j33_19 S17 else j108_5 x15 S17)))
def f_X4_readEither (n : Nat) (this : Nat) (S : MS) : Option (MS) :=
  cv (f_X4_readAsk n this S) fun S1 => jn (fun (x6 : Int32) (S7 : MS) => (if x6 = 0 then some S7 else gR S7 (mR S7 this 3) 7 fun q8 => cv (f_X7_put n q8 (16 : Int32) (0 : Int32) S7) fun S10 => some S10)) fun j108_5 => f_X4_readEither_L8 n this j108_5 n (0 : Int32) (0 : Int32) S1
set_option maxRecDepth 100000 in
set_option maxHeartbeats 4000000 in
theorem c_X4_readEither (l : Launch) (G : Gx) (n : Nat) (this : Nat) (S : MS) (So : MS) (hf : f_X4_readEither n this S = some So) (ok_this : Ok S this 4) : Cn G l yX4_readEither cX4_readEither 4 none rX4_readEither [.ref this] S none So := by
  refine Cn.of (by decide) (Nat.le_of_ble_eq_true rfl) ?_
  intro p e s m args below meth c hC hname hR ls hl
  have hC : Cx G RX4 cX4_readEither 4 none p s m args meth c := hC
  have hl : lv_has ls 4 [(0, .ref this)] := hl
  have hx := hC.x
  have hb := hC.b
  have hS : va_S (gA G) s.heap s.heap [] := va_S.rf
  have hE : Ex S S := Ex.rf S
  unfold f_X4_readEither at hf
  refine lv_iconst (v := 0) hx hb dX4_readEither_0 (by decide) ?_
  refine lv_istore_n (lv' := [(1, .int (0 : Int32)), (0, .ref this)]) hx hb dX4_readEither_1 rfl hl (by decide) rfl (fun ls hl => ?_)
  refine lv_aload_n hx hb dX4_readEither_2 rfl (lv_at hl 1 rfl) ?_
  obtain ⟨S1, hc2, hf⟩ := cv_of hf
  refine cl_RX4_107 (As := []) (rest := []) hC hR hS (c_X4_readAsk l G n this S S1 hc2 ok_this) ok_this rfl ⟨Nat.le_of_ble_eq_true rfl, Nat.le_of_ble_eq_true rfl⟩ hl.1 rfl (Nat.le_of_ble_eq_true rfl) dX4_readEither_3 (Nat.zero_le _) (Nat.zero_le _) (fun H locs hR hS hE3 => ?_)
  have ok_this := hE3 _ _ ok_this
  have hE := hE.tr hE3
  refine lv_iconst (v := 0) hx hb dX4_readEither_6 (by decide) ?_
  refine lv_istore_n (lv' := [(2, .int (0 : Int32)), (1, .int (0 : Int32)), (0, .ref this)]) hx hb dX4_readEither_7 rfl hl (by decide) rfl (fun ls hl => ?_)
  obtain ⟨j108_5, ej108_5, hf⟩ := jn_of2 hf
  have hj108_4 : ∀ (x6 : Int32) (S7 : MS) (H : Heap) (locs : List Loc) (ls : Array Slot), j108_5 x6 S7 = some So → Rp G S7 H → va_S (gA G) s.heap H locs → Ex S S7 → Ok S7 this 4 → lv_has ls 4 [(0, .ref this), (1, .int x6)] → W p l e rX4_readEither s m args below meth c H locs 0 0 (MQ below (Qn G S none So) args s 0 0 (gA G)) (F0 m 108 ls []) := by
    intro x6 S7 H locs ls hf hR hS hE ok_this hl
    rw [ej108_5] at hf
    refine lv_iload_n hx hb dX4_readEither_108 rfl (lv_at hl 1 rfl) ?_
    refine lv_if_eq (tgt := 122) hx hb dX4_readEither_109 (by decide) (fun hc => ?_) (fun hc => ?_)
    · replace hf := if_t hf hc
      exact r_vret hC hR hS hE hf dX4_readEither_122
    · replace hf := if_f hf hc
      refine lv_aload_n hx hb dX4_readEither_112 rfl (lv_at hl 0 rfl) ?_
      obtain ⟨q8, hq9, ok_q8, hf⟩ := gR_of hf
      refine gf_RX4_25 hC hR ok_this hq9 dX4_readEither_113 ?_
      refine lv_bipush (v := 16) hx hb dX4_readEither_116 (by decide) ?_
      refine lv_iconst (v := 0) hx hb dX4_readEither_118 (by decide) ?_
      obtain ⟨S10, hc11, hf⟩ := cv_of hf
      refine cl_RX4_110 (As := [.int (16 : Int32), .int (0 : Int32)]) (rest := []) hC hR hS (c_X7_put l G n q8 (16 : Int32) (0 : Int32) S7 S10 hc11 ok_q8) ok_q8 rfl ⟨Nat.le_of_ble_eq_true rfl, Nat.le_of_ble_eq_true rfl⟩ hl.1 rfl (Nat.le_of_ble_eq_true rfl) dX4_readEither_119 (Nat.zero_le _) (Nat.zero_le _) (fun H locs hR hS hE12 => ?_)
      have ok_this := hE12 _ _ ok_this
      have ok_q8 := hE12 _ _ ok_q8
      have hE := hE.tr hE12
      exact r_vret hC hR hS hE hf dX4_readEither_122
  have hh63 : ∀ k : Nat, ∀ (x15 : Int32) (x16 : Int32) (S17 : MS) (H : Heap) (locs : List Loc) (ls : Array Slot), f_X4_readEither_L8 n this j108_5 k x15 x16 S17 = some So → Rp G S17 H → va_S (gA G) s.heap H locs → Ex S S17 → Ok S17 this 4 → lv_has ls 4 [(0, .ref this), (1, .int x15), (2, .int x16)] → W p l e rX4_readEither s m args below meth c H locs 0 0 (MQ below (Qn G S none So) args s 0 0 (gA G)) (F0 m 8 ls []) := by
    intro k
    induction k with
    | zero =>
      intro x15 x16 S17 H locs ls hf hR hS hE ok_this hl
      exact absurd hf (by rw [f_X4_readEither_L8]; exact fun h => by cases h)
    | succ k ih =>
      intro x15 x16 S17 H locs ls hf hR hS hE ok_this hl
      rw [f_X4_readEither_L8] at hf
      obtain ⟨rec8_14, erec8_14, hf⟩ := jn_of3 hf
      have hL8_13 : ∀ (x15 : Int32) (x16 : Int32) (S17 : MS) (H : Heap) (locs : List Loc) (ls : Array Slot), rec8_14 x15 x16 S17 = some So → Rp G S17 H → va_S (gA G) s.heap H locs → Ex S S17 → Ok S17 this 4 → lv_has ls 4 [(0, .ref this), (1, .int x15), (2, .int x16)] → W p l e rX4_readEither s m args below meth c H locs 0 0 (MQ below (Qn G S none So) args s 0 0 (gA G)) (F0 m 8 ls []) := by
        intro x15 x16 S17 H locs ls hf hR hS hE ok_this hl
        rw [erec8_14] at hf
        exact ih x15 x16 S17 _ _ _ hf hR hS hE ok_this hl
      refine lv_iload_n hx hb dX4_readEither_8 rfl (lv_at hl 2 rfl) ?_
      refine lv_sipush (v := 300) hx hb dX4_readEither_9 (by decide) ?_
      refine lv_icmp_ge (tgt := 108) hx hb dX4_readEither_12 (by decide) (fun hc => ?_) (fun hc => ?_)
      · replace hf := if_t hf hc
        exact hj108_4 x15 S17 _ _ _ hf hR hS hE ok_this (lv_sub hl [0, 1] rfl)
      · replace hf := if_f hf hc
        refine lv_aload_n hx hb dX4_readEither_15 rfl (lv_at hl 0 rfl) ?_
        refine gf_RX4_45 hC hR ok_this dX4_readEither_16 ?_
        refine lv_bipush (v := 15) hx hb dX4_readEither_19 (by decide) ?_
        obtain ⟨j33_19, ej33_19, hf⟩ := jn_of1 hf
        have hj33_18 : ∀ (S20 : MS) (H : Heap) (locs : List Loc) (ls : Array Slot), j33_19 S20 = some So → Rp G S20 H → va_S (gA G) s.heap H locs → Ex S S20 → Ok S20 this 4 → lv_has ls 4 [(0, .ref this), (1, .int x15), (2, .int x16)] → W p l e rX4_readEither s m args below meth c H locs 0 0 (MQ below (Qn G S none So) args s 0 0 (gA G)) (F0 m 33 ls []) := by
          intro S20 H locs ls hf hR hS hE ok_this hl
          rw [ej33_19] at hf
          refine lv_aload_n hx hb dX4_readEither_33 rfl (lv_at hl 0 rfl) ?_
          refine gf_RX4_45 hC hR ok_this dX4_readEither_34 ?_
          refine lv_bipush (v := 15) hx hb dX4_readEither_37 (by decide) ?_
          obtain ⟨j47_22, ej47_22, hf⟩ := jn_of2 hf
          have hj47_21 : ∀ (x23 : Int32) (S24 : MS) (H : Heap) (locs : List Loc) (ls : Array Slot), j47_22 x23 S24 = some So → Rp G S24 H → va_S (gA G) s.heap H locs → Ex S S24 → Ok S24 this 4 → lv_has ls 4 [(0, .ref this), (1, .int x15), (2, .int x16)] → W p l e rX4_readEither s m args below meth c H locs 0 0 (MQ below (Qn G S none So) args s 0 0 (gA G)) (F0 m 47 ls [.int x23]) := by
            intro x23 S24 H locs ls hf hR hS hE ok_this hl
            rw [ej47_22] at hf
            refine lv_istore_n (lv' := [(3, .int x23), (0, .ref this), (1, .int x15), (2, .int x16)]) hx hb dX4_readEither_47 rfl hl (by decide) rfl (fun ls hl => ?_)
            refine lv_iload_n hx hb dX4_readEither_48 rfl (lv_at hl 0 rfl) ?_
            obtain ⟨j66_26, ej66_26, hf⟩ := jn_of1 hf
            have hj66_25 : ∀ (S27 : MS) (H : Heap) (locs : List Loc) (ls : Array Slot), j66_26 S27 = some So → Rp G S27 H → va_S (gA G) s.heap H locs → Ex S S27 → Ok S27 this 4 → lv_has ls 4 [(0, .ref this), (1, .int x15), (2, .int x16), (3, .int x23)] → W p l e rX4_readEither s m args below meth c H locs 0 0 (MQ below (Qn G S none So) args s 0 0 (gA G)) (F0 m 66 ls []) := by
              intro S27 H locs ls hf hR hS hE ok_this hl
              rw [ej66_26] at hf
              refine lv_iload_n hx hb dX4_readEither_66 rfl (lv_at hl 1 rfl) ?_
              obtain ⟨j79_29, ej79_29, hf⟩ := jn_of2 hf
              have hj79_28 : ∀ (x30 : Int32) (S31 : MS) (H : Heap) (locs : List Loc) (ls : Array Slot), j79_29 x30 S31 = some So → Rp G S31 H → va_S (gA G) s.heap H locs → Ex S S31 → Ok S31 this 4 → lv_has ls 4 [(0, .ref this), (2, .int x16), (3, .int x23)] → W p l e rX4_readEither s m args below meth c H locs 0 0 (MQ below (Qn G S none So) args s 0 0 (gA G)) (F0 m 79 ls [.int x30]) := by
                intro x30 S31 H locs ls hf hR hS hE ok_this hl
                rw [ej79_29] at hf
                refine lv_istore_n (lv' := [(1, .int x30), (0, .ref this), (2, .int x16), (3, .int x23)]) hx hb dX4_readEither_79 rfl hl (by decide) rfl (fun ls hl => ?_)
                refine lv_aload_n hx hb dX4_readEither_80 rfl (lv_at hl 1 rfl) ?_
                obtain ⟨S32, hc33, hf⟩ := cv_of hf
                refine cl_RX4_51 (As := []) (rest := []) hC hR hS (c_X4_advance l G n this S31 S32 hc33 ok_this) ok_this rfl ⟨Nat.le_of_ble_eq_true rfl, Nat.le_of_ble_eq_true rfl⟩ hl.1 rfl (Nat.le_of_ble_eq_true rfl) dX4_readEither_81 (Nat.zero_le _) (Nat.zero_le _) (fun H locs hR hS hE34 => ?_)
                have ok_this := hE34 _ _ ok_this
                have hE := hE.tr hE34
                refine lv_aload_n hx hb dX4_readEither_84 rfl (lv_at hl 1 rfl) ?_
                obtain ⟨S35, hc36, hf⟩ := cv_of hf
                refine cl_RX4_107 (As := []) (rest := []) hC hR hS (c_X4_readAsk l G n this S32 S35 hc36 ok_this) ok_this rfl ⟨Nat.le_of_ble_eq_true rfl, Nat.le_of_ble_eq_true rfl⟩ hl.1 rfl (Nat.le_of_ble_eq_true rfl) dX4_readEither_85 (Nat.zero_le _) (Nat.zero_le _) (fun H locs hR hS hE37 => ?_)
                have ok_this := hE37 _ _ ok_this
                have hE := hE.tr hE37
                refine lv_iload_n hx hb dX4_readEither_88 rfl (lv_at hl 3 rfl) ?_
                obtain ⟨j102_39, ej102_39, hf⟩ := jn_of1 hf
                have hj102_38 : ∀ (S40 : MS) (H : Heap) (locs : List Loc) (ls : Array Slot), j102_39 S40 = some So → Rp G S40 H → va_S (gA G) s.heap H locs → Ex S S40 → Ok S40 this 4 → lv_has ls 4 [(0, .ref this), (1, .int x30), (2, .int x16)] → W p l e rX4_readEither s m args below meth c H locs 0 0 (MQ below (Qn G S none So) args s 0 0 (gA G)) (F0 m 102 ls []) := by
                  intro S40 H locs ls hf hR hS hE ok_this hl
                  rw [ej102_39] at hf
                  refine r_iinc (n := 1) (z := 1) (lv' := fun x41 => [(2, .int x41), (0, .ref this), (1, .int x30)]) hx hb dX4_readEither_102 hl (k := 2) rfl (by decide) (by decide) (fun _ => rfl) hf (fun x41 ls hf hl => ?_)
                  refine lv_goto (tgt := 8) hx hb dX4_readEither_105 (by decide) ?_
                  exact hL8_13 x30 x41 S40 _ _ _ hf hR hS hE ok_this (lv_sub hl [1, 2, 0] rfl)
                refine lv_if_eq (tgt := 102) hx hb dX4_readEither_89 (by decide) (fun hc => ?_) (fun hc => ?_)
                · replace hf := if_t hf hc
                  exact hj102_38 S35 _ _ _ hf hR hS hE ok_this (lv_sub hl [1, 0, 2] rfl)
                · replace hf := if_f hf hc
                  refine lv_aload_n hx hb dX4_readEither_92 rfl (lv_at hl 1 rfl) ?_
                  obtain ⟨q42, hq43, ok_q42, hf⟩ := gR_of hf
                  refine gf_RX4_25 hC hR ok_this hq43 dX4_readEither_93 ?_
                  refine lv_bipush (v := 15) hx hb dX4_readEither_96 (by decide) ?_
                  refine lv_iconst (v := 0) hx hb dX4_readEither_98 (by decide) ?_
                  obtain ⟨S44, hc45, hf⟩ := cv_of hf
                  refine cl_RX4_110 (As := [.int (15 : Int32), .int (0 : Int32)]) (rest := []) hC hR hS (c_X7_put l G n q42 (15 : Int32) (0 : Int32) S35 S44 hc45 ok_q42) ok_q42 rfl ⟨Nat.le_of_ble_eq_true rfl, Nat.le_of_ble_eq_true rfl⟩ hl.1 rfl (Nat.le_of_ble_eq_true rfl) dX4_readEither_99 (Nat.zero_le _) (Nat.zero_le _) (fun H locs hR hS hE46 => ?_)
                  have ok_this := hE46 _ _ ok_this
                  have ok_q42 := hE46 _ _ ok_q42
                  have hE := hE.tr hE46
                  exact hj102_38 S44 _ _ _ hf hR hS hE ok_this (lv_sub hl [1, 0, 2] rfl)
              obtain ⟨j74_49, ej74_49, hf⟩ := jn_of1 hf
              have hj74_48 : ∀ (S50 : MS) (H : Heap) (locs : List Loc) (ls : Array Slot), j74_49 S50 = some So → Rp G S50 H → va_S (gA G) s.heap H locs → Ex S S50 → Ok S50 this 4 → lv_has ls 4 [(0, .ref this), (2, .int x16), (3, .int x23)] → W p l e rX4_readEither s m args below meth c H locs 0 0 (MQ below (Qn G S none So) args s 0 0 (gA G)) (F0 m 74 ls []) := by
                intro S50 H locs ls hf hR hS hE ok_this hl
                rw [ej74_49] at hf
                refine lv_iconst (v := 1) hx hb dX4_readEither_74 (by decide) ?_
                refine lv_goto (tgt := 79) hx hb dX4_readEither_75 (by decide) ?_
                exact hj79_28 (1 : Int32) S50 _ _ _ hf hR hS hE ok_this (lv_sub hl [0, 1, 2] rfl)
              refine lv_if_ne (tgt := 74) hx hb dX4_readEither_67 (by decide) (fun hc => ?_) (fun hc => ?_)
              · replace hf := if_f hf hc
                exact hj74_48 S27 _ _ _ hf hR hS hE ok_this (lv_sub hl [0, 2, 3] rfl)
              · replace hf := if_t hf hc
                refine lv_iload_n hx hb dX4_readEither_70 rfl (lv_at hl 3 rfl) ?_
                refine lv_if_ne (tgt := 78) hx hb dX4_readEither_71 (by decide) (fun hc => ?_) (fun hc => ?_)
                · replace hf := if_f hf hc
                  refine lv_iconst (v := 0) hx hb dX4_readEither_78 (by decide) ?_
                  exact hj79_28 (0 : Int32) S27 _ _ _ hf hR hS hE ok_this (lv_sub hl [0, 2, 3] rfl)
                · replace hf := if_t hf hc
                  exact hj74_48 S27 _ _ _ hf hR hS hE ok_this (lv_sub hl [0, 2, 3] rfl)
            refine lv_if_ne (tgt := 66) hx hb dX4_readEither_49 (by decide) (fun hc => ?_) (fun hc => ?_)
            · replace hf := if_f hf hc
              exact hj66_25 S24 _ _ _ hf hR hS hE ok_this (lv_sub hl [1, 2, 3, 0] rfl)
            · replace hf := if_t hf hc
              refine lv_iload_n hx hb dX4_readEither_52 rfl (lv_at hl 2 rfl) ?_
              refine lv_if_eq (tgt := 66) hx hb dX4_readEither_53 (by decide) (fun hc => ?_) (fun hc => ?_)
              · replace hf := if_t hf hc
                exact hj66_25 S24 _ _ _ hf hR hS hE ok_this (lv_sub hl [1, 2, 3, 0] rfl)
              · replace hf := if_f hf hc
                refine lv_aload_n hx hb dX4_readEither_56 rfl (lv_at hl 1 rfl) ?_
                obtain ⟨q54, hq55, ok_q54, hf⟩ := gR_of hf
                refine gf_RX4_25 hC hR ok_this hq55 dX4_readEither_57 ?_
                refine lv_bipush (v := 16) hx hb dX4_readEither_60 (by decide) ?_
                refine lv_iconst (v := 0) hx hb dX4_readEither_62 (by decide) ?_
                obtain ⟨S56, hc57, hf⟩ := cv_of hf
                refine cl_RX4_110 (As := [.int (16 : Int32), .int (0 : Int32)]) (rest := []) hC hR hS (c_X7_put l G n q54 (16 : Int32) (0 : Int32) S24 S56 hc57 ok_q54) ok_q54 rfl ⟨Nat.le_of_ble_eq_true rfl, Nat.le_of_ble_eq_true rfl⟩ hl.1 rfl (Nat.le_of_ble_eq_true rfl) dX4_readEither_63 (Nat.zero_le _) (Nat.zero_le _) (fun H locs hR hS hE58 => ?_)
                have ok_this := hE58 _ _ ok_this
                have ok_q54 := hE58 _ _ ok_q54
                have hE := hE.tr hE58
                exact hj66_25 S56 _ _ _ hf hR hS hE ok_this (lv_sub hl [1, 2, 3, 0] rfl)
          refine lv_icmp_ne (tgt := 46) hx hb dX4_readEither_39 (by decide) (fun hc => ?_) (fun hc => ?_)
          · replace hf := if_f hf hc
            refine lv_iconst (v := 0) hx hb dX4_readEither_46 (by decide) ?_
            exact hj47_21 (0 : Int32) S20 _ _ _ hf hR hS hE ok_this (lv_sub hl [0, 1, 2] rfl)
          · replace hf := if_t hf hc
            refine lv_iconst (v := 1) hx hb dX4_readEither_42 (by decide) ?_
            refine lv_goto (tgt := 47) hx hb dX4_readEither_43 (by decide) ?_
            exact hj47_21 (1 : Int32) S20 _ _ _ hf hR hS hE ok_this (lv_sub hl [0, 1, 2] rfl)
        refine lv_icmp_eq (tgt := 33) hx hb dX4_readEither_21 (by decide) (fun hc => ?_) (fun hc => ?_)
        · replace hf := if_t hf hc
          exact hj33_18 S17 _ _ _ hf hR hS hE ok_this (lv_sub hl [0, 1, 2] rfl)
        · replace hf := if_f hf hc
          refine lv_aload_n hx hb dX4_readEither_24 rfl (lv_at hl 0 rfl) ?_
          refine gf_RX4_45 hC hR ok_this dX4_readEither_25 ?_
          refine lv_bipush (v := 16) hx hb dX4_readEither_28 (by decide) ?_
          refine lv_icmp_ne (tgt := 108) hx hb dX4_readEither_30 (by decide) (fun hc => ?_) (fun hc => ?_)
          · replace hf := if_f hf hc
            exact hj108_4 x15 S17 _ _ _ hf hR hS hE ok_this (lv_sub hl [0, 1] rfl)
          · replace hf := if_t hf hc
            exact hj33_18 S17 _ _ _ hf hR hS hE ok_this (lv_sub hl [0, 1, 2] rfl)
  exact hh63 n (0 : Int32) (0 : Int32) S1 _ _ _ hf hR hS hE ok_this (lv_sub hl [2, 1, 0] rfl)
abbrev rX4_readPlace : Room := { frames := 2, cells := 0, slots := 0, locals := 44 }
def f_X4_readPlace (n : Nat) (this : Nat) (a1 : Int32) (a2 : Int32) (S : MS) : Option (MS) :=
  gR S (mR S this 3) 7 fun q1 => gR S (mR S q1 1) 12 fun q3 => jn (fun (q7 : Nat) (x8 : Int32) (x9 : Int32) (S10 : MS) => ck (inb x8 (mN S10 q7)) (bd (sI S10 q7 x8.toNatClampNeg x9) fun S12 => cv (f_X4_expect n this (17 : Int32) S12) fun S14 => gR S14 (mR S14 this 3) 7 fun q17 => gR S14 (mR S14 q17 2) 12 fun q19 => cl (f_X4_readNumber n this (0 : Int32) (7 : Int32) S14) fun x24 S21 => ck (inb a1 (mN S21 q19)) (bd (sI S21 q19 a1.toNatClampNeg x24) fun S26 => cv (f_X4_expect n this (34 : Int32) S26) fun S28 => gR S28 (mR S28 this 3) 7 fun q31 => gR S28 (mR S28 q31 3) 12 fun q33 => cl (f_X4_readNumber n this (0 : Int32) (5 : Int32) S28) fun x38 S35 => ck (inb a1 (mN S35 q33)) (bd (sI S35 q33 a1.toNatClampNeg x38) fun S40 => some S40)))) fun j30_6 => (if a2 = (22 : Int32) then cl (f_X4_readNumber n this (1 : Int32) (99 : Int32) S) fun x49 S46 => j30_6 q3 a1 x49 S46 else cl (f_X4_readNumber n this (0 : Int32) (5 : Int32) S) fun x45 S42 => j30_6 q3 a1 x45 S42)
set_option maxRecDepth 100000 in
set_option maxHeartbeats 4000000 in
theorem c_X4_readPlace (l : Launch) (G : Gx) (n : Nat) (this : Nat) (a1 : Int32) (a2 : Int32) (S : MS) (So : MS) (hf : f_X4_readPlace n this a1 a2 S = some So) (ok_this : Ok S this 4) : Cn G l yX4_readPlace cX4_readPlace 3 none rX4_readPlace [.ref this, .int a1, .int a2] S none So := by
  refine Cn.of (by decide) (Nat.le_of_ble_eq_true rfl) ?_
  intro p e s m args below meth c hC hname hR ls hl
  have hC : Cx G RX4 cX4_readPlace 3 none p s m args meth c := hC
  have hl : lv_has ls 3 [(0, .ref this), (1, .int a1), (2, .int a2)] := hl
  have hx := hC.x
  have hb := hC.b
  have hS : va_S (gA G) s.heap s.heap [] := va_S.rf
  have hE : Ex S S := Ex.rf S
  unfold f_X4_readPlace at hf
  refine lv_aload_n hx hb dX4_readPlace_0 rfl (lv_at hl 0 rfl) ?_
  obtain ⟨q1, hq2, ok_q1, hf⟩ := gR_of hf
  refine gf_RX4_25 hC hR ok_this hq2 dX4_readPlace_1 ?_
  obtain ⟨q3, hq4, ok_q3, hf⟩ := gR_of hf
  refine gf_RX4_75 hC hR ok_q1 hq4 dX4_readPlace_4 ?_
  refine lv_iload_n hx hb dX4_readPlace_7 rfl (lv_at hl 1 rfl) ?_
  refine lv_iload_n hx hb dX4_readPlace_8 rfl (lv_at hl 2 rfl) ?_
  refine lv_bipush (v := 22) hx hb dX4_readPlace_9 (by decide) ?_
  obtain ⟨j30_6, ej30_6, hf⟩ := jn_of4 hf
  have hj30_5 : ∀ (q7 : Nat) (x8 : Int32) (x9 : Int32) (S10 : MS) (H : Heap) (locs : List Loc) (ls : Array Slot), j30_6 q7 x8 x9 S10 = some So → Rp G S10 H → va_S (gA G) s.heap H locs → Ex S S10 → Ok S10 this 4 → Ok S10 q7 12 → lv_has ls 3 [(0, .ref this), (1, .int a1)] → W p l e rX4_readPlace s m args below meth c H locs 0 0 (MQ below (Qn G S none So) args s 0 0 (gA G)) (F0 m 30 ls [.int x9, .int x8, .ref q7]) := by
    intro q7 x8 x9 S10 H locs ls hf hR hS hE ok_this ok_q7 hl
    rw [ej30_6] at hf
    obtain ⟨hi11, hf⟩ := ck_of hf
    refine rB_iast hC hR hS ok_q7 hi11 dX4_readPlace_30 hf (fun S12 H locs hf hR hS hE13 => ?_)
    have ok_this := hE13 _ _ ok_this
    have ok_q7 := hE13 _ _ ok_q7
    have hE := hE.tr hE13
    refine lv_aload_n hx hb dX4_readPlace_31 rfl (lv_at hl 0 rfl) ?_
    refine lv_bipush (v := 17) hx hb dX4_readPlace_32 (by decide) ?_
    obtain ⟨S14, hc15, hf⟩ := cv_of hf
    refine cl_RX4_94 (As := [.int (17 : Int32)]) (rest := []) hC hR hS (c_X4_expect l G n this (17 : Int32) S12 S14 hc15 ok_this) ok_this rfl ⟨Nat.le_of_ble_eq_true rfl, Nat.le_of_ble_eq_true rfl⟩ hl.1 rfl (Nat.le_of_ble_eq_true rfl) dX4_readPlace_34 (Nat.zero_le _) (Nat.zero_le _) (fun H locs hR hS hE16 => ?_)
    have ok_this := hE16 _ _ ok_this
    have ok_q7 := hE16 _ _ ok_q7
    have hE := hE.tr hE16
    refine lv_aload_n hx hb dX4_readPlace_37 rfl (lv_at hl 0 rfl) ?_
    obtain ⟨q17, hq18, ok_q17, hf⟩ := gR_of hf
    refine gf_RX4_25 hC hR ok_this hq18 dX4_readPlace_38 ?_
    obtain ⟨q19, hq20, ok_q19, hf⟩ := gR_of hf
    refine gf_RX4_91 hC hR ok_q17 hq20 dX4_readPlace_41 ?_
    refine lv_iload_n hx hb dX4_readPlace_44 rfl (lv_at hl 1 rfl) ?_
    refine lv_aload_n hx hb dX4_readPlace_45 rfl (lv_at hl 0 rfl) ?_
    refine lv_iconst (v := 0) hx hb dX4_readPlace_46 (by decide) ?_
    refine lv_bipush (v := 7) hx hb dX4_readPlace_47 (by decide) ?_
    obtain ⟨x24, S21, hc22, hf⟩ := cl_of hf
    refine cl_RX4_97 (As := [.int (0 : Int32), .int (7 : Int32)]) (rest := [.int a1, .ref q19]) hC hR hS (c_X4_readNumber l G n this (0 : Int32) (7 : Int32) S14 x24 S21 hc22 ok_this) ok_this rfl ⟨Nat.le_of_ble_eq_true rfl, Nat.le_of_ble_eq_true rfl⟩ hl.1 rfl (Nat.le_of_ble_eq_true rfl) dX4_readPlace_49 (Nat.zero_le _) (Nat.zero_le _) (fun H locs hR hS hE23 => ?_)
    have ok_this := hE23 _ _ ok_this
    have ok_q7 := hE23 _ _ ok_q7
    have ok_q17 := hE23 _ _ ok_q17
    have ok_q19 := hE23 _ _ ok_q19
    have hE := hE.tr hE23
    obtain ⟨hi25, hf⟩ := ck_of hf
    refine rB_iast hC hR hS ok_q19 hi25 dX4_readPlace_52 hf (fun S26 H locs hf hR hS hE27 => ?_)
    have ok_this := hE27 _ _ ok_this
    have ok_q7 := hE27 _ _ ok_q7
    have ok_q17 := hE27 _ _ ok_q17
    have ok_q19 := hE27 _ _ ok_q19
    have hE := hE.tr hE27
    refine lv_aload_n hx hb dX4_readPlace_53 rfl (lv_at hl 0 rfl) ?_
    refine lv_bipush (v := 34) hx hb dX4_readPlace_54 (by decide) ?_
    obtain ⟨S28, hc29, hf⟩ := cv_of hf
    refine cl_RX4_94 (As := [.int (34 : Int32)]) (rest := []) hC hR hS (c_X4_expect l G n this (34 : Int32) S26 S28 hc29 ok_this) ok_this rfl ⟨Nat.le_of_ble_eq_true rfl, Nat.le_of_ble_eq_true rfl⟩ hl.1 rfl (Nat.le_of_ble_eq_true rfl) dX4_readPlace_56 (Nat.zero_le _) (Nat.zero_le _) (fun H locs hR hS hE30 => ?_)
    have ok_this := hE30 _ _ ok_this
    have ok_q7 := hE30 _ _ ok_q7
    have ok_q17 := hE30 _ _ ok_q17
    have ok_q19 := hE30 _ _ ok_q19
    have hE := hE.tr hE30
    refine lv_aload_n hx hb dX4_readPlace_59 rfl (lv_at hl 0 rfl) ?_
    obtain ⟨q31, hq32, ok_q31, hf⟩ := gR_of hf
    refine gf_RX4_25 hC hR ok_this hq32 dX4_readPlace_60 ?_
    obtain ⟨q33, hq34, ok_q33, hf⟩ := gR_of hf
    refine gf_RX4_101 hC hR ok_q31 hq34 dX4_readPlace_63 ?_
    refine lv_iload_n hx hb dX4_readPlace_66 rfl (lv_at hl 1 rfl) ?_
    refine lv_aload_n hx hb dX4_readPlace_67 rfl (lv_at hl 0 rfl) ?_
    refine lv_iconst (v := 0) hx hb dX4_readPlace_68 (by decide) ?_
    refine lv_iconst (v := 5) hx hb dX4_readPlace_69 (by decide) ?_
    obtain ⟨x38, S35, hc36, hf⟩ := cl_of hf
    refine cl_RX4_97 (As := [.int (0 : Int32), .int (5 : Int32)]) (rest := [.int a1, .ref q33]) hC hR hS (c_X4_readNumber l G n this (0 : Int32) (5 : Int32) S28 x38 S35 hc36 ok_this) ok_this rfl ⟨Nat.le_of_ble_eq_true rfl, Nat.le_of_ble_eq_true rfl⟩ hl.1 rfl (Nat.le_of_ble_eq_true rfl) dX4_readPlace_70 (Nat.zero_le _) (Nat.zero_le _) (fun H locs hR hS hE37 => ?_)
    have ok_this := hE37 _ _ ok_this
    have ok_q7 := hE37 _ _ ok_q7
    have ok_q17 := hE37 _ _ ok_q17
    have ok_q19 := hE37 _ _ ok_q19
    have ok_q31 := hE37 _ _ ok_q31
    have ok_q33 := hE37 _ _ ok_q33
    have hE := hE.tr hE37
    obtain ⟨hi39, hf⟩ := ck_of hf
    refine rB_iast hC hR hS ok_q33 hi39 dX4_readPlace_73 hf (fun S40 H locs hf hR hS hE41 => ?_)
    have ok_this := hE41 _ _ ok_this
    have ok_q7 := hE41 _ _ ok_q7
    have ok_q17 := hE41 _ _ ok_q17
    have ok_q19 := hE41 _ _ ok_q19
    have ok_q31 := hE41 _ _ ok_q31
    have ok_q33 := hE41 _ _ ok_q33
    have hE := hE.tr hE41
    exact r_vret hC hR hS hE hf dX4_readPlace_74
  refine lv_icmp_ne (tgt := 24) hx hb dX4_readPlace_11 (by decide) (fun hc => ?_) (fun hc => ?_)
  · replace hf := if_f hf hc
    refine lv_aload_n hx hb dX4_readPlace_24 rfl (lv_at hl 0 rfl) ?_
    refine lv_iconst (v := 0) hx hb dX4_readPlace_25 (by decide) ?_
    refine lv_iconst (v := 5) hx hb dX4_readPlace_26 (by decide) ?_
    obtain ⟨x45, S42, hc43, hf⟩ := cl_of hf
    refine cl_RX4_97 (As := [.int (0 : Int32), .int (5 : Int32)]) (rest := [.int a1, .ref q3]) hC hR hS (c_X4_readNumber l G n this (0 : Int32) (5 : Int32) S x45 S42 hc43 ok_this) ok_this rfl ⟨Nat.le_of_ble_eq_true rfl, Nat.le_of_ble_eq_true rfl⟩ hl.1 rfl (Nat.le_of_ble_eq_true rfl) dX4_readPlace_27 (Nat.zero_le _) (Nat.zero_le _) (fun H locs hR hS hE44 => ?_)
    have ok_this := hE44 _ _ ok_this
    have ok_q1 := hE44 _ _ ok_q1
    have ok_q3 := hE44 _ _ ok_q3
    have hE := hE.tr hE44
    exact hj30_5 q3 a1 x45 S42 _ _ _ hf hR hS hE ok_this ok_q3 (lv_sub hl [0, 1] rfl)
  · replace hf := if_t hf hc
    refine lv_aload_n hx hb dX4_readPlace_14 rfl (lv_at hl 0 rfl) ?_
    refine lv_iconst (v := 1) hx hb dX4_readPlace_15 (by decide) ?_
    refine lv_bipush (v := 99) hx hb dX4_readPlace_16 (by decide) ?_
    obtain ⟨x49, S46, hc47, hf⟩ := cl_of hf
    refine cl_RX4_97 (As := [.int (1 : Int32), .int (99 : Int32)]) (rest := [.int a1, .ref q3]) hC hR hS (c_X4_readNumber l G n this (1 : Int32) (99 : Int32) S x49 S46 hc47 ok_this) ok_this rfl ⟨Nat.le_of_ble_eq_true rfl, Nat.le_of_ble_eq_true rfl⟩ hl.1 rfl (Nat.le_of_ble_eq_true rfl) dX4_readPlace_18 (Nat.zero_le _) (Nat.zero_le _) (fun H locs hR hS hE48 => ?_)
    have ok_this := hE48 _ _ ok_this
    have ok_q1 := hE48 _ _ ok_q1
    have ok_q3 := hE48 _ _ ok_q3
    have hE := hE.tr hE48
    refine lv_goto (tgt := 30) hx hb dX4_readPlace_21 (by decide) ?_
    exact hj30_5 q3 a1 x49 S46 _ _ _ hf hR hS hE ok_this ok_q3 (lv_sub hl [0, 1] rfl)
abbrev rX7_addClause : Room := { frames := 0, cells := 0, slots := 0, locals := 0 }
def f_X7_addClause (_n : Nat) (this : Nat) (a1 : Int32) (S : MS) : Option (Int32 × MS) :=
  (if (mI S this 5) < (20 : Int32) then bd (mI S this 5) fun x1 => bd (sI S this 5 ((mI S this 5) + (1 : Int32))) fun S2 => gR S2 (mR S2 this 0) 12 fun q4 => ck (inb x1 (mN S2 q4)) (bd (sI S2 q4 x1.toNatClampNeg a1) fun S7 => (if a1 = (18 : Int32) then bd (sI S7 this 7 x1) fun S13 => some (x1, S13) else (if a1 = (19 : Int32) then bd (sI S7 this 8 x1) fun S11 => some (x1, S11) else (if a1 = (20 : Int32) then bd (sI S7 this 9 x1) fun S9 => some (x1, S9) else some (x1, S7))))) else some ((-1 : Int32), S))
set_option maxRecDepth 100000 in
set_option maxHeartbeats 4000000 in
theorem c_X7_addClause (l : Launch) (G : Gx) (n : Nat) (this : Nat) (a1 : Int32) (S : MS) (ro : Int32) (So : MS) (hf : f_X7_addClause n this a1 S = some (ro, So)) (ok_this : Ok S this 7) : Cn G l yX7_addClause cX7_addClause 3 (some .int) rX7_addClause [.ref this, .int a1] S (some (.int ro)) So := by
  refine Cn.of (by decide) (Nat.le_of_ble_eq_true rfl) ?_
  intro p e s m args below meth c hC hname hR ls hl
  have hC : Cx G RX7 cX7_addClause 3 (some .int) p s m args meth c := hC
  have hl : lv_has ls 3 [(0, .ref this), (1, .int a1)] := hl
  have hx := hC.x
  have hb := hC.b
  have hS : va_S (gA G) s.heap s.heap [] := va_S.rf
  have hE : Ex S S := Ex.rf S
  unfold f_X7_addClause at hf
  refine lv_aload_n hx hb dX7_addClause_0 rfl (lv_at hl 0 rfl) ?_
  refine gf_RX7_27 hC hR ok_this dX7_addClause_1 ?_
  refine lv_bipush (v := 20) hx hb dX7_addClause_4 (by decide) ?_
  refine lv_icmp_lt (tgt := 11) hx hb dX7_addClause_6 (by decide) (fun hc => ?_) (fun hc => ?_)
  · replace hf := if_t hf hc
    refine lv_aload_n hx hb dX7_addClause_11 rfl (lv_at hl 0 rfl) ?_
    refine gf_RX7_27 hC hR ok_this dX7_addClause_12 ?_
    refine bdi hf (fun x1 hf => ?_)
    refine lv_istore_n (lv' := [(2, .int x1), (0, .ref this), (1, .int a1)]) hx hb dX7_addClause_15 rfl hl (by decide) rfl (fun ls hl => ?_)
    refine lv_aload_n hx hb dX7_addClause_16 rfl (lv_at hl 1 rfl) ?_
    refine lv_dup hx hb dX7_addClause_17 rfl ?_
    refine gf_RX7_27 hC hR ok_this dX7_addClause_18 ?_
    refine lv_iconst (v := 1) hx hb dX7_addClause_21 (by decide) ?_
    refine lv_iadd hx hb dX7_addClause_22 ?_
    refine pf_RX7_27 hC hR hS ok_this dX7_addClause_23 hf (fun S2 H locs hf hR hS hE3 => ?_)
    have ok_this := hE3 _ _ ok_this
    have hE := hE.tr hE3
    refine lv_aload_n hx hb dX7_addClause_26 rfl (lv_at hl 1 rfl) ?_
    obtain ⟨q4, hq5, ok_q4, hf⟩ := gR_of hf
    refine gf_RX7_9 hC hR ok_this hq5 dX7_addClause_27 ?_
    refine lv_iload_n hx hb dX7_addClause_30 rfl (lv_at hl 0 rfl) ?_
    refine lv_iload_n hx hb dX7_addClause_31 rfl (lv_at hl 2 rfl) ?_
    obtain ⟨hi6, hf⟩ := ck_of hf
    refine rB_iast hC hR hS ok_q4 hi6 dX7_addClause_32 hf (fun S7 H locs hf hR hS hE8 => ?_)
    have ok_this := hE8 _ _ ok_this
    have ok_q4 := hE8 _ _ ok_q4
    have hE := hE.tr hE8
    refine lv_iload_n hx hb dX7_addClause_33 rfl (lv_at hl 2 rfl) ?_
    refine lv_bipush (v := 18) hx hb dX7_addClause_34 (by decide) ?_
    refine lv_icmp_ne (tgt := 47) hx hb dX7_addClause_36 (by decide) (fun hc => ?_) (fun hc => ?_)
    · replace hf := if_f hf hc
      refine lv_iload_n hx hb dX7_addClause_47 rfl (lv_at hl 2 rfl) ?_
      refine lv_bipush (v := 19) hx hb dX7_addClause_48 (by decide) ?_
      refine lv_icmp_ne (tgt := 61) hx hb dX7_addClause_50 (by decide) (fun hc => ?_) (fun hc => ?_)
      · replace hf := if_f hf hc
        refine lv_iload_n hx hb dX7_addClause_61 rfl (lv_at hl 2 rfl) ?_
        refine lv_bipush (v := 20) hx hb dX7_addClause_62 (by decide) ?_
        refine lv_icmp_ne (tgt := 72) hx hb dX7_addClause_64 (by decide) (fun hc => ?_) (fun hc => ?_)
        · replace hf := if_f hf hc
          refine lv_iload_n hx hb dX7_addClause_72 rfl (lv_at hl 0 rfl) ?_
          exact r_iret hC hR hS hE hf dX7_addClause_73
        · replace hf := if_t hf hc
          refine lv_aload_n hx hb dX7_addClause_67 rfl (lv_at hl 1 rfl) ?_
          refine lv_iload_n hx hb dX7_addClause_68 rfl (lv_at hl 0 rfl) ?_
          refine pf_RX7_40 hC hR hS ok_this dX7_addClause_69 hf (fun S9 H locs hf hR hS hE10 => ?_)
          have ok_this := hE10 _ _ ok_this
          have ok_q4 := hE10 _ _ ok_q4
          have hE := hE.tr hE10
          refine lv_iload_n hx hb dX7_addClause_72 rfl (lv_at hl 0 rfl) ?_
          exact r_iret hC hR hS hE hf dX7_addClause_73
      · replace hf := if_t hf hc
        refine lv_aload_n hx hb dX7_addClause_53 rfl (lv_at hl 1 rfl) ?_
        refine lv_iload_n hx hb dX7_addClause_54 rfl (lv_at hl 0 rfl) ?_
        refine pf_RX7_37 hC hR hS ok_this dX7_addClause_55 hf (fun S11 H locs hf hR hS hE12 => ?_)
        have ok_this := hE12 _ _ ok_this
        have ok_q4 := hE12 _ _ ok_q4
        have hE := hE.tr hE12
        refine lv_goto (tgt := 72) hx hb dX7_addClause_58 (by decide) ?_
        refine lv_iload_n hx hb dX7_addClause_72 rfl (lv_at hl 0 rfl) ?_
        exact r_iret hC hR hS hE hf dX7_addClause_73
    · replace hf := if_t hf hc
      refine lv_aload_n hx hb dX7_addClause_39 rfl (lv_at hl 1 rfl) ?_
      refine lv_iload_n hx hb dX7_addClause_40 rfl (lv_at hl 0 rfl) ?_
      refine pf_RX7_34 hC hR hS ok_this dX7_addClause_41 hf (fun S13 H locs hf hR hS hE14 => ?_)
      have ok_this := hE14 _ _ ok_this
      have ok_q4 := hE14 _ _ ok_q4
      have hE := hE.tr hE14
      refine lv_goto (tgt := 72) hx hb dX7_addClause_44 (by decide) ?_
      refine lv_iload_n hx hb dX7_addClause_72 rfl (lv_at hl 0 rfl) ?_
      exact r_iret hC hR hS hE hf dX7_addClause_73
  · replace hf := if_f hf hc
    refine lv_iconst (v := -1) hx hb dX7_addClause_9 (by decide) ?_
    exact r_iret hC hR hS hE hf dX7_addClause_10
abbrev rX7_has : Room := { frames := 0, cells := 0, slots := 0, locals := 0 }
def f_X7_has (_n : Nat) (this : Nat) (a1 : Int32) (S : MS) : Option (Int32 × MS) :=
  jn (fun (S3 : MS) => jn (fun (S6 : MS) => (if a1 = (20 : Int32) then (if (mI S6 this 9) = (-1 : Int32) then zb (0 : Int32) (some ((0 : Int32), S6)) else zb (1 : Int32) (some ((1 : Int32), S6))) else zb (0 : Int32) (some ((0 : Int32), S6)))) fun j28_5 => (if a1 = (19 : Int32) then (if (mI S3 this 8) = (-1 : Int32) then j28_5 S3 else zb (1 : Int32) (some ((1 : Int32), S3))) else j28_5 S3)) fun j14_2 => (if a1 = (18 : Int32) then (if (mI S this 7) = (-1 : Int32) then j14_2 S else zb (1 : Int32) (some ((1 : Int32), S))) else j14_2 S)
set_option maxRecDepth 100000 in
set_option maxHeartbeats 4000000 in
theorem c_X7_has (l : Launch) (G : Gx) (n : Nat) (this : Nat) (a1 : Int32) (S : MS) (ro : Int32) (So : MS) (hf : f_X7_has n this a1 S = some (ro, So)) (ok_this : Ok S this 7) : Cn G l yX7_has cX7_has 2 (some .boolean) rX7_has [.ref this, .int a1] S (some (.int ro)) So := by
  refine Cn.of (by decide) (Nat.le_of_ble_eq_true rfl) ?_
  intro p e s m args below meth c hC hname hR ls hl
  have hC : Cx G RX7 cX7_has 2 (some .boolean) p s m args meth c := hC
  have hl : lv_has ls 2 [(0, .ref this), (1, .int a1)] := hl
  have hx := hC.x
  have hb := hC.b
  have hS : va_S (gA G) s.heap s.heap [] := va_S.rf
  have hE : Ex S S := Ex.rf S
  unfold f_X7_has at hf
  refine lv_iload_n hx hb dX7_has_0 rfl (lv_at hl 1 rfl) ?_
  refine lv_bipush (v := 18) hx hb dX7_has_1 (by decide) ?_
  obtain ⟨j14_2, ej14_2, hf⟩ := jn_of1 hf
  have hj14_1 : ∀ (S3 : MS) (H : Heap) (locs : List Loc) (ls : Array Slot), j14_2 S3 = some (ro, So) → Rp G S3 H → va_S (gA G) s.heap H locs → Ex S S3 → Ok S3 this 7 → lv_has ls 2 [(0, .ref this), (1, .int a1)] → W p l e rX7_has s m args below meth c H locs 0 0 (MQ below (Qn G S (some (.int ro)) So) args s 0 0 (gA G)) (F0 m 14 ls []) := by
    intro S3 H locs ls hf hR hS hE ok_this hl
    rw [ej14_2] at hf
    refine lv_iload_n hx hb dX7_has_14 rfl (lv_at hl 1 rfl) ?_
    refine lv_bipush (v := 19) hx hb dX7_has_15 (by decide) ?_
    obtain ⟨j28_5, ej28_5, hf⟩ := jn_of1 hf
    have hj28_4 : ∀ (S6 : MS) (H : Heap) (locs : List Loc) (ls : Array Slot), j28_5 S6 = some (ro, So) → Rp G S6 H → va_S (gA G) s.heap H locs → Ex S S6 → Ok S6 this 7 → lv_has ls 2 [(0, .ref this), (1, .int a1)] → W p l e rX7_has s m args below meth c H locs 0 0 (MQ below (Qn G S (some (.int ro)) So) args s 0 0 (gA G)) (F0 m 28 ls []) := by
      intro S6 H locs ls hf hR hS hE ok_this hl
      rw [ej28_5] at hf
      refine lv_iload_n hx hb dX7_has_28 rfl (lv_at hl 1 rfl) ?_
      refine lv_bipush (v := 20) hx hb dX7_has_29 (by decide) ?_
      refine lv_icmp_ne (tgt := 46) hx hb dX7_has_31 (by decide) (fun hc => ?_) (fun hc => ?_)
      · replace hf := if_f hf hc
        refine lv_iconst (v := 0) hx hb dX7_has_46 (by decide) ?_
        exact r_zret hC hR hS hE hf dX7_has_47
      · replace hf := if_t hf hc
        refine lv_aload_n hx hb dX7_has_34 rfl (lv_at hl 0 rfl) ?_
        refine gf_RX7_40 hC hR ok_this dX7_has_35 ?_
        refine lv_iconst (v := -1) hx hb dX7_has_38 (by decide) ?_
        refine lv_icmp_eq (tgt := 46) hx hb dX7_has_39 (by decide) (fun hc => ?_) (fun hc => ?_)
        · replace hf := if_t hf hc
          refine lv_iconst (v := 0) hx hb dX7_has_46 (by decide) ?_
          exact r_zret hC hR hS hE hf dX7_has_47
        · replace hf := if_f hf hc
          refine lv_iconst (v := 1) hx hb dX7_has_42 (by decide) ?_
          refine lv_goto (tgt := 47) hx hb dX7_has_43 (by decide) ?_
          exact r_zret hC hR hS hE hf dX7_has_47
    refine lv_icmp_ne (tgt := 28) hx hb dX7_has_17 (by decide) (fun hc => ?_) (fun hc => ?_)
    · replace hf := if_f hf hc
      exact hj28_4 S3 _ _ _ hf hR hS hE ok_this (lv_sub hl [0, 1] rfl)
    · replace hf := if_t hf hc
      refine lv_aload_n hx hb dX7_has_20 rfl (lv_at hl 0 rfl) ?_
      refine gf_RX7_37 hC hR ok_this dX7_has_21 ?_
      refine lv_iconst (v := -1) hx hb dX7_has_24 (by decide) ?_
      refine lv_icmp_ne (tgt := 42) hx hb dX7_has_25 (by decide) (fun hc => ?_) (fun hc => ?_)
      · replace hf := if_f hf hc
        refine lv_iconst (v := 1) hx hb dX7_has_42 (by decide) ?_
        refine lv_goto (tgt := 47) hx hb dX7_has_43 (by decide) ?_
        exact r_zret hC hR hS hE hf dX7_has_47
      · replace hf := if_t hf hc
        exact hj28_4 S3 _ _ _ hf hR hS hE ok_this (lv_sub hl [0, 1] rfl)
  refine lv_icmp_ne (tgt := 14) hx hb dX7_has_3 (by decide) (fun hc => ?_) (fun hc => ?_)
  · replace hf := if_f hf hc
    exact hj14_1 S _ _ _ hf hR hS hE ok_this (lv_sub hl [0, 1] rfl)
  · replace hf := if_t hf hc
    refine lv_aload_n hx hb dX7_has_6 rfl (lv_at hl 0 rfl) ?_
    refine gf_RX7_34 hC hR ok_this dX7_has_7 ?_
    refine lv_iconst (v := -1) hx hb dX7_has_10 (by decide) ?_
    refine lv_icmp_ne (tgt := 42) hx hb dX7_has_11 (by decide) (fun hc => ?_) (fun hc => ?_)
    · replace hf := if_f hf hc
      refine lv_iconst (v := 1) hx hb dX7_has_42 (by decide) ?_
      refine lv_goto (tgt := 47) hx hb dX7_has_43 (by decide) ?_
      exact r_zret hC hR hS hE hf dX7_has_47
    · replace hf := if_t hf hc
      exact hj14_1 S _ _ _ hf hR hS hE ok_this (lv_sub hl [0, 1] rfl)
abbrev rX4_readClause : Room := { frames := 39, cells := 0, slots := 0, locals := 887 }
def f_X4_readClause (n : Nat) (this : Nat) (S : MS) : Option (MS) :=
  bd (mI S this 5) fun x1 => jn (fun (S4 : MS) => jn (fun (x7 : Int32) (S8 : MS) => (if x7 = (-1 : Int32) then some S8 else cv (f_X4_advance n this S8) fun S9 => cl (f_X4_namesOf n x1 S9) fun x15 S12 => bd (sI S12 this 6 x15) fun S16 => gR S16 (mR S16 this 3) 7 fun q18 => gR S16 (mR S16 q18 1) 12 fun q20 => gR S16 (mR S16 this 3) 7 fun q22 => ck (inb x7 (mN S16 q20)) (bd (sI S16 q20 x7.toNatClampNeg (mI S16 q22 6)) fun S25 => jn (fun (S29 : MS) => (if x1 = (22 : Int32) then cv (f_X4_expect n this (35 : Int32) S29) fun S30 => some S30 else (if x1 = (23 : Int32) then cv (f_X4_expect n this (35 : Int32) S29) fun S33 => some S33 else gR S29 (mR S29 this 3) 7 fun q36 => gR S29 (mR S29 q36 2) 12 fun q38 => gR S29 (mR S29 this 3) 7 fun q40 => ck (inb x7 (mN S29 q38)) (bd (sI S29 q38 x7.toNatClampNeg (mI S29 q40 6)) fun S43 => cv (f_X4_expect n this (35 : Int32) S43) fun S45 => some S45)))) fun j155_28 => jn (fun (S50 : MS) => cv (f_X4_readPlace n this x7 x1 S50) fun S51 => j155_28 S51) fun j128_49 => (if x1 = (22 : Int32) then j128_49 S25 else (if x1 = (23 : Int32) then j128_49 S25 else (if x1 = (21 : Int32) then cv (f_X4_readEither n this S25) fun S57 => j155_28 S57 else cv (f_X4_readSum n this (0 : Int32) S25) fun S54 => j155_28 S54)))))) fun j81_6 => (if (mI S4 this 0) = 0 then gR S4 (mR S4 this 3) 7 fun q62 => cl (f_X7_addClause n q62 x1 S4) fun x67 S64 => j81_6 x67 S64 else j81_6 (-1 : Int32) S4)) fun j62_3 => jn (fun (S72 : MS) => cv (f_X4_complain n this (1 : Int32) S72) fun S73 => j62_3 S73) fun j17_71 => (if x1 < (18 : Int32) then j17_71 S else (if x1 ≤ (23 : Int32) then gR S (mR S this 3) 7 fun q76 => cl (f_X7_has n q76 x1 S) fun x81 S78 => (if x81 = 0 then gR S78 (mR S78 this 3) 7 fun q82 => (if (mI S78 q82 5) < (20 : Int32) then j62_3 S78 else cv (f_X4_complain n this (6 : Int32) S78) fun S84 => j62_3 S84) else cv (f_X4_complain n this (4 : Int32) S78) fun S87 => j62_3 S87) else j17_71 S))
set_option maxRecDepth 100000 in
set_option maxHeartbeats 4000000 in
theorem c_X4_readClause (l : Launch) (G : Gx) (n : Nat) (this : Nat) (S : MS) (So : MS) (hf : f_X4_readClause n this S = some So) (ok_this : Ok S this 4) : Cn G l yX4_readClause cX4_readClause 3 none rX4_readClause [.ref this] S none So := by
  refine Cn.of (by decide) (Nat.le_of_ble_eq_true rfl) ?_
  intro p e s m args below meth c hC hname hR ls hl
  have hC : Cx G RX4 cX4_readClause 3 none p s m args meth c := hC
  have hl : lv_has ls 3 [(0, .ref this)] := hl
  have hx := hC.x
  have hb := hC.b
  have hS : va_S (gA G) s.heap s.heap [] := va_S.rf
  have hE : Ex S S := Ex.rf S
  unfold f_X4_readClause at hf
  refine lv_aload_n hx hb dX4_readClause_0 rfl (lv_at hl 0 rfl) ?_
  refine gf_RX4_45 hC hR ok_this dX4_readClause_1 ?_
  refine bdi hf (fun x1 hf => ?_)
  refine lv_istore_n (lv' := [(1, .int x1), (0, .ref this)]) hx hb dX4_readClause_4 rfl hl (by decide) rfl (fun ls hl => ?_)
  refine lv_iload_n hx hb dX4_readClause_5 rfl (lv_at hl 0 rfl) ?_
  refine lv_bipush (v := 18) hx hb dX4_readClause_6 (by decide) ?_
  obtain ⟨j62_3, ej62_3, hf⟩ := jn_of1 hf
  have hj62_2 : ∀ (S4 : MS) (H : Heap) (locs : List Loc) (ls : Array Slot), j62_3 S4 = some So → Rp G S4 H → va_S (gA G) s.heap H locs → Ex S S4 → Ok S4 this 4 → lv_has ls 3 [(0, .ref this), (1, .int x1)] → W p l e rX4_readClause s m args below meth c H locs 0 0 (MQ below (Qn G S none So) args s 0 0 (gA G)) (F0 m 62 ls []) := by
    intro S4 H locs ls hf hR hS hE ok_this hl
    rw [ej62_3] at hf
    refine lv_aload_n hx hb dX4_readClause_62 rfl (lv_at hl 0 rfl) ?_
    refine gf_RX4_9 hC hR ok_this dX4_readClause_63 ?_
    obtain ⟨j81_6, ej81_6, hf⟩ := jn_of2 hf
    have hj81_5 : ∀ (x7 : Int32) (S8 : MS) (H : Heap) (locs : List Loc) (ls : Array Slot), j81_6 x7 S8 = some So → Rp G S8 H → va_S (gA G) s.heap H locs → Ex S S8 → Ok S8 this 4 → lv_has ls 3 [(0, .ref this), (1, .int x1)] → W p l e rX4_readClause s m args below meth c H locs 0 0 (MQ below (Qn G S none So) args s 0 0 (gA G)) (F0 m 81 ls [.int x7]) := by
      intro x7 S8 H locs ls hf hR hS hE ok_this hl
      rw [ej81_6] at hf
      refine lv_istore_n (lv' := [(2, .int x7), (0, .ref this), (1, .int x1)]) hx hb dX4_readClause_81 rfl hl (by decide) rfl (fun ls hl => ?_)
      refine lv_iload_n hx hb dX4_readClause_82 rfl (lv_at hl 0 rfl) ?_
      refine lv_iconst (v := -1) hx hb dX4_readClause_83 (by decide) ?_
      refine lv_icmp_ne (tgt := 88) hx hb dX4_readClause_84 (by decide) (fun hc => ?_) (fun hc => ?_)
      · replace hf := if_f hf hc
        refine lv_aload_n hx hb dX4_readClause_88 rfl (lv_at hl 1 rfl) ?_
        obtain ⟨S9, hc10, hf⟩ := cv_of hf
        refine cl_RX4_51 (As := []) (rest := []) hC hR hS (c_X4_advance l G n this S8 S9 hc10 ok_this) ok_this rfl ⟨Nat.le_of_ble_eq_true rfl, Nat.le_of_ble_eq_true rfl⟩ hl.1 rfl (Nat.le_of_ble_eq_true rfl) dX4_readClause_89 (Nat.zero_le _) (Nat.zero_le _) (fun H locs hR hS hE11 => ?_)
        have ok_this := hE11 _ _ ok_this
        have hE := hE.tr hE11
        refine lv_aload_n hx hb dX4_readClause_92 rfl (lv_at hl 1 rfl) ?_
        refine lv_iload_n hx hb dX4_readClause_93 rfl (lv_at hl 2 rfl) ?_
        obtain ⟨x15, S12, hc13, hf⟩ := cl_of hf
        refine cl_RX4_69 (As := [.int x1]) (rest := [.ref this]) hC hR hS (c_X4_namesOf l G n x1 S9 x15 S12 hc13 ) rfl ⟨Nat.le_of_ble_eq_true rfl, Nat.le_of_ble_eq_true rfl⟩ hl.1 rfl (Nat.le_of_ble_eq_true rfl) dX4_readClause_94 (Nat.zero_le _) (Nat.zero_le _) (fun H locs hR hS hE14 => ?_)
        have ok_this := hE14 _ _ ok_this
        have hE := hE.tr hE14
        refine pf_RX4_72 hC hR hS ok_this dX4_readClause_97 hf (fun S16 H locs hf hR hS hE17 => ?_)
        have ok_this := hE17 _ _ ok_this
        have hE := hE.tr hE17
        refine lv_aload_n hx hb dX4_readClause_100 rfl (lv_at hl 1 rfl) ?_
        obtain ⟨q18, hq19, ok_q18, hf⟩ := gR_of hf
        refine gf_RX4_25 hC hR ok_this hq19 dX4_readClause_101 ?_
        obtain ⟨q20, hq21, ok_q20, hf⟩ := gR_of hf
        refine gf_RX4_75 hC hR ok_q18 hq21 dX4_readClause_104 ?_
        refine lv_iload_n hx hb dX4_readClause_107 rfl (lv_at hl 0 rfl) ?_
        refine lv_aload_n hx hb dX4_readClause_108 rfl (lv_at hl 1 rfl) ?_
        obtain ⟨q22, hq23, ok_q22, hf⟩ := gR_of hf
        refine gf_RX4_25 hC hR ok_this hq23 dX4_readClause_109 ?_
        refine gf_RX4_78 hC hR ok_q22 dX4_readClause_112 ?_
        obtain ⟨hi24, hf⟩ := ck_of hf
        refine rB_iast hC hR hS ok_q20 hi24 dX4_readClause_115 hf (fun S25 H locs hf hR hS hE26 => ?_)
        have ok_this := hE26 _ _ ok_this
        have ok_q18 := hE26 _ _ ok_q18
        have ok_q20 := hE26 _ _ ok_q20
        have ok_q22 := hE26 _ _ ok_q22
        have hE := hE.tr hE26
        refine lv_iload_n hx hb dX4_readClause_116 rfl (lv_at hl 2 rfl) ?_
        refine lv_bipush (v := 22) hx hb dX4_readClause_117 (by decide) ?_
        obtain ⟨j155_28, ej155_28, hf⟩ := jn_of1 hf
        have hj155_27 : ∀ (S29 : MS) (H : Heap) (locs : List Loc) (ls : Array Slot), j155_28 S29 = some So → Rp G S29 H → va_S (gA G) s.heap H locs → Ex S S29 → Ok S29 this 4 → lv_has ls 3 [(0, .ref this), (1, .int x1), (2, .int x7)] → W p l e rX4_readClause s m args below meth c H locs 0 0 (MQ below (Qn G S none So) args s 0 0 (gA G)) (F0 m 155 ls []) := by
          intro S29 H locs ls hf hR hS hE ok_this hl
          rw [ej155_28] at hf
          refine lv_iload_n hx hb dX4_readClause_155 rfl (lv_at hl 1 rfl) ?_
          refine lv_bipush (v := 22) hx hb dX4_readClause_156 (by decide) ?_
          refine lv_icmp_eq (tgt := 183) hx hb dX4_readClause_158 (by decide) (fun hc => ?_) (fun hc => ?_)
          · replace hf := if_t hf hc
            refine lv_aload_n hx hb dX4_readClause_183 rfl (lv_at hl 0 rfl) ?_
            refine lv_bipush (v := 35) hx hb dX4_readClause_184 (by decide) ?_
            obtain ⟨S30, hc31, hf⟩ := cv_of hf
            refine cl_RX4_94 (As := [.int (35 : Int32)]) (rest := []) hC hR hS (c_X4_expect l G n this (35 : Int32) S29 S30 hc31 ok_this) ok_this rfl ⟨Nat.le_of_ble_eq_true rfl, Nat.le_of_ble_eq_true rfl⟩ hl.1 rfl (Nat.le_of_ble_eq_true rfl) dX4_readClause_186 (Nat.zero_le _) (Nat.zero_le _) (fun H locs hR hS hE32 => ?_)
            have ok_this := hE32 _ _ ok_this
            have hE := hE.tr hE32
            exact r_vret hC hR hS hE hf dX4_readClause_189
          · replace hf := if_f hf hc
            refine lv_iload_n hx hb dX4_readClause_161 rfl (lv_at hl 1 rfl) ?_
            refine lv_bipush (v := 23) hx hb dX4_readClause_162 (by decide) ?_
            refine lv_icmp_eq (tgt := 183) hx hb dX4_readClause_164 (by decide) (fun hc => ?_) (fun hc => ?_)
            · replace hf := if_t hf hc
              refine lv_aload_n hx hb dX4_readClause_183 rfl (lv_at hl 0 rfl) ?_
              refine lv_bipush (v := 35) hx hb dX4_readClause_184 (by decide) ?_
              obtain ⟨S33, hc34, hf⟩ := cv_of hf
              refine cl_RX4_94 (As := [.int (35 : Int32)]) (rest := []) hC hR hS (c_X4_expect l G n this (35 : Int32) S29 S33 hc34 ok_this) ok_this rfl ⟨Nat.le_of_ble_eq_true rfl, Nat.le_of_ble_eq_true rfl⟩ hl.1 rfl (Nat.le_of_ble_eq_true rfl) dX4_readClause_186 (Nat.zero_le _) (Nat.zero_le _) (fun H locs hR hS hE35 => ?_)
              have ok_this := hE35 _ _ ok_this
              have hE := hE.tr hE35
              exact r_vret hC hR hS hE hf dX4_readClause_189
            · replace hf := if_f hf hc
              refine lv_aload_n hx hb dX4_readClause_167 rfl (lv_at hl 0 rfl) ?_
              obtain ⟨q36, hq37, ok_q36, hf⟩ := gR_of hf
              refine gf_RX4_25 hC hR ok_this hq37 dX4_readClause_168 ?_
              obtain ⟨q38, hq39, ok_q38, hf⟩ := gR_of hf
              refine gf_RX4_91 hC hR ok_q36 hq39 dX4_readClause_171 ?_
              refine lv_iload_n hx hb dX4_readClause_174 rfl (lv_at hl 2 rfl) ?_
              refine lv_aload_n hx hb dX4_readClause_175 rfl (lv_at hl 0 rfl) ?_
              obtain ⟨q40, hq41, ok_q40, hf⟩ := gR_of hf
              refine gf_RX4_25 hC hR ok_this hq41 dX4_readClause_176 ?_
              refine gf_RX4_78 hC hR ok_q40 dX4_readClause_179 ?_
              obtain ⟨hi42, hf⟩ := ck_of hf
              refine rB_iast hC hR hS ok_q38 hi42 dX4_readClause_182 hf (fun S43 H locs hf hR hS hE44 => ?_)
              have ok_this := hE44 _ _ ok_this
              have ok_q36 := hE44 _ _ ok_q36
              have ok_q38 := hE44 _ _ ok_q38
              have ok_q40 := hE44 _ _ ok_q40
              have hE := hE.tr hE44
              refine lv_aload_n hx hb dX4_readClause_183 rfl (lv_at hl 0 rfl) ?_
              refine lv_bipush (v := 35) hx hb dX4_readClause_184 (by decide) ?_
              obtain ⟨S45, hc46, hf⟩ := cv_of hf
              refine cl_RX4_94 (As := [.int (35 : Int32)]) (rest := []) hC hR hS (c_X4_expect l G n this (35 : Int32) S43 S45 hc46 ok_this) ok_this rfl ⟨Nat.le_of_ble_eq_true rfl, Nat.le_of_ble_eq_true rfl⟩ hl.1 rfl (Nat.le_of_ble_eq_true rfl) dX4_readClause_186 (Nat.zero_le _) (Nat.zero_le _) (fun H locs hR hS hE47 => ?_)
              have ok_this := hE47 _ _ ok_this
              have ok_q36 := hE47 _ _ ok_q36
              have ok_q38 := hE47 _ _ ok_q38
              have ok_q40 := hE47 _ _ ok_q40
              have hE := hE.tr hE47
              exact r_vret hC hR hS hE hf dX4_readClause_189
        obtain ⟨j128_49, ej128_49, hf⟩ := jn_of1 hf
        have hj128_48 : ∀ (S50 : MS) (H : Heap) (locs : List Loc) (ls : Array Slot), j128_49 S50 = some So → Rp G S50 H → va_S (gA G) s.heap H locs → Ex S S50 → Ok S50 this 4 → lv_has ls 3 [(0, .ref this), (1, .int x1), (2, .int x7)] → W p l e rX4_readClause s m args below meth c H locs 0 0 (MQ below (Qn G S none So) args s 0 0 (gA G)) (F0 m 128 ls []) := by
          intro S50 H locs ls hf hR hS hE ok_this hl
          rw [ej128_49] at hf
          refine lv_aload_n hx hb dX4_readClause_128 rfl (lv_at hl 0 rfl) ?_
          refine lv_iload_n hx hb dX4_readClause_129 rfl (lv_at hl 2 rfl) ?_
          refine lv_iload_n hx hb dX4_readClause_130 rfl (lv_at hl 1 rfl) ?_
          obtain ⟨S51, hc52, hf⟩ := cv_of hf
          refine cl_RX4_81 (As := [.int x7, .int x1]) (rest := []) hC hR hS (c_X4_readPlace l G n this x7 x1 S50 S51 hc52 ok_this) ok_this rfl ⟨Nat.le_of_ble_eq_true rfl, Nat.le_of_ble_eq_true rfl⟩ hl.1 rfl (Nat.le_of_ble_eq_true rfl) dX4_readClause_131 (Nat.zero_le _) (Nat.zero_le _) (fun H locs hR hS hE53 => ?_)
          have ok_this := hE53 _ _ ok_this
          have hE := hE.tr hE53
          refine lv_goto (tgt := 155) hx hb dX4_readClause_134 (by decide) ?_
          exact hj155_27 S51 _ _ _ hf hR hS hE ok_this (lv_sub hl [0, 1, 2] rfl)
        refine lv_icmp_eq (tgt := 128) hx hb dX4_readClause_119 (by decide) (fun hc => ?_) (fun hc => ?_)
        · replace hf := if_t hf hc
          exact hj128_48 S25 _ _ _ hf hR hS hE ok_this (lv_sub hl [1, 2, 0] rfl)
        · replace hf := if_f hf hc
          refine lv_iload_n hx hb dX4_readClause_122 rfl (lv_at hl 2 rfl) ?_
          refine lv_bipush (v := 23) hx hb dX4_readClause_123 (by decide) ?_
          refine lv_icmp_ne (tgt := 137) hx hb dX4_readClause_125 (by decide) (fun hc => ?_) (fun hc => ?_)
          · replace hf := if_f hf hc
            refine lv_iload_n hx hb dX4_readClause_137 rfl (lv_at hl 2 rfl) ?_
            refine lv_bipush (v := 21) hx hb dX4_readClause_138 (by decide) ?_
            refine lv_icmp_ne (tgt := 150) hx hb dX4_readClause_140 (by decide) (fun hc => ?_) (fun hc => ?_)
            · replace hf := if_f hf hc
              refine lv_aload_n hx hb dX4_readClause_150 rfl (lv_at hl 1 rfl) ?_
              refine lv_iconst (v := 0) hx hb dX4_readClause_151 (by decide) ?_
              obtain ⟨S54, hc55, hf⟩ := cv_of hf
              refine cl_RX4_88 (As := [.int (0 : Int32)]) (rest := []) hC hR hS (c_X4_readSum l G n this (0 : Int32) S25 S54 hc55 ok_this) ok_this rfl ⟨Nat.le_of_ble_eq_true rfl, Nat.le_of_ble_eq_true rfl⟩ hl.1 rfl (Nat.le_of_ble_eq_true rfl) dX4_readClause_152 (Nat.zero_le _) (Nat.zero_le _) (fun H locs hR hS hE56 => ?_)
              have ok_this := hE56 _ _ ok_this
              have ok_q18 := hE56 _ _ ok_q18
              have ok_q20 := hE56 _ _ ok_q20
              have ok_q22 := hE56 _ _ ok_q22
              have hE := hE.tr hE56
              exact hj155_27 S54 _ _ _ hf hR hS hE ok_this (lv_sub hl [1, 2, 0] rfl)
            · replace hf := if_t hf hc
              refine lv_aload_n hx hb dX4_readClause_143 rfl (lv_at hl 1 rfl) ?_
              obtain ⟨S57, hc58, hf⟩ := cv_of hf
              refine cl_RX4_85 (As := []) (rest := []) hC hR hS (c_X4_readEither l G n this S25 S57 hc58 ok_this) ok_this rfl ⟨Nat.le_of_ble_eq_true rfl, Nat.le_of_ble_eq_true rfl⟩ hl.1 rfl (Nat.le_of_ble_eq_true rfl) dX4_readClause_144 (Nat.zero_le _) (Nat.zero_le _) (fun H locs hR hS hE59 => ?_)
              have ok_this := hE59 _ _ ok_this
              have ok_q18 := hE59 _ _ ok_q18
              have ok_q20 := hE59 _ _ ok_q20
              have ok_q22 := hE59 _ _ ok_q22
              have hE := hE.tr hE59
              refine lv_goto (tgt := 155) hx hb dX4_readClause_147 (by decide) ?_
              exact hj155_27 S57 _ _ _ hf hR hS hE ok_this (lv_sub hl [1, 2, 0] rfl)
          · replace hf := if_t hf hc
            exact hj128_48 S25 _ _ _ hf hR hS hE ok_this (lv_sub hl [1, 2, 0] rfl)
      · replace hf := if_t hf hc
        exact r_vret hC hR hS hE hf dX4_readClause_87
    refine lv_if_ne (tgt := 80) hx hb dX4_readClause_66 (by decide) (fun hc => ?_) (fun hc => ?_)
    · replace hf := if_f hf hc
      refine lv_iconst (v := -1) hx hb dX4_readClause_80 (by decide) ?_
      exact hj81_5 (-1 : Int32) S4 _ _ _ hf hR hS hE ok_this (lv_sub hl [0, 1] rfl)
    · replace hf := if_t hf hc
      refine lv_aload_n hx hb dX4_readClause_69 rfl (lv_at hl 0 rfl) ?_
      obtain ⟨q62, hq63, ok_q62, hf⟩ := gR_of hf
      refine gf_RX4_25 hC hR ok_this hq63 dX4_readClause_70 ?_
      refine lv_iload_n hx hb dX4_readClause_73 rfl (lv_at hl 1 rfl) ?_
      obtain ⟨x67, S64, hc65, hf⟩ := cl_of hf
      refine cl_RX4_65 (As := [.int x1]) (rest := []) hC hR hS (c_X7_addClause l G n q62 x1 S4 x67 S64 hc65 ok_q62) ok_q62 rfl ⟨Nat.le_of_ble_eq_true rfl, Nat.le_of_ble_eq_true rfl⟩ hl.1 rfl (Nat.le_of_ble_eq_true rfl) dX4_readClause_74 (Nat.zero_le _) (Nat.zero_le _) (fun H locs hR hS hE66 => ?_)
      have ok_this := hE66 _ _ ok_this
      have ok_q62 := hE66 _ _ ok_q62
      have hE := hE.tr hE66
      refine lv_goto (tgt := 81) hx hb dX4_readClause_77 (by decide) ?_
      exact hj81_5 x67 S64 _ _ _ hf hR hS hE ok_this (lv_sub hl [0, 1] rfl)
  obtain ⟨j17_71, ej17_71, hf⟩ := jn_of1 hf
  have hj17_70 : ∀ (S72 : MS) (H : Heap) (locs : List Loc) (ls : Array Slot), j17_71 S72 = some So → Rp G S72 H → va_S (gA G) s.heap H locs → Ex S S72 → Ok S72 this 4 → lv_has ls 3 [(0, .ref this), (1, .int x1)] → W p l e rX4_readClause s m args below meth c H locs 0 0 (MQ below (Qn G S none So) args s 0 0 (gA G)) (F0 m 17 ls []) := by
    intro S72 H locs ls hf hR hS hE ok_this hl
    rw [ej17_71] at hf
    refine lv_aload_n hx hb dX4_readClause_17 rfl (lv_at hl 0 rfl) ?_
    refine lv_iconst (v := 1) hx hb dX4_readClause_18 (by decide) ?_
    obtain ⟨S73, hc74, hf⟩ := cv_of hf
    refine cl_RX4_54 (As := [.int (1 : Int32)]) (rest := []) hC hR hS (c_X4_complain l G n this (1 : Int32) S72 S73 hc74 ok_this) ok_this rfl ⟨Nat.le_of_ble_eq_true rfl, Nat.le_of_ble_eq_true rfl⟩ hl.1 rfl (Nat.le_of_ble_eq_true rfl) dX4_readClause_19 (Nat.zero_le _) (Nat.zero_le _) (fun H locs hR hS hE75 => ?_)
    have ok_this := hE75 _ _ ok_this
    have hE := hE.tr hE75
    refine lv_goto (tgt := 62) hx hb dX4_readClause_22 (by decide) ?_
    exact hj62_2 S73 _ _ _ hf hR hS hE ok_this (lv_sub hl [0, 1] rfl)
  refine lv_icmp_lt (tgt := 17) hx hb dX4_readClause_8 (by decide) (fun hc => ?_) (fun hc => ?_)
  · replace hf := if_t hf hc
    exact hj17_70 S _ _ _ hf hR hS hE ok_this (lv_sub hl [1, 0] rfl)
  · replace hf := if_f hf hc
    refine lv_iload_n hx hb dX4_readClause_11 rfl (lv_at hl 0 rfl) ?_
    refine lv_bipush (v := 23) hx hb dX4_readClause_12 (by decide) ?_
    refine lv_icmp_le (tgt := 25) hx hb dX4_readClause_14 (by decide) (fun hc => ?_) (fun hc => ?_)
    · replace hf := if_t hf hc
      refine lv_aload_n hx hb dX4_readClause_25 rfl (lv_at hl 1 rfl) ?_
      obtain ⟨q76, hq77, ok_q76, hf⟩ := gR_of hf
      refine gf_RX4_25 hC hR ok_this hq77 dX4_readClause_26 ?_
      refine lv_iload_n hx hb dX4_readClause_29 rfl (lv_at hl 0 rfl) ?_
      obtain ⟨x81, S78, hc79, hf⟩ := cl_of hf
      refine cl_RX4_58 (As := [.int x1]) (rest := []) hC hR hS (c_X7_has l G n q76 x1 S x81 S78 hc79 ok_q76) ok_q76 rfl ⟨Nat.le_of_ble_eq_true rfl, Nat.le_of_ble_eq_true rfl⟩ hl.1 rfl (Nat.le_of_ble_eq_true rfl) dX4_readClause_30 (Nat.zero_le _) (Nat.zero_le _) (fun H locs hR hS hE80 => ?_)
      have ok_this := hE80 _ _ ok_this
      have ok_q76 := hE80 _ _ ok_q76
      have hE := hE.tr hE80
      refine lv_if_eq (tgt := 44) hx hb dX4_readClause_33 (by decide) (fun hc => ?_) (fun hc => ?_)
      · replace hf := if_t hf hc
        refine lv_aload_n hx hb dX4_readClause_44 rfl (lv_at hl 1 rfl) ?_
        obtain ⟨q82, hq83, ok_q82, hf⟩ := gR_of hf
        refine gf_RX4_25 hC hR ok_this hq83 dX4_readClause_45 ?_
        refine gf_RX4_62 hC hR ok_q82 dX4_readClause_48 ?_
        refine lv_bipush (v := 20) hx hb dX4_readClause_51 (by decide) ?_
        refine lv_icmp_lt (tgt := 62) hx hb dX4_readClause_53 (by decide) (fun hc => ?_) (fun hc => ?_)
        · replace hf := if_t hf hc
          exact hj62_2 S78 _ _ _ hf hR hS hE ok_this (lv_sub hl [1, 0] rfl)
        · replace hf := if_f hf hc
          refine lv_aload_n hx hb dX4_readClause_56 rfl (lv_at hl 1 rfl) ?_
          refine lv_bipush (v := 6) hx hb dX4_readClause_57 (by decide) ?_
          obtain ⟨S84, hc85, hf⟩ := cv_of hf
          refine cl_RX4_54 (As := [.int (6 : Int32)]) (rest := []) hC hR hS (c_X4_complain l G n this (6 : Int32) S78 S84 hc85 ok_this) ok_this rfl ⟨Nat.le_of_ble_eq_true rfl, Nat.le_of_ble_eq_true rfl⟩ hl.1 rfl (Nat.le_of_ble_eq_true rfl) dX4_readClause_59 (Nat.zero_le _) (Nat.zero_le _) (fun H locs hR hS hE86 => ?_)
          have ok_this := hE86 _ _ ok_this
          have ok_q76 := hE86 _ _ ok_q76
          have ok_q82 := hE86 _ _ ok_q82
          have hE := hE.tr hE86
          exact hj62_2 S84 _ _ _ hf hR hS hE ok_this (lv_sub hl [1, 0] rfl)
      · replace hf := if_f hf hc
        refine lv_aload_n hx hb dX4_readClause_36 rfl (lv_at hl 1 rfl) ?_
        refine lv_iconst (v := 4) hx hb dX4_readClause_37 (by decide) ?_
        obtain ⟨S87, hc88, hf⟩ := cv_of hf
        refine cl_RX4_54 (As := [.int (4 : Int32)]) (rest := []) hC hR hS (c_X4_complain l G n this (4 : Int32) S78 S87 hc88 ok_this) ok_this rfl ⟨Nat.le_of_ble_eq_true rfl, Nat.le_of_ble_eq_true rfl⟩ hl.1 rfl (Nat.le_of_ble_eq_true rfl) dX4_readClause_38 (Nat.zero_le _) (Nat.zero_le _) (fun H locs hR hS hE89 => ?_)
        have ok_this := hE89 _ _ ok_this
        have ok_q76 := hE89 _ _ ok_q76
        have hE := hE.tr hE89
        refine lv_goto (tgt := 62) hx hb dX4_readClause_41 (by decide) ?_
        exact hj62_2 S87 _ _ _ hf hR hS hE ok_this (lv_sub hl [1, 0] rfl)
    · replace hf := if_f hf hc
      exact hj17_70 S _ _ _ hf hR hS hE ok_this (lv_sub hl [1, 0] rfl)
abbrev rX5_holdNow : Room := { frames := 3, cells := 0, slots := 0, locals := 79 }
def f_X5_holdNow (n : Nat) (this : Nat) (a1 : Nat) (a2 : Int32) (a3 : Option Nat) (S : MS) : Option (Int32 × MS) :=
  (if a3 = none then gR S (mR S a1 2) 12 fun q1 => ck (inb a2 (mN S q1)) (some ((mI S q1 a2.toNatClampNeg), S)) else nn a3 fun q4 => (if (mI S q4 7) = (-1 : Int32) then gR S (mR S a1 2) 12 fun q15 => ck (inb a2 (mN S q15)) (some ((mI S q15 a2.toNatClampNeg), S)) else cv (f_X5_nameBone n this a1 a2 S) fun S6 => nn a3 fun q9 => cl (f_X5_value n this a3 (mI S6 q9 7) S6) fun x14 S11 => some (x14, S11)))
set_option maxRecDepth 100000 in
set_option maxHeartbeats 4000000 in
theorem c_X5_holdNow (l : Launch) (G : Gx) (n : Nat) (this : Nat) (a1 : Nat) (a2 : Int32) (a3 : Option Nat) (S : MS) (ro : Int32) (So : MS) (hf : f_X5_holdNow n this a1 a2 a3 S = some (ro, So)) (ok_this : Ok S this 5) (ok_a1 : Ok S a1 3) (ok_a3 : ∀ q, a3 = some q → Ok S q 7) : Cn G l yX5_holdNow cX5_holdNow 4 (some .int) rX5_holdNow [.ref this, .ref a1, .int a2, va_rf a3] S (some (.int ro)) So := by
  refine Cn.of (by decide) (by cases a3 <;> exact Nat.le_of_ble_eq_true rfl) ?_
  intro p e s m args below meth c hC hname hR ls hl
  have hC : Cx G RX5 cX5_holdNow 4 (some .int) p s m args meth c := hC
  have hl : lv_has ls 4 [(0, .ref this), (1, .ref a1), (2, .int a2), (3, va_rf a3)] := by cases a3 <;> exact hl
  have hx := hC.x
  have hb := hC.b
  have hS : va_S (gA G) s.heap s.heap [] := va_S.rf
  have hE : Ex S S := Ex.rf S
  unfold f_X5_holdNow at hf
  refine r_aload_nO hx hb dX5_holdNow_0 rfl (lv_at hl 3 rfl) ?_
  refine r_ifnullO (tgt := 12) hx hb dX5_holdNow_1 (by decide) (fun hc => ?_) (fun hc => ?_)
  · replace hf := if_t hf hc
    refine lv_aload_n hx hb dX5_holdNow_12 rfl (lv_at hl 1 rfl) ?_
    obtain ⟨q1, hq2, ok_q1, hf⟩ := gR_of hf
    refine gf_RX5_24 hC hR ok_a1 hq2 dX5_holdNow_13 ?_
    refine lv_iload_n hx hb dX5_holdNow_16 rfl (lv_at hl 2 rfl) ?_
    obtain ⟨hi3, hf⟩ := ck_of hf
    refine r_iald hC hR ok_q1 hi3 dX5_holdNow_17 ?_
    exact r_iret hC hR hS hE hf dX5_holdNow_18
  · replace hf := if_f hf hc
    refine r_aload_nO hx hb dX5_holdNow_4 rfl (lv_at hl 3 rfl) ?_
    obtain ⟨q4, hq5, hf⟩ := nn_of hf
    have ok_q4 := ok_a3 q4 hq5
    refine W.eq (g2 := F0 m 5 ls [.ref q4]) (by rw [hq5]; rfl) ?_
    refine gf_RX5_18 hC hR ok_q4 dX5_holdNow_5 ?_
    refine lv_iconst (v := -1) hx hb dX5_holdNow_8 (by decide) ?_
    refine lv_icmp_ne (tgt := 19) hx hb dX5_holdNow_9 (by decide) (fun hc => ?_) (fun hc => ?_)
    · replace hf := if_f hf hc
      refine lv_aload_n hx hb dX5_holdNow_19 rfl (lv_at hl 0 rfl) ?_
      refine lv_aload_n hx hb dX5_holdNow_20 rfl (lv_at hl 1 rfl) ?_
      refine lv_iload_n hx hb dX5_holdNow_21 rfl (lv_at hl 2 rfl) ?_
      obtain ⟨S6, hc7, hf⟩ := cv_of hf
      refine cl_RX5_29 (As := [.ref a1, .int a2]) (rest := []) hC hR hS (c_X5_nameBone l G n this a1 a2 S S6 hc7 ok_this ok_a1) ok_this rfl ⟨Nat.le_of_ble_eq_true rfl, Nat.le_of_ble_eq_true rfl⟩ hl.1 rfl (Nat.le_of_ble_eq_true rfl) dX5_holdNow_22 (Nat.zero_le _) (Nat.zero_le _) (fun H locs hR hS hE8 => ?_)
      have ok_this := hE8 _ _ ok_this
      have ok_a1 := hE8 _ _ ok_a1
      have ok_a3 := fun q h => hE8 _ _ (ok_a3 q h)
      have ok_q4 := hE8 _ _ ok_q4
      have hE := hE.tr hE8
      refine lv_aload_n hx hb dX5_holdNow_25 rfl (lv_at hl 0 rfl) ?_
      refine r_aload_nO hx hb dX5_holdNow_26 rfl (lv_at hl 3 rfl) ?_
      refine r_aload_nO hx hb dX5_holdNow_27 rfl (lv_at hl 3 rfl) ?_
      obtain ⟨q9, hq10, hf⟩ := nn_of hf
      have ok_q9 := ok_a3 q9 hq10
      refine W.eq (g2 := F0 m 28 ls [.ref q9, va_rf a3, .ref this]) (by rw [hq10]; rfl) ?_
      refine gf_RX5_18 hC hR ok_q9 dX5_holdNow_28 ?_
      obtain ⟨x14, S11, hc12, hf⟩ := cl_of hf
      refine cl_RX5_33 (As := [va_rf a3, .int (mI S6 q9 7)]) (rest := []) hC hR hS (c_X5_value l G n this a3 (mI S6 q9 7) S6 x14 S11 hc12 ok_this ok_a3) ok_this rfl ⟨Nat.le_of_ble_eq_true rfl, Nat.le_of_ble_eq_true rfl⟩ hl.1 rfl (Nat.le_of_ble_eq_true rfl) dX5_holdNow_31 (Nat.zero_le _) (Nat.zero_le _) (fun H locs hR hS hE13 => ?_)
      have ok_this := hE13 _ _ ok_this
      have ok_a1 := hE13 _ _ ok_a1
      have ok_a3 := fun q h => hE13 _ _ (ok_a3 q h)
      have ok_q4 := hE13 _ _ ok_q4
      have ok_q9 := hE13 _ _ ok_q9
      have hE := hE.tr hE13
      exact r_iret hC hR hS hE hf dX5_holdNow_34
    · replace hf := if_t hf hc
      refine lv_aload_n hx hb dX5_holdNow_12 rfl (lv_at hl 1 rfl) ?_
      obtain ⟨q15, hq16, ok_q15, hf⟩ := gR_of hf
      refine gf_RX5_24 hC hR ok_a1 hq16 dX5_holdNow_13 ?_
      refine lv_iload_n hx hb dX5_holdNow_16 rfl (lv_at hl 2 rfl) ?_
      obtain ⟨hi17, hf⟩ := ck_of hf
      refine r_iald hC hR ok_q15 hi17 dX5_holdNow_17 ?_
      exact r_iret hC hR hS hE hf dX5_holdNow_18
abbrev rX5_isFound : Room := { frames := 3, cells := 0, slots := 0, locals := 79 }
def f_X5_isFound_L24 (n : Nat) (this : Nat) (a4 : Option Nat) : Nat → Int32 → MS → Option (Int32 × MS)
  | 0, _, _ => none
  | k + 1, x11, S12 => jn (f_X5_isFound_L24 n this a4 k) fun rec24_10 => nn a4 fun q13 => (if (mI S12 q13 5) ≤ x11 then zb (0 : Int32) (some ((0 : Int32), S12)) else (if (20 : Int32) ≤ x11 then zb (0 : Int32) (some ((0 : Int32), S12)) else nn a4 fun q15 => gR S12 (mR S12 q15 0) 12 fun q17 => ck (inb x11 (mN S12 q17)) (jn (fun (S22 : MS) => bd (x11 + (1 : Int32)) fun x23 => rec24_10 x23 S22) fun j67_21 => (if (mI S12 q17 x11.toNatClampNeg) = (21 : Int32) then cl (f_X5_value n this a4 x11 S12) fun x27 S24 => (if x27 = 0 then j67_21 S24 else zb (1 : Int32) (some ((1 : Int32), S24))) else j67_21 S12))))
def f_X5_isFound (n : Nat) (this : Nat) (a1 : Nat) (a2 : Int32) (a3 : Int32) (a4 : Option Nat) (S : MS) : Option (Int32 × MS) :=
  (if a4 = none then zb (0 : Int32) (some ((0 : Int32), S)) else cv (f_X5_nameBone n this a1 a2 S) fun S1 => gR S1 (mR S1 this 0) 12 fun q4 => ck (inb (8 : Int32) (mN S1 q4)) (bd (sI S1 q4 (8 : Int32).toNatClampNeg a3) fun S7 => f_X5_isFound_L24 n this a4 n (0 : Int32) S7))
set_option maxRecDepth 100000 in
set_option maxHeartbeats 4000000 in
theorem c_X5_isFound (l : Launch) (G : Gx) (n : Nat) (this : Nat) (a1 : Nat) (a2 : Int32) (a3 : Int32) (a4 : Option Nat) (S : MS) (ro : Int32) (So : MS) (hf : f_X5_isFound n this a1 a2 a3 a4 S = some (ro, So)) (ok_this : Ok S this 5) (ok_a1 : Ok S a1 3) (ok_a4 : ∀ q, a4 = some q → Ok S q 7) : Cn G l yX5_isFound cX5_isFound 6 (some .boolean) rX5_isFound [.ref this, .ref a1, .int a2, .int a3, va_rf a4] S (some (.int ro)) So := by
  refine Cn.of (by decide) (by cases a4 <;> exact Nat.le_of_ble_eq_true rfl) ?_
  intro p e s m args below meth c hC hname hR ls hl
  have hC : Cx G RX5 cX5_isFound 6 (some .boolean) p s m args meth c := hC
  have hl : lv_has ls 6 [(0, .ref this), (1, .ref a1), (2, .int a2), (3, .int a3), (4, va_rf a4)] := by cases a4 <;> exact hl
  have hx := hC.x
  have hb := hC.b
  have hS : va_S (gA G) s.heap s.heap [] := va_S.rf
  have hE : Ex S S := Ex.rf S
  unfold f_X5_isFound at hf
  refine r_aloadO hx hb dX5_isFound_0 (lv_at hl 4 rfl) ?_
  refine r_ifnonnullO (tgt := 7) hx hb dX5_isFound_2 (by decide) (fun hc => ?_) (fun hc => ?_)
  · replace hf := if_f hf hc
    refine lv_aload_n hx hb dX5_isFound_7 rfl (lv_at hl 0 rfl) ?_
    refine lv_aload_n hx hb dX5_isFound_8 rfl (lv_at hl 1 rfl) ?_
    refine lv_iload_n hx hb dX5_isFound_9 rfl (lv_at hl 2 rfl) ?_
    obtain ⟨S1, hc2, hf⟩ := cv_of hf
    refine cl_RX5_29 (As := [.ref a1, .int a2]) (rest := []) hC hR hS (c_X5_nameBone l G n this a1 a2 S S1 hc2 ok_this ok_a1) ok_this rfl ⟨Nat.le_of_ble_eq_true rfl, Nat.le_of_ble_eq_true rfl⟩ hl.1 rfl (Nat.le_of_ble_eq_true rfl) dX5_isFound_10 (Nat.zero_le _) (Nat.zero_le _) (fun H locs hR hS hE3 => ?_)
    have ok_this := hE3 _ _ ok_this
    have ok_a1 := hE3 _ _ ok_a1
    have ok_a4 := fun q h => hE3 _ _ (ok_a4 q h)
    have hE := hE.tr hE3
    refine lv_aload_n hx hb dX5_isFound_13 rfl (lv_at hl 0 rfl) ?_
    obtain ⟨q4, hq5, ok_q4, hf⟩ := gR_of hf
    refine gf_RX5_9 hC hR ok_this hq5 dX5_isFound_14 ?_
    refine lv_bipush (v := 8) hx hb dX5_isFound_17 (by decide) ?_
    refine lv_iload_n hx hb dX5_isFound_19 rfl (lv_at hl 3 rfl) ?_
    obtain ⟨hi6, hf⟩ := ck_of hf
    refine rB_iast hC hR hS ok_q4 hi6 dX5_isFound_20 hf (fun S7 H locs hf hR hS hE8 => ?_)
    have ok_this := hE8 _ _ ok_this
    have ok_a1 := hE8 _ _ ok_a1
    have ok_a4 := fun q h => hE8 _ _ (ok_a4 q h)
    have ok_q4 := hE8 _ _ ok_q4
    have hE := hE.tr hE8
    refine lv_iconst (v := 0) hx hb dX5_isFound_21 (by decide) ?_
    refine lv_istore (lv' := [(5, .int (0 : Int32)), (0, .ref this), (1, .ref a1), (2, .int a2), (3, .int a3), (4, va_rf a4)]) hx hb dX5_isFound_22 hl (by decide) (by cases a4 <;> rfl) (fun ls hl => ?_)
    have hh29 : ∀ k : Nat, ∀ (x11 : Int32) (S12 : MS) (H : Heap) (locs : List Loc) (ls : Array Slot), f_X5_isFound_L24 n this a4 k x11 S12 = some (ro, So) → Rp G S12 H → va_S (gA G) s.heap H locs → Ex S S12 → Ok S12 this 5 → (∀ q, a4 = some q → Ok S12 q 7) → lv_has ls 6 [(0, .ref this), (4, va_rf a4), (5, .int x11)] → W p l e rX5_isFound s m args below meth c H locs 0 0 (MQ below (Qn G S (some (.int ro)) So) args s 0 0 (gA G)) (F0 m 24 ls []) := by
      intro k
      induction k with
      | zero =>
        intro x11 S12 H locs ls hf hR hS hE ok_this ok_a4 hl
        exact absurd hf (by rw [f_X5_isFound_L24]; exact fun h => by cases h)
      | succ k ih =>
        intro x11 S12 H locs ls hf hR hS hE ok_this ok_a4 hl
        rw [f_X5_isFound_L24] at hf
        obtain ⟨rec24_10, erec24_10, hf⟩ := jn_of2 hf
        have hL24_9 : ∀ (x11 : Int32) (S12 : MS) (H : Heap) (locs : List Loc) (ls : Array Slot), rec24_10 x11 S12 = some (ro, So) → Rp G S12 H → va_S (gA G) s.heap H locs → Ex S S12 → Ok S12 this 5 → (∀ q, a4 = some q → Ok S12 q 7) → lv_has ls 6 [(0, .ref this), (4, va_rf a4), (5, .int x11)] → W p l e rX5_isFound s m args below meth c H locs 0 0 (MQ below (Qn G S (some (.int ro)) So) args s 0 0 (gA G)) (F0 m 24 ls []) := by
          intro x11 S12 H locs ls hf hR hS hE ok_this ok_a4 hl
          rw [erec24_10] at hf
          exact ih x11 S12 _ _ _ hf hR hS hE ok_this ok_a4 hl
        refine lv_iload hx hb dX5_isFound_24 (lv_at hl 2 rfl) ?_
        refine r_aloadO hx hb dX5_isFound_26 (lv_at hl 1 rfl) ?_
        obtain ⟨q13, hq14, hf⟩ := nn_of hf
        have ok_q13 := ok_a4 q13 hq14
        refine W.eq (g2 := F0 m 28 ls [.ref q13, .int x11]) (by rw [hq14]; rfl) ?_
        refine gf_RX5_49 hC hR ok_q13 dX5_isFound_28 ?_
        refine lv_icmp_ge (tgt := 73) hx hb dX5_isFound_31 (by decide) (fun hc => ?_) (fun hc => ?_)
        · replace hf := if_t hf hc
          refine lv_iconst (v := 0) hx hb dX5_isFound_73 (by decide) ?_
          exact r_zret hC hR hS hE hf dX5_isFound_74
        · replace hf := if_f hf hc
          refine lv_iload hx hb dX5_isFound_34 (lv_at hl 2 rfl) ?_
          refine lv_bipush (v := 20) hx hb dX5_isFound_36 (by decide) ?_
          refine lv_icmp_ge (tgt := 73) hx hb dX5_isFound_38 (by decide) (fun hc => ?_) (fun hc => ?_)
          · replace hf := if_t hf hc
            refine lv_iconst (v := 0) hx hb dX5_isFound_73 (by decide) ?_
            exact r_zret hC hR hS hE hf dX5_isFound_74
          · replace hf := if_f hf hc
            refine r_aloadO hx hb dX5_isFound_41 (lv_at hl 1 rfl) ?_
            obtain ⟨q15, hq16, hf⟩ := nn_of hf
            have ok_q15 := ok_a4 q15 hq16
            refine W.eq (g2 := F0 m 43 ls [.ref q15]) (by rw [hq16]; rfl) ?_
            obtain ⟨q17, hq18, ok_q17, hf⟩ := gR_of hf
            refine gf_RX5_52 hC hR ok_q15 hq18 dX5_isFound_43 ?_
            refine lv_iload hx hb dX5_isFound_46 (lv_at hl 2 rfl) ?_
            obtain ⟨hi19, hf⟩ := ck_of hf
            refine r_iald hC hR ok_q17 hi19 dX5_isFound_48 ?_
            refine lv_bipush (v := 21) hx hb dX5_isFound_49 (by decide) ?_
            obtain ⟨j67_21, ej67_21, hf⟩ := jn_of1 hf
            have hj67_20 : ∀ (S22 : MS) (H : Heap) (locs : List Loc) (ls : Array Slot), j67_21 S22 = some (ro, So) → Rp G S22 H → va_S (gA G) s.heap H locs → Ex S S22 → Ok S22 this 5 → (∀ q, a4 = some q → Ok S22 q 7) → lv_has ls 6 [(0, .ref this), (4, va_rf a4), (5, .int x11)] → W p l e rX5_isFound s m args below meth c H locs 0 0 (MQ below (Qn G S (some (.int ro)) So) args s 0 0 (gA G)) (F0 m 67 ls []) := by
              intro S22 H locs ls hf hR hS hE ok_this ok_a4 hl
              rw [ej67_21] at hf
              refine r_iinc (n := 1) (z := 1) (lv' := fun x23 => [(5, .int x23), (0, .ref this), (4, va_rf a4)]) hx hb dX5_isFound_67 hl (k := 2) rfl (by decide) (by decide) (fun _ => (by cases a4 <;> rfl)) hf (fun x23 ls hf hl => ?_)
              refine lv_goto (tgt := 24) hx hb dX5_isFound_70 (by decide) ?_
              exact hL24_9 x23 S22 _ _ _ hf hR hS hE ok_this ok_a4 (lv_sub hl [1, 2, 0] rfl)
            refine lv_icmp_ne (tgt := 67) hx hb dX5_isFound_51 (by decide) (fun hc => ?_) (fun hc => ?_)
            · replace hf := if_f hf hc
              exact hj67_20 S12 _ _ _ hf hR hS hE ok_this ok_a4 (lv_sub hl [0, 1, 2] rfl)
            · replace hf := if_t hf hc
              refine lv_aload_n hx hb dX5_isFound_54 rfl (lv_at hl 0 rfl) ?_
              refine r_aloadO hx hb dX5_isFound_55 (lv_at hl 1 rfl) ?_
              refine lv_iload hx hb dX5_isFound_57 (lv_at hl 2 rfl) ?_
              obtain ⟨x27, S24, hc25, hf⟩ := cl_of hf
              refine cl_RX5_33 (As := [va_rf a4, .int x11]) (rest := []) hC hR hS (c_X5_value l G n this a4 x11 S12 x27 S24 hc25 ok_this ok_a4) ok_this rfl ⟨Nat.le_of_ble_eq_true rfl, Nat.le_of_ble_eq_true rfl⟩ hl.1 rfl (Nat.le_of_ble_eq_true rfl) dX5_isFound_59 (Nat.zero_le _) (Nat.zero_le _) (fun H locs hR hS hE26 => ?_)
              have ok_this := hE26 _ _ ok_this
              have ok_a4 := fun q h => hE26 _ _ (ok_a4 q h)
              have ok_q13 := hE26 _ _ ok_q13
              have ok_q15 := hE26 _ _ ok_q15
              have ok_q17 := hE26 _ _ ok_q17
              have hE := hE.tr hE26
              refine lv_if_eq (tgt := 67) hx hb dX5_isFound_62 (by decide) (fun hc => ?_) (fun hc => ?_)
              · replace hf := if_t hf hc
                exact hj67_20 S24 _ _ _ hf hR hS hE ok_this ok_a4 (lv_sub hl [0, 1, 2] rfl)
              · replace hf := if_f hf hc
                refine lv_iconst (v := 1) hx hb dX5_isFound_65 (by decide) ?_
                exact r_zret hC hR hS hE hf dX5_isFound_66
    exact hh29 n (0 : Int32) S7 _ _ _ hf hR hS hE ok_this ok_a4 (lv_sub hl [1, 5, 0] rfl)
  · replace hf := if_t hf hc
    refine lv_iconst (v := 0) hx hb dX5_isFound_5 (by decide) ?_
    exact r_zret hC hR hS hE hf dX5_isFound_6
abbrev rX5_harvest : Room := { frames := 3, cells := 0, slots := 0, locals := 79 }
def f_X5_harvest (n : Nat) (this : Nat) (a1 : Nat) (a2 : Int32) (a3 : Int64) (a4 : Option Nat) (S : MS) : Option (Int32 × MS) :=
  gR S (mR S a1 6) 12 fun q1 => ck (inb a2 (mN S q1)) (bd ((mI S a1 8) - (mI S q1 a2.toNatClampNeg)) fun x4 => (if a4 = none then some ((imin (999 : Int32) x4), S) else nn a4 fun q5 => (if (mI S q5 9) = (-1 : Int32) then some ((imin (999 : Int32) x4), S) else gR S (mR S this 0) 12 fun q7 => ck (inb (9 : Int32) (mN S q7)) (bd (sI S q7 (9 : Int32).toNatClampNeg x4) fun S10 => gR S10 (mR S10 this 0) 12 fun q12 => gR S10 (mR S10 a1 0) 1 fun q14 => dv (mI S10 q14 0) (ck (inb (3 : Int32) (mN S10 q12)) (bd (sI S10 q12 (3 : Int32).toNatClampNeg (a2 - a2 / (mI S10 q14 0) * (mI S10 q14 0))) fun S18 => gR S18 (mR S18 this 0) 12 fun q20 => gR S18 (mR S18 a1 0) 1 fun q22 => dv (mI S18 q22 0) (ck (inb (4 : Int32) (mN S18 q20)) (bd (sI S18 q20 (4 : Int32).toNatClampNeg (a2 / (mI S18 q22 0))) fun S26 => gR S26 (mR S26 this 0) 12 fun q28 => cl (f_J13_bitCount_95d88 n a3 S26) fun x33 S30 => ck (inb (10 : Int32) (mN S30 q28)) (bd (sI S30 q28 (10 : Int32).toNatClampNeg x33) fun S35 => gR S35 (mR S35 this 0) 12 fun q37 => cl (f_J13_bitCount_95d88 n (a3 &&& (mJ S35 a1 9)) S35) fun x42 S39 => ck (inb (11 : Int32) (mN S39 q37)) (bd (sI S39 q37 (11 : Int32).toNatClampNeg x42) fun S44 => nn a4 fun q46 => cl (f_X5_value n this a4 (mI S44 q46 9) S44) fun x51 S48 => some ((imax (0 : Int32) (imin (999 : Int32) x51)), S48)))))))))))
set_option maxRecDepth 100000 in
set_option maxHeartbeats 4000000 in
theorem c_X5_harvest (l : Launch) (G : Gx) (n : Nat) (this : Nat) (a1 : Nat) (a2 : Int32) (a3 : Int64) (a4 : Option Nat) (S : MS) (ro : Int32) (So : MS) (hf : f_X5_harvest n this a1 a2 a3 a4 S = some (ro, So)) (ok_this : Ok S this 5) (ok_a1 : Ok S a1 3) (ok_a4 : ∀ q, a4 = some q → Ok S q 7) : Cn G l yX5_harvest cX5_harvest 7 (some .int) rX5_harvest [.ref this, .ref a1, .int a2, .long a3, va_rf a4] S (some (.int ro)) So := by
  refine Cn.of (by decide) (by cases a4 <;> exact Nat.le_of_ble_eq_true rfl) ?_
  intro p e s m args below meth c hC hname hR ls hl
  have hC : Cx G RX5 cX5_harvest 7 (some .int) p s m args meth c := hC
  have hl : lv_has ls 7 [(0, .ref this), (1, .ref a1), (2, .int a2), (3, .long a3), (5, va_rf a4)] := by cases a4 <;> exact hl
  have hx := hC.x
  have hb := hC.b
  have hS : va_S (gA G) s.heap s.heap [] := va_S.rf
  have hE : Ex S S := Ex.rf S
  unfold f_X5_harvest at hf
  refine lv_aload_n hx hb dX5_harvest_0 rfl (lv_at hl 1 rfl) ?_
  refine gf_RX5_55 hC hR ok_a1 dX5_harvest_1 ?_
  refine lv_aload_n hx hb dX5_harvest_4 rfl (lv_at hl 1 rfl) ?_
  obtain ⟨q1, hq2, ok_q1, hf⟩ := gR_of hf
  refine gf_RX5_58 hC hR ok_a1 hq2 dX5_harvest_5 ?_
  refine lv_iload_n hx hb dX5_harvest_8 rfl (lv_at hl 2 rfl) ?_
  obtain ⟨hi3, hf⟩ := ck_of hf
  refine r_iald hC hR ok_q1 hi3 dX5_harvest_9 ?_
  refine lv_isub hx hb dX5_harvest_10 ?_
  refine bdi hf (fun x4 hf => ?_)
  refine lv_istore (lv' := [(6, .int x4), (0, .ref this), (1, .ref a1), (2, .int a2), (3, .long a3), (5, va_rf a4)]) hx hb dX5_harvest_11 hl (by decide) (by cases a4 <;> rfl) (fun ls hl => ?_)
  refine r_aloadO hx hb dX5_harvest_13 (lv_at hl 5 rfl) ?_
  refine r_ifnullO (tgt := 27) hx hb dX5_harvest_15 (by decide) (fun hc => ?_) (fun hc => ?_)
  · replace hf := if_t hf hc
    refine lv_sipush (v := 999) hx hb dX5_harvest_27 (by decide) ?_
    refine lv_iload hx hb dX5_harvest_30 (lv_at hl 0 rfl) ?_
    refine r_imin (v := (imin (999 : Int32) x4)) hC hl.1 (bg31 _ (List.mem_of_getElem? (i := 18) rfl)) rfl (Nat.le_of_ble_eq_true rfl) (Nat.le_of_ble_eq_true rfl) (Nat.zero_le _) (Nat.zero_le _) dX5_harvest_32 ?_
    exact r_iret hC hR hS hE hf dX5_harvest_35
  · replace hf := if_f hf hc
    refine r_aloadO hx hb dX5_harvest_18 (lv_at hl 5 rfl) ?_
    obtain ⟨q5, hq6, hf⟩ := nn_of hf
    have ok_q5 := ok_a4 q5 hq6
    refine W.eq (g2 := F0 m 20 ls [.ref q5]) (by rw [hq6]; rfl) ?_
    refine gf_RX5_61 hC hR ok_q5 dX5_harvest_20 ?_
    refine lv_iconst (v := -1) hx hb dX5_harvest_23 (by decide) ?_
    refine lv_icmp_ne (tgt := 36) hx hb dX5_harvest_24 (by decide) (fun hc => ?_) (fun hc => ?_)
    · replace hf := if_f hf hc
      refine lv_aload_n hx hb dX5_harvest_36 rfl (lv_at hl 1 rfl) ?_
      obtain ⟨q7, hq8, ok_q7, hf⟩ := gR_of hf
      refine gf_RX5_9 hC hR ok_this hq8 dX5_harvest_37 ?_
      refine lv_bipush (v := 9) hx hb dX5_harvest_40 (by decide) ?_
      refine lv_iload hx hb dX5_harvest_42 (lv_at hl 0 rfl) ?_
      obtain ⟨hi9, hf⟩ := ck_of hf
      refine rB_iast hC hR hS ok_q7 hi9 dX5_harvest_44 hf (fun S10 H locs hf hR hS hE11 => ?_)
      have ok_this := hE11 _ _ ok_this
      have ok_a1 := hE11 _ _ ok_a1
      have ok_a4 := fun q h => hE11 _ _ (ok_a4 q h)
      have ok_q1 := hE11 _ _ ok_q1
      have ok_q5 := hE11 _ _ ok_q5
      have ok_q7 := hE11 _ _ ok_q7
      have hE := hE.tr hE11
      refine lv_aload_n hx hb dX5_harvest_45 rfl (lv_at hl 1 rfl) ?_
      obtain ⟨q12, hq13, ok_q12, hf⟩ := gR_of hf
      refine gf_RX5_9 hC hR ok_this hq13 dX5_harvest_46 ?_
      refine lv_iconst (v := 3) hx hb dX5_harvest_49 (by decide) ?_
      refine lv_iload_n hx hb dX5_harvest_50 rfl (lv_at hl 3 rfl) ?_
      refine lv_aload_n hx hb dX5_harvest_51 rfl (lv_at hl 2 rfl) ?_
      obtain ⟨q14, hq15, ok_q14, hf⟩ := gR_of hf
      refine gf_RX5_64 hC hR ok_a1 hq15 dX5_harvest_52 ?_
      refine gf_RX5_68 hC hR ok_q14 dX5_harvest_55 ?_
      obtain ⟨hn16, hf⟩ := dv_of hf
      refine lv_irem hx hb dX5_harvest_58 hn16 ?_
      obtain ⟨hi17, hf⟩ := ck_of hf
      refine rB_iast hC hR hS ok_q12 hi17 dX5_harvest_59 hf (fun S18 H locs hf hR hS hE19 => ?_)
      have ok_this := hE19 _ _ ok_this
      have ok_a1 := hE19 _ _ ok_a1
      have ok_a4 := fun q h => hE19 _ _ (ok_a4 q h)
      have ok_q1 := hE19 _ _ ok_q1
      have ok_q5 := hE19 _ _ ok_q5
      have ok_q7 := hE19 _ _ ok_q7
      have ok_q12 := hE19 _ _ ok_q12
      have ok_q14 := hE19 _ _ ok_q14
      have hE := hE.tr hE19
      refine lv_aload_n hx hb dX5_harvest_60 rfl (lv_at hl 1 rfl) ?_
      obtain ⟨q20, hq21, ok_q20, hf⟩ := gR_of hf
      refine gf_RX5_9 hC hR ok_this hq21 dX5_harvest_61 ?_
      refine lv_iconst (v := 4) hx hb dX5_harvest_64 (by decide) ?_
      refine lv_iload_n hx hb dX5_harvest_65 rfl (lv_at hl 3 rfl) ?_
      refine lv_aload_n hx hb dX5_harvest_66 rfl (lv_at hl 2 rfl) ?_
      obtain ⟨q22, hq23, ok_q22, hf⟩ := gR_of hf
      refine gf_RX5_64 hC hR ok_a1 hq23 dX5_harvest_67 ?_
      refine gf_RX5_68 hC hR ok_q22 dX5_harvest_70 ?_
      obtain ⟨hn24, hf⟩ := dv_of hf
      refine lv_idiv hx hb dX5_harvest_73 hn24 ?_
      obtain ⟨hi25, hf⟩ := ck_of hf
      refine rB_iast hC hR hS ok_q20 hi25 dX5_harvest_74 hf (fun S26 H locs hf hR hS hE27 => ?_)
      have ok_this := hE27 _ _ ok_this
      have ok_a1 := hE27 _ _ ok_a1
      have ok_a4 := fun q h => hE27 _ _ (ok_a4 q h)
      have ok_q1 := hE27 _ _ ok_q1
      have ok_q5 := hE27 _ _ ok_q5
      have ok_q7 := hE27 _ _ ok_q7
      have ok_q12 := hE27 _ _ ok_q12
      have ok_q14 := hE27 _ _ ok_q14
      have ok_q20 := hE27 _ _ ok_q20
      have ok_q22 := hE27 _ _ ok_q22
      have hE := hE.tr hE27
      refine lv_aload_n hx hb dX5_harvest_75 rfl (lv_at hl 1 rfl) ?_
      obtain ⟨q28, hq29, ok_q28, hf⟩ := gR_of hf
      refine gf_RX5_9 hC hR ok_this hq29 dX5_harvest_76 ?_
      refine lv_bipush (v := 10) hx hb dX5_harvest_79 (by decide) ?_
      refine lv_lload_n hx hb dX5_harvest_81 rfl (lv_at hl 4 rfl) ?_
      obtain ⟨x33, S30, hc31, hf⟩ := cl_of hf
      refine cl_RX5_73 (As := [.long a3]) (rest := [.int (10 : Int32), .ref q28]) hC hR hS (c_J13_bitCount_95d88 l G n a3 S26 x33 S30 hc31 ) rfl ⟨Nat.le_of_ble_eq_true rfl, Nat.le_of_ble_eq_true rfl⟩ hl.1 rfl (Nat.le_of_ble_eq_true rfl) dX5_harvest_82 (Nat.zero_le _) (Nat.zero_le _) (fun H locs hR hS hE32 => ?_)
      have ok_this := hE32 _ _ ok_this
      have ok_a1 := hE32 _ _ ok_a1
      have ok_a4 := fun q h => hE32 _ _ (ok_a4 q h)
      have ok_q1 := hE32 _ _ ok_q1
      have ok_q5 := hE32 _ _ ok_q5
      have ok_q7 := hE32 _ _ ok_q7
      have ok_q12 := hE32 _ _ ok_q12
      have ok_q14 := hE32 _ _ ok_q14
      have ok_q20 := hE32 _ _ ok_q20
      have ok_q22 := hE32 _ _ ok_q22
      have ok_q28 := hE32 _ _ ok_q28
      have hE := hE.tr hE32
      obtain ⟨hi34, hf⟩ := ck_of hf
      refine rB_iast hC hR hS ok_q28 hi34 dX5_harvest_85 hf (fun S35 H locs hf hR hS hE36 => ?_)
      have ok_this := hE36 _ _ ok_this
      have ok_a1 := hE36 _ _ ok_a1
      have ok_a4 := fun q h => hE36 _ _ (ok_a4 q h)
      have ok_q1 := hE36 _ _ ok_q1
      have ok_q5 := hE36 _ _ ok_q5
      have ok_q7 := hE36 _ _ ok_q7
      have ok_q12 := hE36 _ _ ok_q12
      have ok_q14 := hE36 _ _ ok_q14
      have ok_q20 := hE36 _ _ ok_q20
      have ok_q22 := hE36 _ _ ok_q22
      have ok_q28 := hE36 _ _ ok_q28
      have hE := hE.tr hE36
      refine lv_aload_n hx hb dX5_harvest_86 rfl (lv_at hl 1 rfl) ?_
      obtain ⟨q37, hq38, ok_q37, hf⟩ := gR_of hf
      refine gf_RX5_9 hC hR ok_this hq38 dX5_harvest_87 ?_
      refine lv_bipush (v := 11) hx hb dX5_harvest_90 (by decide) ?_
      refine lv_lload_n hx hb dX5_harvest_92 rfl (lv_at hl 4 rfl) ?_
      refine lv_aload_n hx hb dX5_harvest_93 rfl (lv_at hl 2 rfl) ?_
      refine gf_RX5_79 hC hR ok_a1 dX5_harvest_94 ?_
      refine lv_land hx hb dX5_harvest_97 ?_
      obtain ⟨x42, S39, hc40, hf⟩ := cl_of hf
      refine cl_RX5_73 (As := [.long (a3 &&& (mJ S35 a1 9))]) (rest := [.int (11 : Int32), .ref q37]) hC hR hS (c_J13_bitCount_95d88 l G n (a3 &&& (mJ S35 a1 9)) S35 x42 S39 hc40 ) rfl ⟨Nat.le_of_ble_eq_true rfl, Nat.le_of_ble_eq_true rfl⟩ hl.1 rfl (Nat.le_of_ble_eq_true rfl) dX5_harvest_98 (Nat.zero_le _) (Nat.zero_le _) (fun H locs hR hS hE41 => ?_)
      have ok_this := hE41 _ _ ok_this
      have ok_a1 := hE41 _ _ ok_a1
      have ok_a4 := fun q h => hE41 _ _ (ok_a4 q h)
      have ok_q1 := hE41 _ _ ok_q1
      have ok_q5 := hE41 _ _ ok_q5
      have ok_q7 := hE41 _ _ ok_q7
      have ok_q12 := hE41 _ _ ok_q12
      have ok_q14 := hE41 _ _ ok_q14
      have ok_q20 := hE41 _ _ ok_q20
      have ok_q22 := hE41 _ _ ok_q22
      have ok_q28 := hE41 _ _ ok_q28
      have ok_q37 := hE41 _ _ ok_q37
      have hE := hE.tr hE41
      obtain ⟨hi43, hf⟩ := ck_of hf
      refine rB_iast hC hR hS ok_q37 hi43 dX5_harvest_101 hf (fun S44 H locs hf hR hS hE45 => ?_)
      have ok_this := hE45 _ _ ok_this
      have ok_a1 := hE45 _ _ ok_a1
      have ok_a4 := fun q h => hE45 _ _ (ok_a4 q h)
      have ok_q1 := hE45 _ _ ok_q1
      have ok_q5 := hE45 _ _ ok_q5
      have ok_q7 := hE45 _ _ ok_q7
      have ok_q12 := hE45 _ _ ok_q12
      have ok_q14 := hE45 _ _ ok_q14
      have ok_q20 := hE45 _ _ ok_q20
      have ok_q22 := hE45 _ _ ok_q22
      have ok_q28 := hE45 _ _ ok_q28
      have ok_q37 := hE45 _ _ ok_q37
      have hE := hE.tr hE45
      refine lv_iconst (v := 0) hx hb dX5_harvest_102 (by decide) ?_
      refine lv_sipush (v := 999) hx hb dX5_harvest_103 (by decide) ?_
      refine lv_aload_n hx hb dX5_harvest_106 rfl (lv_at hl 1 rfl) ?_
      refine r_aloadO hx hb dX5_harvest_107 (lv_at hl 5 rfl) ?_
      refine r_aloadO hx hb dX5_harvest_109 (lv_at hl 5 rfl) ?_
      obtain ⟨q46, hq47, hf⟩ := nn_of hf
      have ok_q46 := ok_a4 q46 hq47
      refine W.eq (g2 := F0 m 111 ls [.ref q46, va_rf a4, .ref this, .int (999 : Int32), .int (0 : Int32)]) (by rw [hq47]; rfl) ?_
      refine gf_RX5_61 hC hR ok_q46 dX5_harvest_111 ?_
      obtain ⟨x51, S48, hc49, hf⟩ := cl_of hf
      refine cl_RX5_33 (As := [va_rf a4, .int (mI S44 q46 9)]) (rest := [.int (999 : Int32), .int (0 : Int32)]) hC hR hS (c_X5_value l G n this a4 (mI S44 q46 9) S44 x51 S48 hc49 ok_this ok_a4) ok_this rfl ⟨Nat.le_of_ble_eq_true rfl, Nat.le_of_ble_eq_true rfl⟩ hl.1 rfl (Nat.le_of_ble_eq_true rfl) dX5_harvest_114 (Nat.zero_le _) (Nat.zero_le _) (fun H locs hR hS hE50 => ?_)
      have ok_this := hE50 _ _ ok_this
      have ok_a1 := hE50 _ _ ok_a1
      have ok_a4 := fun q h => hE50 _ _ (ok_a4 q h)
      have ok_q1 := hE50 _ _ ok_q1
      have ok_q5 := hE50 _ _ ok_q5
      have ok_q7 := hE50 _ _ ok_q7
      have ok_q12 := hE50 _ _ ok_q12
      have ok_q14 := hE50 _ _ ok_q14
      have ok_q20 := hE50 _ _ ok_q20
      have ok_q22 := hE50 _ _ ok_q22
      have ok_q28 := hE50 _ _ ok_q28
      have ok_q37 := hE50 _ _ ok_q37
      have ok_q46 := hE50 _ _ ok_q46
      have hE := hE.tr hE50
      refine r_imin (v := (imin (999 : Int32) x51)) hC hl.1 (bg31 _ (List.mem_of_getElem? (i := 18) rfl)) rfl (Nat.le_of_ble_eq_true rfl) (Nat.le_of_ble_eq_true rfl) (Nat.zero_le _) (Nat.zero_le _) dX5_harvest_117 ?_
      refine r_imax (v := (imax (0 : Int32) (imin (999 : Int32) x51))) hC hl.1 (bg32 _ (List.mem_of_getElem? (i := 17) rfl)) rfl (Nat.le_of_ble_eq_true rfl) (Nat.le_of_ble_eq_true rfl) (Nat.zero_le _) (Nat.zero_le _) dX5_harvest_120 ?_
      exact r_iret hC hR hS hE hf dX5_harvest_123
    · replace hf := if_t hf hc
      refine lv_sipush (v := 999) hx hb dX5_harvest_27 (by decide) ?_
      refine lv_iload hx hb dX5_harvest_30 (lv_at hl 0 rfl) ?_
      refine r_imin (v := (imin (999 : Int32) x4)) hC hl.1 (bg31 _ (List.mem_of_getElem? (i := 18) rfl)) rfl (Nat.le_of_ble_eq_true rfl) (Nat.le_of_ble_eq_true rfl) (Nat.zero_le _) (Nat.zero_le _) dX5_harvest_32 ?_
      exact r_iret hC hR hS hE hf dX5_harvest_35
abbrev rX6_add : Room := { frames := 0, cells := 0, slots := 0, locals := 0 }
def f_X6_add_L3 (n : Nat) (this : Nat) (a1 : Int32) : Nat → Int32 → MS → Option (MS)
  | 0, _, _ => none
  | k + 1, x3, S4 => jn (f_X6_add_L3 n this a1 k) fun rec3_2 => (if x3 < 0 then some S4 else (if (300 : Int32) ≤ (mI S4 this 1) then some S4 else gR S4 (mR S4 this 0) 12 fun q5 => ck (inb (mI S4 this 1) (mN S4 q5)) (bd (sI S4 q5 (mI S4 this 1).toNatClampNeg ((iush a1 x3) &&& (255 : Int32))) fun S8 => bd (sI S8 this 1 ((mI S8 this 1) + (1 : Int32))) fun S10 => bd (x3 + (-8 : Int32)) fun x12 => rec3_2 x12 S10)))
def f_X6_add (n : Nat) (this : Nat) (a1 : Int32) (S : MS) : Option (MS) :=
  f_X6_add_L3 n this a1 n (24 : Int32) S
set_option maxRecDepth 100000 in
set_option maxHeartbeats 4000000 in
theorem c_X6_add (l : Launch) (G : Gx) (n : Nat) (this : Nat) (a1 : Int32) (S : MS) (So : MS) (hf : f_X6_add n this a1 S = some So) (ok_this : Ok S this 6) : Cn G l yX6_add cX6_add 3 none rX6_add [.ref this, .int a1] S none So := by
  refine Cn.of (by decide) (Nat.le_of_ble_eq_true rfl) ?_
  intro p e s m args below meth c hC hname hR ls hl
  have hC : Cx G RX6 cX6_add 3 none p s m args meth c := hC
  have hl : lv_has ls 3 [(0, .ref this), (1, .int a1)] := hl
  have hx := hC.x
  have hb := hC.b
  have hS : va_S (gA G) s.heap s.heap [] := va_S.rf
  have hE : Ex S S := Ex.rf S
  unfold f_X6_add at hf
  refine lv_bipush (v := 24) hx hb dX6_add_0 (by decide) ?_
  refine lv_istore_n (lv' := [(2, .int (24 : Int32)), (0, .ref this), (1, .int a1)]) hx hb dX6_add_2 rfl hl (by decide) rfl (fun ls hl => ?_)
  have hh13 : ∀ k : Nat, ∀ (x3 : Int32) (S4 : MS) (H : Heap) (locs : List Loc) (ls : Array Slot), f_X6_add_L3 n this a1 k x3 S4 = some So → Rp G S4 H → va_S (gA G) s.heap H locs → Ex S S4 → Ok S4 this 6 → lv_has ls 3 [(0, .ref this), (1, .int a1), (2, .int x3)] → W p l e rX6_add s m args below meth c H locs 0 0 (MQ below (Qn G S none So) args s 0 0 (gA G)) (F0 m 3 ls []) := by
    intro k
    induction k with
    | zero =>
      intro x3 S4 H locs ls hf hR hS hE ok_this hl
      exact absurd hf (by rw [f_X6_add_L3]; exact fun h => by cases h)
    | succ k ih =>
      intro x3 S4 H locs ls hf hR hS hE ok_this hl
      rw [f_X6_add_L3] at hf
      obtain ⟨rec3_2, erec3_2, hf⟩ := jn_of2 hf
      have hL3_1 : ∀ (x3 : Int32) (S4 : MS) (H : Heap) (locs : List Loc) (ls : Array Slot), rec3_2 x3 S4 = some So → Rp G S4 H → va_S (gA G) s.heap H locs → Ex S S4 → Ok S4 this 6 → lv_has ls 3 [(0, .ref this), (1, .int a1), (2, .int x3)] → W p l e rX6_add s m args below meth c H locs 0 0 (MQ below (Qn G S none So) args s 0 0 (gA G)) (F0 m 3 ls []) := by
        intro x3 S4 H locs ls hf hR hS hE ok_this hl
        rw [erec3_2] at hf
        exact ih x3 S4 _ _ _ hf hR hS hE ok_this hl
      refine lv_iload_n hx hb dX6_add_3 rfl (lv_at hl 2 rfl) ?_
      refine lv_if_lt (tgt := 49) hx hb dX6_add_4 (by decide) (fun hc => ?_) (fun hc => ?_)
      · replace hf := if_t hf hc
        exact r_vret hC hR hS hE hf dX6_add_49
      · replace hf := if_f hf hc
        refine lv_aload_n hx hb dX6_add_7 rfl (lv_at hl 0 rfl) ?_
        refine gf_RX6_15 hC hR ok_this dX6_add_8 ?_
        refine lv_sipush (v := 300) hx hb dX6_add_11 (by decide) ?_
        refine lv_icmp_ge (tgt := 49) hx hb dX6_add_14 (by decide) (fun hc => ?_) (fun hc => ?_)
        · replace hf := if_t hf hc
          exact r_vret hC hR hS hE hf dX6_add_49
        · replace hf := if_f hf hc
          refine lv_aload_n hx hb dX6_add_17 rfl (lv_at hl 0 rfl) ?_
          obtain ⟨q5, hq6, ok_q5, hf⟩ := gR_of hf
          refine gf_RX6_9 hC hR ok_this hq6 dX6_add_18 ?_
          refine lv_aload_n hx hb dX6_add_21 rfl (lv_at hl 0 rfl) ?_
          refine gf_RX6_15 hC hR ok_this dX6_add_22 ?_
          refine lv_iload_n hx hb dX6_add_25 rfl (lv_at hl 1 rfl) ?_
          refine lv_iload_n hx hb dX6_add_26 rfl (lv_at hl 2 rfl) ?_
          refine lv_iushr (v := (iush a1 x3)) hx hb dX6_add_27 rfl ?_
          refine lv_sipush (v := 255) hx hb dX6_add_28 (by decide) ?_
          refine lv_iand hx hb dX6_add_31 ?_
          obtain ⟨hi7, hf⟩ := ck_of hf
          refine rB_iast hC hR hS ok_q5 hi7 dX6_add_32 hf (fun S8 H locs hf hR hS hE9 => ?_)
          have ok_this := hE9 _ _ ok_this
          have ok_q5 := hE9 _ _ ok_q5
          have hE := hE.tr hE9
          refine lv_aload_n hx hb dX6_add_33 rfl (lv_at hl 0 rfl) ?_
          refine lv_dup hx hb dX6_add_34 rfl ?_
          refine gf_RX6_15 hC hR ok_this dX6_add_35 ?_
          refine lv_iconst (v := 1) hx hb dX6_add_38 (by decide) ?_
          refine lv_iadd hx hb dX6_add_39 ?_
          refine pf_RX6_15 hC hR hS ok_this dX6_add_40 hf (fun S10 H locs hf hR hS hE11 => ?_)
          have ok_this := hE11 _ _ ok_this
          have ok_q5 := hE11 _ _ ok_q5
          have hE := hE.tr hE11
          refine r_iinc (n := -8) (z := -8) (lv' := fun x12 => [(2, .int x12), (0, .ref this), (1, .int a1)]) hx hb dX6_add_43 hl (k := 2) rfl (by decide) (by decide) (fun _ => rfl) hf (fun x12 ls hf hl => ?_)
          refine lv_goto (tgt := 3) hx hb dX6_add_46 (by decide) ?_
          exact hL3_1 x12 S10 _ _ _ hf hR hS hE ok_this (lv_sub hl [1, 2, 0] rfl)
  exact hh13 n (24 : Int32) S _ _ _ hf hR hS hE ok_this (lv_sub hl [1, 2, 0] rfl)
abbrev rX8_copyFrom : Room := { frames := 1, cells := 0, slots := 0, locals := 120 }
def f_X8_copyFrom (_n : Nat) (this : Nat) (a1 : Nat) (S : MS) : Option (MS) :=
  gR S (mR S a1 0) 12 fun q1 => gR S (mR S this 0) 12 fun q3 => ck (cpk (0 : Int32) (0 : Int32) (6 : Int32) (mN S q1) (mN S q3)) (bd (rI S q3 (va_cpy (mI S q1) (mI S q3) (0 : Int32).toNatClampNeg (0 : Int32).toNatClampNeg (6 : Int32).toNatClampNeg)) fun S6 => gR S6 (mR S6 a1 1) 12 fun q8 => gR S6 (mR S6 this 1) 12 fun q10 => ck (cpk (0 : Int32) (0 : Int32) (6 : Int32) (mN S6 q8) (mN S6 q10)) (bd (rI S6 q10 (va_cpy (mI S6 q8) (mI S6 q10) (0 : Int32).toNatClampNeg (0 : Int32).toNatClampNeg (6 : Int32).toNatClampNeg)) fun S13 => gR S13 (mR S13 a1 2) 12 fun q15 => gR S13 (mR S13 this 2) 12 fun q17 => ck (cpk (0 : Int32) (0 : Int32) (6 : Int32) (mN S13 q15) (mN S13 q17)) (bd (rI S13 q17 (va_cpy (mI S13 q15) (mI S13 q17) (0 : Int32).toNatClampNeg (0 : Int32).toNatClampNeg (6 : Int32).toNatClampNeg)) fun S20 => gR S20 (mR S20 a1 3) 12 fun q22 => gR S20 (mR S20 this 3) 12 fun q24 => ck (cpk (0 : Int32) (0 : Int32) (6 : Int32) (mN S20 q22) (mN S20 q24)) (bd (rI S20 q24 (va_cpy (mI S20 q22) (mI S20 q24) (0 : Int32).toNatClampNeg (0 : Int32).toNatClampNeg (6 : Int32).toNatClampNeg)) fun S27 => gR S27 (mR S27 a1 4) 12 fun q29 => gR S27 (mR S27 this 4) 12 fun q31 => ck (cpk (0 : Int32) (0 : Int32) (40 : Int32) (mN S27 q29) (mN S27 q31)) (bd (rI S27 q31 (va_cpy (mI S27 q29) (mI S27 q31) (0 : Int32).toNatClampNeg (0 : Int32).toNatClampNeg (40 : Int32).toNatClampNeg)) fun S34 => gR S34 (mR S34 a1 5) 12 fun q36 => gR S34 (mR S34 this 5) 12 fun q38 => ck (cpk (0 : Int32) (0 : Int32) (24 : Int32) (mN S34 q36) (mN S34 q38)) (bd (rI S34 q38 (va_cpy (mI S34 q36) (mI S34 q38) (0 : Int32).toNatClampNeg (0 : Int32).toNatClampNeg (24 : Int32).toNatClampNeg)) fun S41 => bd (sI S41 this 6 (mI S41 a1 6)) fun S43 => bd (sI S43 this 7 (mI S43 a1 7)) fun S45 => bd (sI S45 this 8 (mI S45 a1 8)) fun S47 => some S47))))))
set_option maxRecDepth 100000 in
set_option maxHeartbeats 4000000 in
theorem c_X8_copyFrom (l : Launch) (G : Gx) (n : Nat) (this : Nat) (a1 : Nat) (S : MS) (So : MS) (hf : f_X8_copyFrom n this a1 S = some So) (ok_this : Ok S this 8) (ok_a1 : Ok S a1 8) : Cn G l yX8_copyFrom cX8_copyFrom 2 none rX8_copyFrom [.ref this, .ref a1] S none So := by
  refine Cn.of (by decide) (Nat.le_of_ble_eq_true rfl) ?_
  intro p e s m args below meth c hC hname hR ls hl
  have hC : Cx G RX8 cX8_copyFrom 2 none p s m args meth c := hC
  have hl : lv_has ls 2 [(0, .ref this), (1, .ref a1)] := hl
  have hx := hC.x
  have hb := hC.b
  have hS : va_S (gA G) s.heap s.heap [] := va_S.rf
  have hE : Ex S S := Ex.rf S
  unfold f_X8_copyFrom at hf
  refine lv_aload_n hx hb dX8_copyFrom_0 rfl (lv_at hl 1 rfl) ?_
  obtain ⟨q1, hq2, ok_q1, hf⟩ := gR_of hf
  refine gf_RX8_9 hC hR ok_a1 hq2 dX8_copyFrom_1 ?_
  refine lv_iconst (v := 0) hx hb dX8_copyFrom_4 (by decide) ?_
  refine lv_aload_n hx hb dX8_copyFrom_5 rfl (lv_at hl 0 rfl) ?_
  obtain ⟨q3, hq4, ok_q3, hf⟩ := gR_of hf
  refine gf_RX8_9 hC hR ok_this hq4 dX8_copyFrom_6 ?_
  refine lv_iconst (v := 0) hx hb dX8_copyFrom_9 (by decide) ?_
  refine lv_bipush (v := 6) hx hb dX8_copyFrom_10 (by decide) ?_
  obtain ⟨hi5, hf⟩ := ck_of hf
  refine r_copyI hC hR hS hl.1 (bg55 _ (List.mem_of_getElem? (i := 5) rfl)) (bg45 _ (List.mem_of_getElem? (i := 18) rfl)) (bg45 _ (List.mem_of_getElem? (i := 19) rfl)) (bg45 _ (List.mem_of_getElem? (i := 20) rfl)) ok_q1 ok_q3 hi5 (Nat.le_of_ble_eq_true rfl) (by decide +kernel) dX8_copyFrom_12 hf (fun S6 H locs hf hR hS hE7 => ?_)
  have ok_this := hE7 _ _ ok_this
  have ok_a1 := hE7 _ _ ok_a1
  have ok_q1 := hE7 _ _ ok_q1
  have ok_q3 := hE7 _ _ ok_q3
  have hE := hE.tr hE7
  refine lv_aload_n hx hb dX8_copyFrom_15 rfl (lv_at hl 1 rfl) ?_
  obtain ⟨q8, hq9, ok_q8, hf⟩ := gR_of hf
  refine gf_RX8_15 hC hR ok_a1 hq9 dX8_copyFrom_16 ?_
  refine lv_iconst (v := 0) hx hb dX8_copyFrom_19 (by decide) ?_
  refine lv_aload_n hx hb dX8_copyFrom_20 rfl (lv_at hl 0 rfl) ?_
  obtain ⟨q10, hq11, ok_q10, hf⟩ := gR_of hf
  refine gf_RX8_15 hC hR ok_this hq11 dX8_copyFrom_21 ?_
  refine lv_iconst (v := 0) hx hb dX8_copyFrom_24 (by decide) ?_
  refine lv_bipush (v := 6) hx hb dX8_copyFrom_25 (by decide) ?_
  obtain ⟨hi12, hf⟩ := ck_of hf
  refine r_copyI hC hR hS hl.1 (bg55 _ (List.mem_of_getElem? (i := 5) rfl)) (bg45 _ (List.mem_of_getElem? (i := 18) rfl)) (bg45 _ (List.mem_of_getElem? (i := 19) rfl)) (bg45 _ (List.mem_of_getElem? (i := 20) rfl)) ok_q8 ok_q10 hi12 (Nat.le_of_ble_eq_true rfl) (by decide +kernel) dX8_copyFrom_27 hf (fun S13 H locs hf hR hS hE14 => ?_)
  have ok_this := hE14 _ _ ok_this
  have ok_a1 := hE14 _ _ ok_a1
  have ok_q1 := hE14 _ _ ok_q1
  have ok_q3 := hE14 _ _ ok_q3
  have ok_q8 := hE14 _ _ ok_q8
  have ok_q10 := hE14 _ _ ok_q10
  have hE := hE.tr hE14
  refine lv_aload_n hx hb dX8_copyFrom_30 rfl (lv_at hl 1 rfl) ?_
  obtain ⟨q15, hq16, ok_q15, hf⟩ := gR_of hf
  refine gf_RX8_18 hC hR ok_a1 hq16 dX8_copyFrom_31 ?_
  refine lv_iconst (v := 0) hx hb dX8_copyFrom_34 (by decide) ?_
  refine lv_aload_n hx hb dX8_copyFrom_35 rfl (lv_at hl 0 rfl) ?_
  obtain ⟨q17, hq18, ok_q17, hf⟩ := gR_of hf
  refine gf_RX8_18 hC hR ok_this hq18 dX8_copyFrom_36 ?_
  refine lv_iconst (v := 0) hx hb dX8_copyFrom_39 (by decide) ?_
  refine lv_bipush (v := 6) hx hb dX8_copyFrom_40 (by decide) ?_
  obtain ⟨hi19, hf⟩ := ck_of hf
  refine r_copyI hC hR hS hl.1 (bg55 _ (List.mem_of_getElem? (i := 5) rfl)) (bg45 _ (List.mem_of_getElem? (i := 18) rfl)) (bg45 _ (List.mem_of_getElem? (i := 19) rfl)) (bg45 _ (List.mem_of_getElem? (i := 20) rfl)) ok_q15 ok_q17 hi19 (Nat.le_of_ble_eq_true rfl) (by decide +kernel) dX8_copyFrom_42 hf (fun S20 H locs hf hR hS hE21 => ?_)
  have ok_this := hE21 _ _ ok_this
  have ok_a1 := hE21 _ _ ok_a1
  have ok_q1 := hE21 _ _ ok_q1
  have ok_q3 := hE21 _ _ ok_q3
  have ok_q8 := hE21 _ _ ok_q8
  have ok_q10 := hE21 _ _ ok_q10
  have ok_q15 := hE21 _ _ ok_q15
  have ok_q17 := hE21 _ _ ok_q17
  have hE := hE.tr hE21
  refine lv_aload_n hx hb dX8_copyFrom_45 rfl (lv_at hl 1 rfl) ?_
  obtain ⟨q22, hq23, ok_q22, hf⟩ := gR_of hf
  refine gf_RX8_21 hC hR ok_a1 hq23 dX8_copyFrom_46 ?_
  refine lv_iconst (v := 0) hx hb dX8_copyFrom_49 (by decide) ?_
  refine lv_aload_n hx hb dX8_copyFrom_50 rfl (lv_at hl 0 rfl) ?_
  obtain ⟨q24, hq25, ok_q24, hf⟩ := gR_of hf
  refine gf_RX8_21 hC hR ok_this hq25 dX8_copyFrom_51 ?_
  refine lv_iconst (v := 0) hx hb dX8_copyFrom_54 (by decide) ?_
  refine lv_bipush (v := 6) hx hb dX8_copyFrom_55 (by decide) ?_
  obtain ⟨hi26, hf⟩ := ck_of hf
  refine r_copyI hC hR hS hl.1 (bg55 _ (List.mem_of_getElem? (i := 5) rfl)) (bg45 _ (List.mem_of_getElem? (i := 18) rfl)) (bg45 _ (List.mem_of_getElem? (i := 19) rfl)) (bg45 _ (List.mem_of_getElem? (i := 20) rfl)) ok_q22 ok_q24 hi26 (Nat.le_of_ble_eq_true rfl) (by decide +kernel) dX8_copyFrom_57 hf (fun S27 H locs hf hR hS hE28 => ?_)
  have ok_this := hE28 _ _ ok_this
  have ok_a1 := hE28 _ _ ok_a1
  have ok_q1 := hE28 _ _ ok_q1
  have ok_q3 := hE28 _ _ ok_q3
  have ok_q8 := hE28 _ _ ok_q8
  have ok_q10 := hE28 _ _ ok_q10
  have ok_q15 := hE28 _ _ ok_q15
  have ok_q17 := hE28 _ _ ok_q17
  have ok_q22 := hE28 _ _ ok_q22
  have ok_q24 := hE28 _ _ ok_q24
  have hE := hE.tr hE28
  refine lv_aload_n hx hb dX8_copyFrom_60 rfl (lv_at hl 1 rfl) ?_
  obtain ⟨q29, hq30, ok_q29, hf⟩ := gR_of hf
  refine gf_RX8_24 hC hR ok_a1 hq30 dX8_copyFrom_61 ?_
  refine lv_iconst (v := 0) hx hb dX8_copyFrom_64 (by decide) ?_
  refine lv_aload_n hx hb dX8_copyFrom_65 rfl (lv_at hl 0 rfl) ?_
  obtain ⟨q31, hq32, ok_q31, hf⟩ := gR_of hf
  refine gf_RX8_24 hC hR ok_this hq32 dX8_copyFrom_66 ?_
  refine lv_iconst (v := 0) hx hb dX8_copyFrom_69 (by decide) ?_
  refine lv_bipush (v := 40) hx hb dX8_copyFrom_70 (by decide) ?_
  obtain ⟨hi33, hf⟩ := ck_of hf
  refine r_copyI hC hR hS hl.1 (bg55 _ (List.mem_of_getElem? (i := 5) rfl)) (bg45 _ (List.mem_of_getElem? (i := 18) rfl)) (bg45 _ (List.mem_of_getElem? (i := 19) rfl)) (bg45 _ (List.mem_of_getElem? (i := 20) rfl)) ok_q29 ok_q31 hi33 (Nat.le_of_ble_eq_true rfl) (by decide +kernel) dX8_copyFrom_72 hf (fun S34 H locs hf hR hS hE35 => ?_)
  have ok_this := hE35 _ _ ok_this
  have ok_a1 := hE35 _ _ ok_a1
  have ok_q1 := hE35 _ _ ok_q1
  have ok_q3 := hE35 _ _ ok_q3
  have ok_q8 := hE35 _ _ ok_q8
  have ok_q10 := hE35 _ _ ok_q10
  have ok_q15 := hE35 _ _ ok_q15
  have ok_q17 := hE35 _ _ ok_q17
  have ok_q22 := hE35 _ _ ok_q22
  have ok_q24 := hE35 _ _ ok_q24
  have ok_q29 := hE35 _ _ ok_q29
  have ok_q31 := hE35 _ _ ok_q31
  have hE := hE.tr hE35
  refine lv_aload_n hx hb dX8_copyFrom_75 rfl (lv_at hl 1 rfl) ?_
  obtain ⟨q36, hq37, ok_q36, hf⟩ := gR_of hf
  refine gf_RX8_27 hC hR ok_a1 hq37 dX8_copyFrom_76 ?_
  refine lv_iconst (v := 0) hx hb dX8_copyFrom_79 (by decide) ?_
  refine lv_aload_n hx hb dX8_copyFrom_80 rfl (lv_at hl 0 rfl) ?_
  obtain ⟨q38, hq39, ok_q38, hf⟩ := gR_of hf
  refine gf_RX8_27 hC hR ok_this hq39 dX8_copyFrom_81 ?_
  refine lv_iconst (v := 0) hx hb dX8_copyFrom_84 (by decide) ?_
  refine lv_bipush (v := 24) hx hb dX8_copyFrom_85 (by decide) ?_
  obtain ⟨hi40, hf⟩ := ck_of hf
  refine r_copyI hC hR hS hl.1 (bg55 _ (List.mem_of_getElem? (i := 5) rfl)) (bg45 _ (List.mem_of_getElem? (i := 18) rfl)) (bg45 _ (List.mem_of_getElem? (i := 19) rfl)) (bg45 _ (List.mem_of_getElem? (i := 20) rfl)) ok_q36 ok_q38 hi40 (Nat.le_of_ble_eq_true rfl) (by decide +kernel) dX8_copyFrom_87 hf (fun S41 H locs hf hR hS hE42 => ?_)
  have ok_this := hE42 _ _ ok_this
  have ok_a1 := hE42 _ _ ok_a1
  have ok_q1 := hE42 _ _ ok_q1
  have ok_q3 := hE42 _ _ ok_q3
  have ok_q8 := hE42 _ _ ok_q8
  have ok_q10 := hE42 _ _ ok_q10
  have ok_q15 := hE42 _ _ ok_q15
  have ok_q17 := hE42 _ _ ok_q17
  have ok_q22 := hE42 _ _ ok_q22
  have ok_q24 := hE42 _ _ ok_q24
  have ok_q29 := hE42 _ _ ok_q29
  have ok_q31 := hE42 _ _ ok_q31
  have ok_q36 := hE42 _ _ ok_q36
  have ok_q38 := hE42 _ _ ok_q38
  have hE := hE.tr hE42
  refine lv_aload_n hx hb dX8_copyFrom_90 rfl (lv_at hl 0 rfl) ?_
  refine lv_aload_n hx hb dX8_copyFrom_91 rfl (lv_at hl 1 rfl) ?_
  refine gf_RX8_46 hC hR ok_a1 dX8_copyFrom_92 ?_
  refine pf_RX8_46 hC hR hS ok_this dX8_copyFrom_95 hf (fun S43 H locs hf hR hS hE44 => ?_)
  have ok_this := hE44 _ _ ok_this
  have ok_a1 := hE44 _ _ ok_a1
  have ok_q1 := hE44 _ _ ok_q1
  have ok_q3 := hE44 _ _ ok_q3
  have ok_q8 := hE44 _ _ ok_q8
  have ok_q10 := hE44 _ _ ok_q10
  have ok_q15 := hE44 _ _ ok_q15
  have ok_q17 := hE44 _ _ ok_q17
  have ok_q22 := hE44 _ _ ok_q22
  have ok_q24 := hE44 _ _ ok_q24
  have ok_q29 := hE44 _ _ ok_q29
  have ok_q31 := hE44 _ _ ok_q31
  have ok_q36 := hE44 _ _ ok_q36
  have ok_q38 := hE44 _ _ ok_q38
  have hE := hE.tr hE44
  refine lv_aload_n hx hb dX8_copyFrom_98 rfl (lv_at hl 0 rfl) ?_
  refine lv_aload_n hx hb dX8_copyFrom_99 rfl (lv_at hl 1 rfl) ?_
  refine gf_RX8_49 hC hR ok_a1 dX8_copyFrom_100 ?_
  refine pf_RX8_49 hC hR hS ok_this dX8_copyFrom_103 hf (fun S45 H locs hf hR hS hE46 => ?_)
  have ok_this := hE46 _ _ ok_this
  have ok_a1 := hE46 _ _ ok_a1
  have ok_q1 := hE46 _ _ ok_q1
  have ok_q3 := hE46 _ _ ok_q3
  have ok_q8 := hE46 _ _ ok_q8
  have ok_q10 := hE46 _ _ ok_q10
  have ok_q15 := hE46 _ _ ok_q15
  have ok_q17 := hE46 _ _ ok_q17
  have ok_q22 := hE46 _ _ ok_q22
  have ok_q24 := hE46 _ _ ok_q24
  have ok_q29 := hE46 _ _ ok_q29
  have ok_q31 := hE46 _ _ ok_q31
  have ok_q36 := hE46 _ _ ok_q36
  have ok_q38 := hE46 _ _ ok_q38
  have hE := hE.tr hE46
  refine lv_aload_n hx hb dX8_copyFrom_106 rfl (lv_at hl 0 rfl) ?_
  refine lv_aload_n hx hb dX8_copyFrom_107 rfl (lv_at hl 1 rfl) ?_
  refine gf_RX8_30 hC hR ok_a1 dX8_copyFrom_108 ?_
  refine pf_RX8_30 hC hR hS ok_this dX8_copyFrom_111 hf (fun S47 H locs hf hR hS hE48 => ?_)
  have ok_this := hE48 _ _ ok_this
  have ok_a1 := hE48 _ _ ok_a1
  have ok_q1 := hE48 _ _ ok_q1
  have ok_q3 := hE48 _ _ ok_q3
  have ok_q8 := hE48 _ _ ok_q8
  have ok_q10 := hE48 _ _ ok_q10
  have ok_q15 := hE48 _ _ ok_q15
  have ok_q17 := hE48 _ _ ok_q17
  have ok_q22 := hE48 _ _ ok_q22
  have ok_q24 := hE48 _ _ ok_q24
  have ok_q29 := hE48 _ _ ok_q29
  have ok_q31 := hE48 _ _ ok_q31
  have ok_q36 := hE48 _ _ ok_q36
  have ok_q38 := hE48 _ _ ok_q38
  have hE := hE.tr hE48
  exact r_vret hC hR hS hE hf dX8_copyFrom_114
abbrev rX8_addWind : Room := { frames := 0, cells := 0, slots := 0, locals := 0 }
def f_X8_addWind (_n : Nat) (this : Nat) (a1 : Int32) (a2 : Int32) (a3 : Int32) (a4 : Int32) (S : MS) : Option (Int32 × MS) :=
  (if a1 < (-1 : Int32) then some ((-1 : Int32), S) else (if (1 : Int32) < a1 then some ((-1 : Int32), S) else (if a2 < (-1 : Int32) then some ((-1 : Int32), S) else (if (1 : Int32) < a2 then some ((-1 : Int32), S) else (if (mI S this 6) < (6 : Int32) then (if a3 < 0 then some ((-1 : Int32), S) else (if (99 : Int32) < a3 then some ((-1 : Int32), S) else (if a4 < 0 then some ((-1 : Int32), S) else (if a4 ≤ (9 : Int32) then bd (mI S this 6) fun x1 => bd (sI S this 6 ((mI S this 6) + (1 : Int32))) fun S2 => gR S2 (mR S2 this 0) 12 fun q4 => ck (inb x1 (mN S2 q4)) (bd (sI S2 q4 x1.toNatClampNeg a1) fun S7 => gR S7 (mR S7 this 1) 12 fun q9 => ck (inb x1 (mN S7 q9)) (bd (sI S7 q9 x1.toNatClampNeg a2) fun S12 => gR S12 (mR S12 this 2) 12 fun q14 => ck (inb x1 (mN S12 q14)) (bd (sI S12 q14 x1.toNatClampNeg a3) fun S17 => gR S17 (mR S17 this 3) 12 fun q19 => ck (inb x1 (mN S17 q19)) (bd (sI S17 q19 x1.toNatClampNeg a4) fun S22 => some (x1, S22))))) else some ((-1 : Int32), S))))) else some ((-1 : Int32), S))))))
set_option maxRecDepth 100000 in
set_option maxHeartbeats 4000000 in
theorem c_X8_addWind (l : Launch) (G : Gx) (n : Nat) (this : Nat) (a1 : Int32) (a2 : Int32) (a3 : Int32) (a4 : Int32) (S : MS) (ro : Int32) (So : MS) (hf : f_X8_addWind n this a1 a2 a3 a4 S = some (ro, So)) (ok_this : Ok S this 8) : Cn G l yX8_addWind cX8_addWind 6 (some .int) rX8_addWind [.ref this, .int a1, .int a2, .int a3, .int a4] S (some (.int ro)) So := by
  refine Cn.of (by decide) (Nat.le_of_ble_eq_true rfl) ?_
  intro p e s m args below meth c hC hname hR ls hl
  have hC : Cx G RX8 cX8_addWind 6 (some .int) p s m args meth c := hC
  have hl : lv_has ls 6 [(0, .ref this), (1, .int a1), (2, .int a2), (3, .int a3), (4, .int a4)] := hl
  have hx := hC.x
  have hb := hC.b
  have hS : va_S (gA G) s.heap s.heap [] := va_S.rf
  have hE : Ex S S := Ex.rf S
  unfold f_X8_addWind at hf
  refine lv_iload_n hx hb dX8_addWind_0 rfl (lv_at hl 1 rfl) ?_
  refine lv_iconst (v := -1) hx hb dX8_addWind_1 (by decide) ?_
  refine lv_icmp_lt (tgt := 29) hx hb dX8_addWind_2 (by decide) (fun hc => ?_) (fun hc => ?_)
  · replace hf := if_t hf hc
    refine lv_iconst (v := -1) hx hb dX8_addWind_29 (by decide) ?_
    exact r_iret hC hR hS hE hf dX8_addWind_30
  · replace hf := if_f hf hc
    refine lv_iload_n hx hb dX8_addWind_5 rfl (lv_at hl 1 rfl) ?_
    refine lv_iconst (v := 1) hx hb dX8_addWind_6 (by decide) ?_
    refine lv_icmp_gt (tgt := 29) hx hb dX8_addWind_7 (by decide) (fun hc => ?_) (fun hc => ?_)
    · replace hf := if_t hf hc
      refine lv_iconst (v := -1) hx hb dX8_addWind_29 (by decide) ?_
      exact r_iret hC hR hS hE hf dX8_addWind_30
    · replace hf := if_f hf hc
      refine lv_iload_n hx hb dX8_addWind_10 rfl (lv_at hl 2 rfl) ?_
      refine lv_iconst (v := -1) hx hb dX8_addWind_11 (by decide) ?_
      refine lv_icmp_lt (tgt := 29) hx hb dX8_addWind_12 (by decide) (fun hc => ?_) (fun hc => ?_)
      · replace hf := if_t hf hc
        refine lv_iconst (v := -1) hx hb dX8_addWind_29 (by decide) ?_
        exact r_iret hC hR hS hE hf dX8_addWind_30
      · replace hf := if_f hf hc
        refine lv_iload_n hx hb dX8_addWind_15 rfl (lv_at hl 2 rfl) ?_
        refine lv_iconst (v := 1) hx hb dX8_addWind_16 (by decide) ?_
        refine lv_icmp_gt (tgt := 29) hx hb dX8_addWind_17 (by decide) (fun hc => ?_) (fun hc => ?_)
        · replace hf := if_t hf hc
          refine lv_iconst (v := -1) hx hb dX8_addWind_29 (by decide) ?_
          exact r_iret hC hR hS hE hf dX8_addWind_30
        · replace hf := if_f hf hc
          refine lv_aload_n hx hb dX8_addWind_20 rfl (lv_at hl 0 rfl) ?_
          refine gf_RX8_46 hC hR ok_this dX8_addWind_21 ?_
          refine lv_bipush (v := 6) hx hb dX8_addWind_24 (by decide) ?_
          refine lv_icmp_lt (tgt := 31) hx hb dX8_addWind_26 (by decide) (fun hc => ?_) (fun hc => ?_)
          · replace hf := if_t hf hc
            refine lv_iload_n hx hb dX8_addWind_31 rfl (lv_at hl 3 rfl) ?_
            refine lv_if_lt (tgt := 53) hx hb dX8_addWind_32 (by decide) (fun hc => ?_) (fun hc => ?_)
            · replace hf := if_t hf hc
              refine lv_iconst (v := -1) hx hb dX8_addWind_53 (by decide) ?_
              exact r_iret hC hR hS hE hf dX8_addWind_54
            · replace hf := if_f hf hc
              refine lv_iload_n hx hb dX8_addWind_35 rfl (lv_at hl 3 rfl) ?_
              refine lv_bipush (v := 99) hx hb dX8_addWind_36 (by decide) ?_
              refine lv_icmp_gt (tgt := 53) hx hb dX8_addWind_38 (by decide) (fun hc => ?_) (fun hc => ?_)
              · replace hf := if_t hf hc
                refine lv_iconst (v := -1) hx hb dX8_addWind_53 (by decide) ?_
                exact r_iret hC hR hS hE hf dX8_addWind_54
              · replace hf := if_f hf hc
                refine lv_iload hx hb dX8_addWind_41 (lv_at hl 4 rfl) ?_
                refine lv_if_lt (tgt := 53) hx hb dX8_addWind_43 (by decide) (fun hc => ?_) (fun hc => ?_)
                · replace hf := if_t hf hc
                  refine lv_iconst (v := -1) hx hb dX8_addWind_53 (by decide) ?_
                  exact r_iret hC hR hS hE hf dX8_addWind_54
                · replace hf := if_f hf hc
                  refine lv_iload hx hb dX8_addWind_46 (lv_at hl 4 rfl) ?_
                  refine lv_bipush (v := 9) hx hb dX8_addWind_48 (by decide) ?_
                  refine lv_icmp_le (tgt := 55) hx hb dX8_addWind_50 (by decide) (fun hc => ?_) (fun hc => ?_)
                  · replace hf := if_t hf hc
                    refine lv_aload_n hx hb dX8_addWind_55 rfl (lv_at hl 0 rfl) ?_
                    refine gf_RX8_46 hC hR ok_this dX8_addWind_56 ?_
                    refine bdi hf (fun x1 hf => ?_)
                    refine lv_istore (lv' := [(5, .int x1), (0, .ref this), (1, .int a1), (2, .int a2), (3, .int a3), (4, .int a4)]) hx hb dX8_addWind_59 hl (by decide) rfl (fun ls hl => ?_)
                    refine lv_aload_n hx hb dX8_addWind_61 rfl (lv_at hl 1 rfl) ?_
                    refine lv_dup hx hb dX8_addWind_62 rfl ?_
                    refine gf_RX8_46 hC hR ok_this dX8_addWind_63 ?_
                    refine lv_iconst (v := 1) hx hb dX8_addWind_66 (by decide) ?_
                    refine lv_iadd hx hb dX8_addWind_67 ?_
                    refine pf_RX8_46 hC hR hS ok_this dX8_addWind_68 hf (fun S2 H locs hf hR hS hE3 => ?_)
                    have ok_this := hE3 _ _ ok_this
                    have hE := hE.tr hE3
                    refine lv_aload_n hx hb dX8_addWind_71 rfl (lv_at hl 1 rfl) ?_
                    obtain ⟨q4, hq5, ok_q4, hf⟩ := gR_of hf
                    refine gf_RX8_9 hC hR ok_this hq5 dX8_addWind_72 ?_
                    refine lv_iload hx hb dX8_addWind_75 (lv_at hl 0 rfl) ?_
                    refine lv_iload_n hx hb dX8_addWind_77 rfl (lv_at hl 2 rfl) ?_
                    obtain ⟨hi6, hf⟩ := ck_of hf
                    refine rB_iast hC hR hS ok_q4 hi6 dX8_addWind_78 hf (fun S7 H locs hf hR hS hE8 => ?_)
                    have ok_this := hE8 _ _ ok_this
                    have ok_q4 := hE8 _ _ ok_q4
                    have hE := hE.tr hE8
                    refine lv_aload_n hx hb dX8_addWind_79 rfl (lv_at hl 1 rfl) ?_
                    obtain ⟨q9, hq10, ok_q9, hf⟩ := gR_of hf
                    refine gf_RX8_15 hC hR ok_this hq10 dX8_addWind_80 ?_
                    refine lv_iload hx hb dX8_addWind_83 (lv_at hl 0 rfl) ?_
                    refine lv_iload_n hx hb dX8_addWind_85 rfl (lv_at hl 3 rfl) ?_
                    obtain ⟨hi11, hf⟩ := ck_of hf
                    refine rB_iast hC hR hS ok_q9 hi11 dX8_addWind_86 hf (fun S12 H locs hf hR hS hE13 => ?_)
                    have ok_this := hE13 _ _ ok_this
                    have ok_q4 := hE13 _ _ ok_q4
                    have ok_q9 := hE13 _ _ ok_q9
                    have hE := hE.tr hE13
                    refine lv_aload_n hx hb dX8_addWind_87 rfl (lv_at hl 1 rfl) ?_
                    obtain ⟨q14, hq15, ok_q14, hf⟩ := gR_of hf
                    refine gf_RX8_18 hC hR ok_this hq15 dX8_addWind_88 ?_
                    refine lv_iload hx hb dX8_addWind_91 (lv_at hl 0 rfl) ?_
                    refine lv_iload_n hx hb dX8_addWind_93 rfl (lv_at hl 4 rfl) ?_
                    obtain ⟨hi16, hf⟩ := ck_of hf
                    refine rB_iast hC hR hS ok_q14 hi16 dX8_addWind_94 hf (fun S17 H locs hf hR hS hE18 => ?_)
                    have ok_this := hE18 _ _ ok_this
                    have ok_q4 := hE18 _ _ ok_q4
                    have ok_q9 := hE18 _ _ ok_q9
                    have ok_q14 := hE18 _ _ ok_q14
                    have hE := hE.tr hE18
                    refine lv_aload_n hx hb dX8_addWind_95 rfl (lv_at hl 1 rfl) ?_
                    obtain ⟨q19, hq20, ok_q19, hf⟩ := gR_of hf
                    refine gf_RX8_21 hC hR ok_this hq20 dX8_addWind_96 ?_
                    refine lv_iload hx hb dX8_addWind_99 (lv_at hl 0 rfl) ?_
                    refine lv_iload hx hb dX8_addWind_101 (lv_at hl 5 rfl) ?_
                    obtain ⟨hi21, hf⟩ := ck_of hf
                    refine rB_iast hC hR hS ok_q19 hi21 dX8_addWind_103 hf (fun S22 H locs hf hR hS hE23 => ?_)
                    have ok_this := hE23 _ _ ok_this
                    have ok_q4 := hE23 _ _ ok_q4
                    have ok_q9 := hE23 _ _ ok_q9
                    have ok_q14 := hE23 _ _ ok_q14
                    have ok_q19 := hE23 _ _ ok_q19
                    have hE := hE.tr hE23
                    refine lv_iload hx hb dX8_addWind_104 (lv_at hl 0 rfl) ?_
                    exact r_iret hC hR hS hE hf dX8_addWind_106
                  · replace hf := if_f hf hc
                    refine lv_iconst (v := -1) hx hb dX8_addWind_53 (by decide) ?_
                    exact r_iret hC hR hS hE hf dX8_addWind_54
          · replace hf := if_f hf hc
            refine lv_iconst (v := -1) hx hb dX8_addWind_29 (by decide) ?_
            exact r_iret hC hR hS hE hf dX8_addWind_30
abbrev rX8_windAt : Room := { frames := 0, cells := 0, slots := 0, locals := 0 }
def f_X8_windAt_L4 (n : Nat) (this : Nat) (a1 : Int32) : Nat → Int32 → Int32 → MS → Option (Int32 × MS)
  | 0, _, _, _ => none
  | k + 1, x3, x4, S5 => jn (f_X8_windAt_L4 n this a1 k) fun rec4_2 => (if (mI S5 this 6) ≤ x4 then some ((0 : Int32), S5) else gR S5 (mR S5 this 3) 12 fun q6 => ck (inb x4 (mN S5 q6)) (bd (x3 + (mI S5 q6 x4.toNatClampNeg)) fun x9 => (if x9 ≤ a1 then bd (x4 + (1 : Int32)) fun x10 => rec4_2 x9 x10 S5 else some (x4, S5))))
def f_X8_windAt (n : Nat) (this : Nat) (a1 : Int32) (S : MS) : Option (Int32 × MS) :=
  f_X8_windAt_L4 n this a1 n (0 : Int32) (0 : Int32) S
set_option maxRecDepth 100000 in
set_option maxHeartbeats 4000000 in
theorem c_X8_windAt (l : Launch) (G : Gx) (n : Nat) (this : Nat) (a1 : Int32) (S : MS) (ro : Int32) (So : MS) (hf : f_X8_windAt n this a1 S = some (ro, So)) (ok_this : Ok S this 8) : Cn G l yX8_windAt cX8_windAt 4 (some .int) rX8_windAt [.ref this, .int a1] S (some (.int ro)) So := by
  refine Cn.of (by decide) (Nat.le_of_ble_eq_true rfl) ?_
  intro p e s m args below meth c hC hname hR ls hl
  have hC : Cx G RX8 cX8_windAt 4 (some .int) p s m args meth c := hC
  have hl : lv_has ls 4 [(0, .ref this), (1, .int a1)] := hl
  have hx := hC.x
  have hb := hC.b
  have hS : va_S (gA G) s.heap s.heap [] := va_S.rf
  have hE : Ex S S := Ex.rf S
  unfold f_X8_windAt at hf
  refine lv_iconst (v := 0) hx hb dX8_windAt_0 (by decide) ?_
  refine lv_istore_n (lv' := [(2, .int (0 : Int32)), (0, .ref this), (1, .int a1)]) hx hb dX8_windAt_1 rfl hl (by decide) rfl (fun ls hl => ?_)
  refine lv_iconst (v := 0) hx hb dX8_windAt_2 (by decide) ?_
  refine lv_istore_n (lv' := [(3, .int (0 : Int32)), (2, .int (0 : Int32)), (0, .ref this), (1, .int a1)]) hx hb dX8_windAt_3 rfl hl (by decide) rfl (fun ls hl => ?_)
  have hh11 : ∀ k : Nat, ∀ (x3 : Int32) (x4 : Int32) (S5 : MS) (H : Heap) (locs : List Loc) (ls : Array Slot), f_X8_windAt_L4 n this a1 k x3 x4 S5 = some (ro, So) → Rp G S5 H → va_S (gA G) s.heap H locs → Ex S S5 → Ok S5 this 8 → lv_has ls 4 [(0, .ref this), (1, .int a1), (2, .int x3), (3, .int x4)] → W p l e rX8_windAt s m args below meth c H locs 0 0 (MQ below (Qn G S (some (.int ro)) So) args s 0 0 (gA G)) (F0 m 4 ls []) := by
    intro k
    induction k with
    | zero =>
      intro x3 x4 S5 H locs ls hf hR hS hE ok_this hl
      exact absurd hf (by rw [f_X8_windAt_L4]; exact fun h => by cases h)
    | succ k ih =>
      intro x3 x4 S5 H locs ls hf hR hS hE ok_this hl
      rw [f_X8_windAt_L4] at hf
      obtain ⟨rec4_2, erec4_2, hf⟩ := jn_of3 hf
      have hL4_1 : ∀ (x3 : Int32) (x4 : Int32) (S5 : MS) (H : Heap) (locs : List Loc) (ls : Array Slot), rec4_2 x3 x4 S5 = some (ro, So) → Rp G S5 H → va_S (gA G) s.heap H locs → Ex S S5 → Ok S5 this 8 → lv_has ls 4 [(0, .ref this), (1, .int a1), (2, .int x3), (3, .int x4)] → W p l e rX8_windAt s m args below meth c H locs 0 0 (MQ below (Qn G S (some (.int ro)) So) args s 0 0 (gA G)) (F0 m 4 ls []) := by
        intro x3 x4 S5 H locs ls hf hR hS hE ok_this hl
        rw [erec4_2] at hf
        exact ih x3 x4 S5 _ _ _ hf hR hS hE ok_this hl
      refine lv_iload_n hx hb dX8_windAt_4 rfl (lv_at hl 3 rfl) ?_
      refine lv_aload_n hx hb dX8_windAt_5 rfl (lv_at hl 0 rfl) ?_
      refine gf_RX8_46 hC hR ok_this dX8_windAt_6 ?_
      refine lv_icmp_ge (tgt := 34) hx hb dX8_windAt_9 (by decide) (fun hc => ?_) (fun hc => ?_)
      · replace hf := if_t hf hc
        refine lv_iconst (v := 0) hx hb dX8_windAt_34 (by decide) ?_
        exact r_iret hC hR hS hE hf dX8_windAt_35
      · replace hf := if_f hf hc
        refine lv_iload_n hx hb dX8_windAt_12 rfl (lv_at hl 2 rfl) ?_
        refine lv_aload_n hx hb dX8_windAt_13 rfl (lv_at hl 0 rfl) ?_
        obtain ⟨q6, hq7, ok_q6, hf⟩ := gR_of hf
        refine gf_RX8_21 hC hR ok_this hq7 dX8_windAt_14 ?_
        refine lv_iload_n hx hb dX8_windAt_17 rfl (lv_at hl 3 rfl) ?_
        obtain ⟨hi8, hf⟩ := ck_of hf
        refine r_iald hC hR ok_q6 hi8 dX8_windAt_18 ?_
        refine lv_iadd hx hb dX8_windAt_19 ?_
        refine bdi hf (fun x9 hf => ?_)
        refine lv_istore_n (lv' := [(2, .int x9), (0, .ref this), (1, .int a1), (3, .int x4)]) hx hb dX8_windAt_20 rfl hl (by decide) rfl (fun ls hl => ?_)
        refine lv_iload_n hx hb dX8_windAt_21 rfl (lv_at hl 2 rfl) ?_
        refine lv_iload_n hx hb dX8_windAt_22 rfl (lv_at hl 0 rfl) ?_
        refine lv_icmp_ge (tgt := 28) hx hb dX8_windAt_23 (by decide) (fun hc => ?_) (fun hc => ?_)
        · replace hf := if_t hf hc
          refine r_iinc (n := 1) (z := 1) (lv' := fun x10 => [(3, .int x10), (2, .int x9), (0, .ref this), (1, .int a1)]) hx hb dX8_windAt_28 hl (k := 3) rfl (by decide) (by decide) (fun _ => rfl) hf (fun x10 ls hf hl => ?_)
          refine lv_goto (tgt := 4) hx hb dX8_windAt_31 (by decide) ?_
          exact hL4_1 x9 x10 S5 _ _ _ hf hR hS hE ok_this (lv_sub hl [2, 3, 1, 0] rfl)
        · replace hf := if_f hf hc
          refine lv_iload_n hx hb dX8_windAt_26 rfl (lv_at hl 3 rfl) ?_
          exact r_iret hC hR hS hE hf dX8_windAt_27
  exact hh11 n (0 : Int32) (0 : Int32) S _ _ _ hf hR hS hE ok_this (lv_sub hl [2, 3, 1, 0] rfl)
abbrev rX10_bone : Room := { frames := 3, cells := 0, slots := 0, locals := 65 }
def f_X10_bone (n : Nat) (this : Nat) (a1 : Int32) (a2 : Int32) (S : MS) : Option (Int32 × MS) :=
  gR S (mR S this 1) 3 fun q1 => cl (f_X3_addBone n q1 a1 a2 S) fun x6 S3 => some (x6, S3)
set_option maxRecDepth 100000 in
set_option maxHeartbeats 4000000 in
theorem c_X10_bone (l : Launch) (G : Gx) (n : Nat) (this : Nat) (a1 : Int32) (a2 : Int32) (S : MS) (ro : Int32) (So : MS) (hf : f_X10_bone n this a1 a2 S = some (ro, So)) (ok_this : Ok S this 10) : Cn G l yX10_bone cX10_bone 3 (some .int) rX10_bone [.ref this, .int a1, .int a2] S (some (.int ro)) So := by
  refine Cn.of (by decide) (Nat.le_of_ble_eq_true rfl) ?_
  intro p e s m args below meth c hC hname hR ls hl
  have hC : Cx G RX10 cX10_bone 3 (some .int) p s m args meth c := hC
  have hl : lv_has ls 3 [(0, .ref this), (1, .int a1), (2, .int a2)] := hl
  have hx := hC.x
  have hb := hC.b
  have hS : va_S (gA G) s.heap s.heap [] := va_S.rf
  have hE : Ex S S := Ex.rf S
  unfold f_X10_bone at hf
  refine lv_aload_n hx hb dX10_bone_0 rfl (lv_at hl 0 rfl) ?_
  obtain ⟨q1, hq2, ok_q1, hf⟩ := gR_of hf
  refine gf_RX10_78 hC hR ok_this hq2 dX10_bone_1 ?_
  refine lv_iload_n hx hb dX10_bone_4 rfl (lv_at hl 1 rfl) ?_
  refine lv_iload_n hx hb dX10_bone_5 rfl (lv_at hl 2 rfl) ?_
  obtain ⟨x6, S3, hc4, hf⟩ := cl_of hf
  refine cl_RX10_94 (As := [.int a1, .int a2]) (rest := []) hC hR hS (c_X3_addBone l G n q1 a1 a2 S x6 S3 hc4 ok_q1) ok_q1 rfl ⟨Nat.le_of_ble_eq_true rfl, Nat.le_of_ble_eq_true rfl⟩ hl.1 rfl (Nat.le_of_ble_eq_true rfl) dX10_bone_6 (Nat.zero_le _) (Nat.zero_le _) (fun H locs hR hS hE5 => ?_)
  have ok_this := hE5 _ _ ok_this
  have ok_q1 := hE5 _ _ ok_q1
  have hE := hE.tr hE5
  exact r_iret hC hR hS hE hf dX10_bone_9
abbrev rX10_stake : Room := { frames := 2, cells := 0, slots := 0, locals := 44 }
def f_X10_stake (n : Nat) (this : Nat) (a1 : Int32) (a2 : Int32) (S : MS) : Option (Int32 × MS) :=
  gR S (mR S this 1) 3 fun q1 => cl (f_X3_setStake n q1 a1 a2 S) fun x6 S3 => zb x6 (some (x6, S3))
set_option maxRecDepth 100000 in
set_option maxHeartbeats 4000000 in
theorem c_X10_stake (l : Launch) (G : Gx) (n : Nat) (this : Nat) (a1 : Int32) (a2 : Int32) (S : MS) (ro : Int32) (So : MS) (hf : f_X10_stake n this a1 a2 S = some (ro, So)) (ok_this : Ok S this 10) : Cn G l yX10_stake cX10_stake 3 (some .boolean) rX10_stake [.ref this, .int a1, .int a2] S (some (.int ro)) So := by
  refine Cn.of (by decide) (Nat.le_of_ble_eq_true rfl) ?_
  intro p e s m args below meth c hC hname hR ls hl
  have hC : Cx G RX10 cX10_stake 3 (some .boolean) p s m args meth c := hC
  have hl : lv_has ls 3 [(0, .ref this), (1, .int a1), (2, .int a2)] := hl
  have hx := hC.x
  have hb := hC.b
  have hS : va_S (gA G) s.heap s.heap [] := va_S.rf
  have hE : Ex S S := Ex.rf S
  unfold f_X10_stake at hf
  refine lv_aload_n hx hb dX10_stake_0 rfl (lv_at hl 0 rfl) ?_
  obtain ⟨q1, hq2, ok_q1, hf⟩ := gR_of hf
  refine gf_RX10_78 hC hR ok_this hq2 dX10_stake_1 ?_
  refine lv_iload_n hx hb dX10_stake_4 rfl (lv_at hl 1 rfl) ?_
  refine lv_iload_n hx hb dX10_stake_5 rfl (lv_at hl 2 rfl) ?_
  obtain ⟨x6, S3, hc4, hf⟩ := cl_of hf
  refine cl_RX10_97 (As := [.int a1, .int a2]) (rest := []) hC hR hS (c_X3_setStake l G n q1 a1 a2 S x6 S3 hc4 ok_q1) ok_q1 rfl ⟨Nat.le_of_ble_eq_true rfl, Nat.le_of_ble_eq_true rfl⟩ hl.1 rfl (Nat.le_of_ble_eq_true rfl) dX10_stake_6 (Nat.zero_le _) (Nat.zero_le _) (fun H locs hR hS hE5 => ?_)
  have ok_this := hE5 _ _ ok_this
  have ok_q1 := hE5 _ _ ok_q1
  have hE := hE.tr hE5
  exact r_zret hC hR hS hE hf dX10_stake_9
abbrev rX10_well : Room := { frames := 1, cells := 0, slots := 0, locals := 21 }
def f_X10_well (n : Nat) (this : Nat) (a1 : Int32) (a2 : Int32) (S : MS) : Option (Int32 × MS) :=
  gR S (mR S this 0) 1 fun q1 => cl (f_X1_holds n q1 a1 S) fun x6 S3 => (if x6 = 0 then zb (0 : Int32) (some ((0 : Int32), S3)) else bd (lsh (1 : Int64) a1) fun x7 => gR S3 (mR S3 this 1) 3 fun q8 => (if a2 = 0 then gR S3 (mR S3 this 1) 3 fun q10 => bd (sJ S3 q8 9 ((mJ S3 q10 9) &&& (x7 ^^^ (-1 : Int64)))) fun S12 => zb (1 : Int32) (some ((1 : Int32), S12)) else gR S3 (mR S3 this 1) 3 fun q14 => bd (sJ S3 q8 9 ((mJ S3 q14 9) ||| x7)) fun S16 => zb (1 : Int32) (some ((1 : Int32), S16))))
set_option maxRecDepth 100000 in
set_option maxHeartbeats 4000000 in
theorem c_X10_well (l : Launch) (G : Gx) (n : Nat) (this : Nat) (a1 : Int32) (a2 : Int32) (S : MS) (ro : Int32) (So : MS) (hf : f_X10_well n this a1 a2 S = some (ro, So)) (ok_this : Ok S this 10) : Cn G l yX10_well cX10_well 5 (some .boolean) rX10_well [.ref this, .int a1, .int a2] S (some (.int ro)) So := by
  refine Cn.of (by decide) (Nat.le_of_ble_eq_true rfl) ?_
  intro p e s m args below meth c hC hname hR ls hl
  have hC : Cx G RX10 cX10_well 5 (some .boolean) p s m args meth c := hC
  have hl : lv_has ls 5 [(0, .ref this), (1, .int a1), (2, .int a2)] := hl
  have hx := hC.x
  have hb := hC.b
  have hS : va_S (gA G) s.heap s.heap [] := va_S.rf
  have hE : Ex S S := Ex.rf S
  unfold f_X10_well at hf
  refine lv_aload_n hx hb dX10_well_0 rfl (lv_at hl 0 rfl) ?_
  obtain ⟨q1, hq2, ok_q1, hf⟩ := gR_of hf
  refine gf_RX10_69 hC hR ok_this hq2 dX10_well_1 ?_
  refine lv_iload_n hx hb dX10_well_4 rfl (lv_at hl 1 rfl) ?_
  obtain ⟨x6, S3, hc4, hf⟩ := cl_of hf
  refine cl_RX10_101 (As := [.int a1]) (rest := []) hC hR hS (c_X1_holds l G n q1 a1 S x6 S3 hc4 ok_q1) ok_q1 rfl ⟨Nat.le_of_ble_eq_true rfl, Nat.le_of_ble_eq_true rfl⟩ hl.1 rfl (Nat.le_of_ble_eq_true rfl) dX10_well_5 (Nat.zero_le _) (Nat.zero_le _) (fun H locs hR hS hE5 => ?_)
  have ok_this := hE5 _ _ ok_this
  have ok_q1 := hE5 _ _ ok_q1
  have hE := hE.tr hE5
  refine lv_if_ne (tgt := 13) hx hb dX10_well_8 (by decide) (fun hc => ?_) (fun hc => ?_)
  · replace hf := if_f hf hc
    refine lv_lconst (v := 1) hx hb dX10_well_13 (by decide) ?_
    refine lv_iload_n hx hb dX10_well_14 rfl (lv_at hl 1 rfl) ?_
    refine lv_lshl (v := (lsh (1 : Int64) a1)) hx hb dX10_well_15 rfl ?_
    refine bdl hf (fun x7 hf => ?_)
    refine lv_lstore_n (lv' := [(3, .long x7), (0, .ref this), (1, .int a1), (2, .int a2)]) hx hb dX10_well_16 rfl hl (by decide) rfl (fun ls hl => ?_)
    refine lv_aload_n hx hb dX10_well_17 rfl (lv_at hl 1 rfl) ?_
    obtain ⟨q8, hq9, ok_q8, hf⟩ := gR_of hf
    refine gf_RX10_78 hC hR ok_this hq9 dX10_well_18 ?_
    refine lv_iload_n hx hb dX10_well_21 rfl (lv_at hl 3 rfl) ?_
    refine lv_if_eq (tgt := 37) hx hb dX10_well_22 (by decide) (fun hc => ?_) (fun hc => ?_)
    · replace hf := if_t hf hc
      refine lv_aload_n hx hb dX10_well_37 rfl (lv_at hl 1 rfl) ?_
      obtain ⟨q10, hq11, ok_q10, hf⟩ := gR_of hf
      refine gf_RX10_78 hC hR ok_this hq11 dX10_well_38 ?_
      refine gf_RX10_105 hC hR ok_q10 dX10_well_41 ?_
      refine lv_lload_n hx hb dX10_well_44 rfl (lv_at hl 0 rfl) ?_
      refine lv_ldc2 (v := -1) hx hb hC.ow (hC.ts _ (bg10 _ (List.mem_of_getElem? (i := 23) rfl))) dX10_well_45 ?_
      refine lv_lxor hx hb dX10_well_48 ?_
      refine lv_land hx hb dX10_well_49 ?_
      refine pf_RX10_105 hC hR hS ok_q8 dX10_well_50 hf (fun S12 H locs hf hR hS hE13 => ?_)
      have ok_this := hE13 _ _ ok_this
      have ok_q1 := hE13 _ _ ok_q1
      have ok_q8 := hE13 _ _ ok_q8
      have ok_q10 := hE13 _ _ ok_q10
      have hE := hE.tr hE13
      refine lv_iconst (v := 1) hx hb dX10_well_53 (by decide) ?_
      exact r_zret hC hR hS hE hf dX10_well_54
    · replace hf := if_f hf hc
      refine lv_aload_n hx hb dX10_well_25 rfl (lv_at hl 1 rfl) ?_
      obtain ⟨q14, hq15, ok_q14, hf⟩ := gR_of hf
      refine gf_RX10_78 hC hR ok_this hq15 dX10_well_26 ?_
      refine gf_RX10_105 hC hR ok_q14 dX10_well_29 ?_
      refine lv_lload_n hx hb dX10_well_32 rfl (lv_at hl 0 rfl) ?_
      refine lv_lor hx hb dX10_well_33 ?_
      refine lv_goto (tgt := 50) hx hb dX10_well_34 (by decide) ?_
      refine pf_RX10_105 hC hR hS ok_q8 dX10_well_50 hf (fun S16 H locs hf hR hS hE17 => ?_)
      have ok_this := hE17 _ _ ok_this
      have ok_q1 := hE17 _ _ ok_q1
      have ok_q8 := hE17 _ _ ok_q8
      have ok_q14 := hE17 _ _ ok_q14
      have hE := hE.tr hE17
      refine lv_iconst (v := 1) hx hb dX10_well_53 (by decide) ?_
      exact r_zret hC hR hS hE hf dX10_well_54
  · replace hf := if_t hf hc
    refine lv_iconst (v := 0) hx hb dX10_well_11 (by decide) ?_
    exact r_zret hC hR hS hE hf dX10_well_12
abbrev rX10_wind : Room := { frames := 1, cells := 0, slots := 0, locals := 25 }
def f_X10_wind (n : Nat) (this : Nat) (a1 : Int32) (a2 : Int32) (a3 : Int32) (a4 : Int32) (S : MS) : Option (Int32 × MS) :=
  gR S (mR S this 3) 8 fun q1 => cl (f_X8_addWind n q1 a1 a2 a3 a4 S) fun x6 S3 => some (x6, S3)
set_option maxRecDepth 100000 in
set_option maxHeartbeats 4000000 in
theorem c_X10_wind (l : Launch) (G : Gx) (n : Nat) (this : Nat) (a1 : Int32) (a2 : Int32) (a3 : Int32) (a4 : Int32) (S : MS) (ro : Int32) (So : MS) (hf : f_X10_wind n this a1 a2 a3 a4 S = some (ro, So)) (ok_this : Ok S this 10) : Cn G l yX10_wind cX10_wind 5 (some .int) rX10_wind [.ref this, .int a1, .int a2, .int a3, .int a4] S (some (.int ro)) So := by
  refine Cn.of (by decide) (Nat.le_of_ble_eq_true rfl) ?_
  intro p e s m args below meth c hC hname hR ls hl
  have hC : Cx G RX10 cX10_wind 5 (some .int) p s m args meth c := hC
  have hl : lv_has ls 5 [(0, .ref this), (1, .int a1), (2, .int a2), (3, .int a3), (4, .int a4)] := hl
  have hx := hC.x
  have hb := hC.b
  have hS : va_S (gA G) s.heap s.heap [] := va_S.rf
  have hE : Ex S S := Ex.rf S
  unfold f_X10_wind at hf
  refine lv_aload_n hx hb dX10_wind_0 rfl (lv_at hl 0 rfl) ?_
  obtain ⟨q1, hq2, ok_q1, hf⟩ := gR_of hf
  refine gf_RX10_10 hC hR ok_this hq2 dX10_wind_1 ?_
  refine lv_iload_n hx hb dX10_wind_4 rfl (lv_at hl 1 rfl) ?_
  refine lv_iload_n hx hb dX10_wind_5 rfl (lv_at hl 2 rfl) ?_
  refine lv_iload_n hx hb dX10_wind_6 rfl (lv_at hl 3 rfl) ?_
  refine lv_iload hx hb dX10_wind_7 (lv_at hl 4 rfl) ?_
  obtain ⟨x6, S3, hc4, hf⟩ := cl_of hf
  refine cl_RX10_111 (As := [.int a1, .int a2, .int a3, .int a4]) (rest := []) hC hR hS (c_X8_addWind l G n q1 a1 a2 a3 a4 S x6 S3 hc4 ok_q1) ok_q1 rfl ⟨Nat.le_of_ble_eq_true rfl, Nat.le_of_ble_eq_true rfl⟩ hl.1 rfl (Nat.le_of_ble_eq_true rfl) dX10_wind_9 (Nat.zero_le _) (Nat.zero_le _) (fun H locs hR hS hE5 => ?_)
  have ok_this := hE5 _ _ ok_this
  have ok_q1 := hE5 _ _ ok_q1
  have hE := hE.tr hE5
  exact r_iret hC hR hS hE hf dX10_wind_12
abbrev rX10_plan : Room := { frames := 1, cells := 0, slots := 0, locals := 21 }
def f_X10_plan (n : Nat) (this : Nat) (a1 : Int32) (a2 : Int32) (S : MS) : Option (Int32 × MS) :=
  (if a1 < 0 then zb (0 : Int32) (some ((0 : Int32), S)) else (if (40 : Int32) ≤ a1 then zb (0 : Int32) (some ((0 : Int32), S)) else gR S (mR S this 3) 8 fun q1 => cl (f_X8_isWind n q1 a2 S) fun x6 S3 => (if x6 = 0 then zb (0 : Int32) (some ((0 : Int32), S3)) else gR S3 (mR S3 this 3) 8 fun q7 => gR S3 (mR S3 q7 4) 12 fun q9 => ck (inb a1 (mN S3 q9)) (bd (sI S3 q9 a1.toNatClampNeg a2) fun S12 => zb (1 : Int32) (some ((1 : Int32), S12))))))
set_option maxRecDepth 100000 in
set_option maxHeartbeats 4000000 in
theorem c_X10_plan (l : Launch) (G : Gx) (n : Nat) (this : Nat) (a1 : Int32) (a2 : Int32) (S : MS) (ro : Int32) (So : MS) (hf : f_X10_plan n this a1 a2 S = some (ro, So)) (ok_this : Ok S this 10) : Cn G l yX10_plan cX10_plan 3 (some .boolean) rX10_plan [.ref this, .int a1, .int a2] S (some (.int ro)) So := by
  refine Cn.of (by decide) (Nat.le_of_ble_eq_true rfl) ?_
  intro p e s m args below meth c hC hname hR ls hl
  have hC : Cx G RX10 cX10_plan 3 (some .boolean) p s m args meth c := hC
  have hl : lv_has ls 3 [(0, .ref this), (1, .int a1), (2, .int a2)] := hl
  have hx := hC.x
  have hb := hC.b
  have hS : va_S (gA G) s.heap s.heap [] := va_S.rf
  have hE : Ex S S := Ex.rf S
  unfold f_X10_plan at hf
  refine lv_iload_n hx hb dX10_plan_0 rfl (lv_at hl 1 rfl) ?_
  refine lv_if_lt (tgt := 21) hx hb dX10_plan_1 (by decide) (fun hc => ?_) (fun hc => ?_)
  · replace hf := if_t hf hc
    refine lv_iconst (v := 0) hx hb dX10_plan_21 (by decide) ?_
    exact r_zret hC hR hS hE hf dX10_plan_22
  · replace hf := if_f hf hc
    refine lv_iload_n hx hb dX10_plan_4 rfl (lv_at hl 1 rfl) ?_
    refine lv_bipush (v := 40) hx hb dX10_plan_5 (by decide) ?_
    refine lv_icmp_ge (tgt := 21) hx hb dX10_plan_7 (by decide) (fun hc => ?_) (fun hc => ?_)
    · replace hf := if_t hf hc
      refine lv_iconst (v := 0) hx hb dX10_plan_21 (by decide) ?_
      exact r_zret hC hR hS hE hf dX10_plan_22
    · replace hf := if_f hf hc
      refine lv_aload_n hx hb dX10_plan_10 rfl (lv_at hl 0 rfl) ?_
      obtain ⟨q1, hq2, ok_q1, hf⟩ := gR_of hf
      refine gf_RX10_10 hC hR ok_this hq2 dX10_plan_11 ?_
      refine lv_iload_n hx hb dX10_plan_14 rfl (lv_at hl 2 rfl) ?_
      obtain ⟨x6, S3, hc4, hf⟩ := cl_of hf
      refine cl_RX10_115 (As := [.int a2]) (rest := []) hC hR hS (c_X8_isWind l G n q1 a2 S x6 S3 hc4 ok_q1) ok_q1 rfl ⟨Nat.le_of_ble_eq_true rfl, Nat.le_of_ble_eq_true rfl⟩ hl.1 rfl (Nat.le_of_ble_eq_true rfl) dX10_plan_15 (Nat.zero_le _) (Nat.zero_le _) (fun H locs hR hS hE5 => ?_)
      have ok_this := hE5 _ _ ok_this
      have ok_q1 := hE5 _ _ ok_q1
      have hE := hE.tr hE5
      refine lv_if_ne (tgt := 23) hx hb dX10_plan_18 (by decide) (fun hc => ?_) (fun hc => ?_)
      · replace hf := if_f hf hc
        refine lv_aload_n hx hb dX10_plan_23 rfl (lv_at hl 0 rfl) ?_
        obtain ⟨q7, hq8, ok_q7, hf⟩ := gR_of hf
        refine gf_RX10_10 hC hR ok_this hq8 dX10_plan_24 ?_
        obtain ⟨q9, hq10, ok_q9, hf⟩ := gR_of hf
        refine gf_RX10_118 hC hR ok_q7 hq10 dX10_plan_27 ?_
        refine lv_iload_n hx hb dX10_plan_30 rfl (lv_at hl 1 rfl) ?_
        refine lv_iload_n hx hb dX10_plan_31 rfl (lv_at hl 2 rfl) ?_
        obtain ⟨hi11, hf⟩ := ck_of hf
        refine rB_iast hC hR hS ok_q9 hi11 dX10_plan_32 hf (fun S12 H locs hf hR hS hE13 => ?_)
        have ok_this := hE13 _ _ ok_this
        have ok_q1 := hE13 _ _ ok_q1
        have ok_q7 := hE13 _ _ ok_q7
        have ok_q9 := hE13 _ _ ok_q9
        have hE := hE.tr hE13
        refine lv_iconst (v := 1) hx hb dX10_plan_33 (by decide) ?_
        exact r_zret hC hR hS hE hf dX10_plan_34
      · replace hf := if_t hf hc
        refine lv_iconst (v := 0) hx hb dX10_plan_21 (by decide) ?_
        exact r_zret hC hR hS hE hf dX10_plan_22
abbrev rX10_feed : Room := { frames := 1, cells := 0, slots := 0, locals := 22 }
def f_X10_feed (n : Nat) (this : Nat) (a1 : Int32) (a2 : Int32) (a3 : Int32) (a4 : Int32) (a5 : Int32) (S : MS) : Option (Int32 × MS) :=
  gR S (mR S this 5) 6 fun q1 => (if ((mI S q1 1) + (20 : Int32)) ≤ (300 : Int32) then gR S (mR S this 5) 6 fun q3 => cv (f_X6_add n q3 a1 S) fun S5 => gR S5 (mR S5 this 5) 6 fun q8 => cv (f_X6_add n q8 a2 S5) fun S10 => gR S10 (mR S10 this 5) 6 fun q13 => cv (f_X6_add n q13 a3 S10) fun S15 => gR S15 (mR S15 this 5) 6 fun q18 => cv (f_X6_add n q18 a4 S15) fun S20 => gR S20 (mR S20 this 5) 6 fun q23 => cv (f_X6_add n q23 a5 S20) fun S25 => gR S25 (mR S25 this 5) 6 fun q28 => some ((mI S25 q28 1), S25) else some ((-1 : Int32), S))
set_option maxRecDepth 100000 in
set_option maxHeartbeats 4000000 in
theorem c_X10_feed (l : Launch) (G : Gx) (n : Nat) (this : Nat) (a1 : Int32) (a2 : Int32) (a3 : Int32) (a4 : Int32) (a5 : Int32) (S : MS) (ro : Int32) (So : MS) (hf : f_X10_feed n this a1 a2 a3 a4 a5 S = some (ro, So)) (ok_this : Ok S this 10) : Cn G l yX10_feed cX10_feed 6 (some .int) rX10_feed [.ref this, .int a1, .int a2, .int a3, .int a4, .int a5] S (some (.int ro)) So := by
  refine Cn.of (by decide) (Nat.le_of_ble_eq_true rfl) ?_
  intro p e s m args below meth c hC hname hR ls hl
  have hC : Cx G RX10 cX10_feed 6 (some .int) p s m args meth c := hC
  have hl : lv_has ls 6 [(0, .ref this), (1, .int a1), (2, .int a2), (3, .int a3), (4, .int a4), (5, .int a5)] := hl
  have hx := hC.x
  have hb := hC.b
  have hS : va_S (gA G) s.heap s.heap [] := va_S.rf
  have hE : Ex S S := Ex.rf S
  unfold f_X10_feed at hf
  refine lv_aload_n hx hb dX10_feed_0 rfl (lv_at hl 0 rfl) ?_
  obtain ⟨q1, hq2, ok_q1, hf⟩ := gR_of hf
  refine gf_RX10_22 hC hR ok_this hq2 dX10_feed_1 ?_
  refine gf_RX10_122 hC hR ok_q1 dX10_feed_4 ?_
  refine lv_bipush (v := 20) hx hb dX10_feed_7 (by decide) ?_
  refine lv_iadd hx hb dX10_feed_9 ?_
  refine lv_sipush (v := 300) hx hb dX10_feed_10 (by decide) ?_
  refine lv_icmp_le (tgt := 18) hx hb dX10_feed_13 (by decide) (fun hc => ?_) (fun hc => ?_)
  · replace hf := if_t hf hc
    refine lv_aload_n hx hb dX10_feed_18 rfl (lv_at hl 0 rfl) ?_
    obtain ⟨q3, hq4, ok_q3, hf⟩ := gR_of hf
    refine gf_RX10_22 hC hR ok_this hq4 dX10_feed_19 ?_
    refine lv_iload_n hx hb dX10_feed_22 rfl (lv_at hl 1 rfl) ?_
    obtain ⟨S5, hc6, hf⟩ := cv_of hf
    refine cl_RX10_126 (As := [.int a1]) (rest := []) hC hR hS (c_X6_add l G n q3 a1 S S5 hc6 ok_q3) ok_q3 rfl ⟨Nat.le_of_ble_eq_true rfl, Nat.le_of_ble_eq_true rfl⟩ hl.1 rfl (Nat.le_of_ble_eq_true rfl) dX10_feed_23 (Nat.zero_le _) (Nat.zero_le _) (fun H locs hR hS hE7 => ?_)
    have ok_this := hE7 _ _ ok_this
    have ok_q1 := hE7 _ _ ok_q1
    have ok_q3 := hE7 _ _ ok_q3
    have hE := hE.tr hE7
    refine lv_aload_n hx hb dX10_feed_26 rfl (lv_at hl 0 rfl) ?_
    obtain ⟨q8, hq9, ok_q8, hf⟩ := gR_of hf
    refine gf_RX10_22 hC hR ok_this hq9 dX10_feed_27 ?_
    refine lv_iload_n hx hb dX10_feed_30 rfl (lv_at hl 2 rfl) ?_
    obtain ⟨S10, hc11, hf⟩ := cv_of hf
    refine cl_RX10_126 (As := [.int a2]) (rest := []) hC hR hS (c_X6_add l G n q8 a2 S5 S10 hc11 ok_q8) ok_q8 rfl ⟨Nat.le_of_ble_eq_true rfl, Nat.le_of_ble_eq_true rfl⟩ hl.1 rfl (Nat.le_of_ble_eq_true rfl) dX10_feed_31 (Nat.zero_le _) (Nat.zero_le _) (fun H locs hR hS hE12 => ?_)
    have ok_this := hE12 _ _ ok_this
    have ok_q1 := hE12 _ _ ok_q1
    have ok_q3 := hE12 _ _ ok_q3
    have ok_q8 := hE12 _ _ ok_q8
    have hE := hE.tr hE12
    refine lv_aload_n hx hb dX10_feed_34 rfl (lv_at hl 0 rfl) ?_
    obtain ⟨q13, hq14, ok_q13, hf⟩ := gR_of hf
    refine gf_RX10_22 hC hR ok_this hq14 dX10_feed_35 ?_
    refine lv_iload_n hx hb dX10_feed_38 rfl (lv_at hl 3 rfl) ?_
    obtain ⟨S15, hc16, hf⟩ := cv_of hf
    refine cl_RX10_126 (As := [.int a3]) (rest := []) hC hR hS (c_X6_add l G n q13 a3 S10 S15 hc16 ok_q13) ok_q13 rfl ⟨Nat.le_of_ble_eq_true rfl, Nat.le_of_ble_eq_true rfl⟩ hl.1 rfl (Nat.le_of_ble_eq_true rfl) dX10_feed_39 (Nat.zero_le _) (Nat.zero_le _) (fun H locs hR hS hE17 => ?_)
    have ok_this := hE17 _ _ ok_this
    have ok_q1 := hE17 _ _ ok_q1
    have ok_q3 := hE17 _ _ ok_q3
    have ok_q8 := hE17 _ _ ok_q8
    have ok_q13 := hE17 _ _ ok_q13
    have hE := hE.tr hE17
    refine lv_aload_n hx hb dX10_feed_42 rfl (lv_at hl 0 rfl) ?_
    obtain ⟨q18, hq19, ok_q18, hf⟩ := gR_of hf
    refine gf_RX10_22 hC hR ok_this hq19 dX10_feed_43 ?_
    refine lv_iload hx hb dX10_feed_46 (lv_at hl 4 rfl) ?_
    obtain ⟨S20, hc21, hf⟩ := cv_of hf
    refine cl_RX10_126 (As := [.int a4]) (rest := []) hC hR hS (c_X6_add l G n q18 a4 S15 S20 hc21 ok_q18) ok_q18 rfl ⟨Nat.le_of_ble_eq_true rfl, Nat.le_of_ble_eq_true rfl⟩ hl.1 rfl (Nat.le_of_ble_eq_true rfl) dX10_feed_48 (Nat.zero_le _) (Nat.zero_le _) (fun H locs hR hS hE22 => ?_)
    have ok_this := hE22 _ _ ok_this
    have ok_q1 := hE22 _ _ ok_q1
    have ok_q3 := hE22 _ _ ok_q3
    have ok_q8 := hE22 _ _ ok_q8
    have ok_q13 := hE22 _ _ ok_q13
    have ok_q18 := hE22 _ _ ok_q18
    have hE := hE.tr hE22
    refine lv_aload_n hx hb dX10_feed_51 rfl (lv_at hl 0 rfl) ?_
    obtain ⟨q23, hq24, ok_q23, hf⟩ := gR_of hf
    refine gf_RX10_22 hC hR ok_this hq24 dX10_feed_52 ?_
    refine lv_iload hx hb dX10_feed_55 (lv_at hl 5 rfl) ?_
    obtain ⟨S25, hc26, hf⟩ := cv_of hf
    refine cl_RX10_126 (As := [.int a5]) (rest := []) hC hR hS (c_X6_add l G n q23 a5 S20 S25 hc26 ok_q23) ok_q23 rfl ⟨Nat.le_of_ble_eq_true rfl, Nat.le_of_ble_eq_true rfl⟩ hl.1 rfl (Nat.le_of_ble_eq_true rfl) dX10_feed_57 (Nat.zero_le _) (Nat.zero_le _) (fun H locs hR hS hE27 => ?_)
    have ok_this := hE27 _ _ ok_this
    have ok_q1 := hE27 _ _ ok_q1
    have ok_q3 := hE27 _ _ ok_q3
    have ok_q8 := hE27 _ _ ok_q8
    have ok_q13 := hE27 _ _ ok_q13
    have ok_q18 := hE27 _ _ ok_q18
    have ok_q23 := hE27 _ _ ok_q23
    have hE := hE.tr hE27
    refine lv_aload_n hx hb dX10_feed_60 rfl (lv_at hl 0 rfl) ?_
    obtain ⟨q28, hq29, ok_q28, hf⟩ := gR_of hf
    refine gf_RX10_22 hC hR ok_this hq29 dX10_feed_61 ?_
    refine gf_RX10_122 hC hR ok_q28 dX10_feed_64 ?_
    exact r_iret hC hR hS hE hf dX10_feed_67
  · replace hf := if_f hf hc
    refine lv_iconst (v := -1) hx hb dX10_feed_16 (by decide) ?_
    exact r_iret hC hR hS hE hf dX10_feed_17
abbrev rX10_end : Room := { frames := 0, cells := 0, slots := 0, locals := 0 }
def f_X10_end (_n : Nat) (this : Nat) (a1 : Int32) (S : MS) : Option (Int32 × MS) :=
  (if a1 < 0 then some ((-1 : Int32), S) else gR S (mR S this 5) 6 fun q1 => (if a1 ≤ (mI S q1 1) then gR S (mR S this 5) 6 fun q3 => bd (sI S q3 1 a1) fun S5 => some (a1, S5) else some ((-1 : Int32), S)))
set_option maxRecDepth 100000 in
set_option maxHeartbeats 4000000 in
theorem c_X10_end (l : Launch) (G : Gx) (n : Nat) (this : Nat) (a1 : Int32) (S : MS) (ro : Int32) (So : MS) (hf : f_X10_end n this a1 S = some (ro, So)) (ok_this : Ok S this 10) : Cn G l yX10_end cX10_end 2 (some .int) rX10_end [.ref this, .int a1] S (some (.int ro)) So := by
  refine Cn.of (by decide) (Nat.le_of_ble_eq_true rfl) ?_
  intro p e s m args below meth c hC hname hR ls hl
  have hC : Cx G RX10 cX10_end 2 (some .int) p s m args meth c := hC
  have hl : lv_has ls 2 [(0, .ref this), (1, .int a1)] := hl
  have hx := hC.x
  have hb := hC.b
  have hS : va_S (gA G) s.heap s.heap [] := va_S.rf
  have hE : Ex S S := Ex.rf S
  unfold f_X10_end at hf
  refine lv_iload_n hx hb dX10_end_0 rfl (lv_at hl 1 rfl) ?_
  refine lv_if_lt (tgt := 15) hx hb dX10_end_1 (by decide) (fun hc => ?_) (fun hc => ?_)
  · replace hf := if_t hf hc
    refine lv_iconst (v := -1) hx hb dX10_end_15 (by decide) ?_
    exact r_iret hC hR hS hE hf dX10_end_16
  · replace hf := if_f hf hc
    refine lv_iload_n hx hb dX10_end_4 rfl (lv_at hl 1 rfl) ?_
    refine lv_aload_n hx hb dX10_end_5 rfl (lv_at hl 0 rfl) ?_
    obtain ⟨q1, hq2, ok_q1, hf⟩ := gR_of hf
    refine gf_RX10_22 hC hR ok_this hq2 dX10_end_6 ?_
    refine gf_RX10_122 hC hR ok_q1 dX10_end_9 ?_
    refine lv_icmp_le (tgt := 17) hx hb dX10_end_12 (by decide) (fun hc => ?_) (fun hc => ?_)
    · replace hf := if_t hf hc
      refine lv_aload_n hx hb dX10_end_17 rfl (lv_at hl 0 rfl) ?_
      obtain ⟨q3, hq4, ok_q3, hf⟩ := gR_of hf
      refine gf_RX10_22 hC hR ok_this hq4 dX10_end_18 ?_
      refine lv_iload_n hx hb dX10_end_21 rfl (lv_at hl 1 rfl) ?_
      refine pf_RX10_122 hC hR hS ok_q3 dX10_end_22 hf (fun S5 H locs hf hR hS hE6 => ?_)
      have ok_this := hE6 _ _ ok_this
      have ok_q1 := hE6 _ _ ok_q1
      have ok_q3 := hE6 _ _ ok_q3
      have hE := hE.tr hE6
      refine lv_iload_n hx hb dX10_end_25 rfl (lv_at hl 1 rfl) ?_
      exact r_iret hC hR hS hE hf dX10_end_26
    · replace hf := if_f hf hc
      refine lv_iconst (v := -1) hx hb dX10_end_15 (by decide) ?_
      exact r_iret hC hR hS hE hf dX10_end_16
abbrev rX10_fault : Room := { frames := 0, cells := 0, slots := 0, locals := 0 }
def f_X10_fault (_n : Nat) (this : Nat) (a1 : Int32) (S : MS) : Option (Int32 × MS) :=
  (if a1 = 0 then gR S (mR S this 6) 4 fun q3 => some ((mI S q3 0), S) else (if a1 = (1 : Int32) then gR S (mR S this 6) 4 fun q1 => some ((mI S q1 1), S) else some ((-1 : Int32), S)))
set_option maxRecDepth 100000 in
set_option maxHeartbeats 4000000 in
theorem c_X10_fault (l : Launch) (G : Gx) (n : Nat) (this : Nat) (a1 : Int32) (S : MS) (ro : Int32) (So : MS) (hf : f_X10_fault n this a1 S = some (ro, So)) (ok_this : Ok S this 10) : Cn G l yX10_fault cX10_fault 2 (some .int) rX10_fault [.ref this, .int a1] S (some (.int ro)) So := by
  refine Cn.of (by decide) (Nat.le_of_ble_eq_true rfl) ?_
  intro p e s m args below meth c hC hname hR ls hl
  have hC : Cx G RX10 cX10_fault 2 (some .int) p s m args meth c := hC
  have hl : lv_has ls 2 [(0, .ref this), (1, .int a1)] := hl
  have hx := hC.x
  have hb := hC.b
  have hS : va_S (gA G) s.heap s.heap [] := va_S.rf
  have hE : Ex S S := Ex.rf S
  unfold f_X10_fault at hf
  refine lv_iload_n hx hb dX10_fault_0 rfl (lv_at hl 1 rfl) ?_
  refine lv_if_ne (tgt := 12) hx hb dX10_fault_1 (by decide) (fun hc => ?_) (fun hc => ?_)
  · replace hf := if_f hf hc
    refine lv_iload_n hx hb dX10_fault_12 rfl (lv_at hl 1 rfl) ?_
    refine lv_iconst (v := 1) hx hb dX10_fault_13 (by decide) ?_
    refine lv_icmp_ne (tgt := 27) hx hb dX10_fault_14 (by decide) (fun hc => ?_) (fun hc => ?_)
    · replace hf := if_f hf hc
      refine lv_iconst (v := -1) hx hb dX10_fault_27 (by decide) ?_
      exact r_iret hC hR hS hE hf dX10_fault_28
    · replace hf := if_t hf hc
      refine lv_aload_n hx hb dX10_fault_17 rfl (lv_at hl 0 rfl) ?_
      obtain ⟨q1, hq2, ok_q1, hf⟩ := gR_of hf
      refine gf_RX10_29 hC hR ok_this hq2 dX10_fault_18 ?_
      refine gf_RX10_147 hC hR ok_q1 dX10_fault_21 ?_
      refine lv_goto (tgt := 28) hx hb dX10_fault_24 (by decide) ?_
      exact r_iret hC hR hS hE hf dX10_fault_28
  · replace hf := if_t hf hc
    refine lv_aload_n hx hb dX10_fault_4 rfl (lv_at hl 0 rfl) ?_
    obtain ⟨q3, hq4, ok_q3, hf⟩ := gR_of hf
    refine gf_RX10_29 hC hR ok_this hq4 dX10_fault_5 ?_
    refine gf_RX10_144 hC hR ok_q3 dX10_fault_8 ?_
    exact r_iret hC hR hS hE hf dX10_fault_11
abbrev rX10_by : Room := { frames := 1, cells := 0, slots := 0, locals := 21 }
def f_X10_by (n : Nat) (this : Nat) (a1 : Int32) (S : MS) : Option (Int32 × MS) :=
  (if a1 = (-1 : Int32) then gR S (mR S this 3) 8 fun q1 => bd (sI S q1 8 a1) fun S3 => zb (1 : Int32) (some ((1 : Int32), S3)) else gR S (mR S this 3) 8 fun q5 => cl (f_X8_isText n q5 a1 S) fun x10 S7 => (if x10 = 0 then zb (0 : Int32) (some ((0 : Int32), S7)) else gR S7 (mR S7 this 3) 8 fun q11 => bd (sI S7 q11 8 a1) fun S13 => zb (1 : Int32) (some ((1 : Int32), S13))))
set_option maxRecDepth 100000 in
set_option maxHeartbeats 4000000 in
theorem c_X10_by (l : Launch) (G : Gx) (n : Nat) (this : Nat) (a1 : Int32) (S : MS) (ro : Int32) (So : MS) (hf : f_X10_by n this a1 S = some (ro, So)) (ok_this : Ok S this 10) : Cn G l yX10_by cX10_by 2 (some .boolean) rX10_by [.ref this, .int a1] S (some (.int ro)) So := by
  refine Cn.of (by decide) (Nat.le_of_ble_eq_true rfl) ?_
  intro p e s m args below meth c hC hname hR ls hl
  have hC : Cx G RX10 cX10_by 2 (some .boolean) p s m args meth c := hC
  have hl : lv_has ls 2 [(0, .ref this), (1, .int a1)] := hl
  have hx := hC.x
  have hb := hC.b
  have hS : va_S (gA G) s.heap s.heap [] := va_S.rf
  have hE : Ex S S := Ex.rf S
  unfold f_X10_by at hf
  refine lv_iload_n hx hb dX10_by_0 rfl (lv_at hl 1 rfl) ?_
  refine lv_iconst (v := -1) hx hb dX10_by_1 (by decide) ?_
  refine lv_icmp_eq (tgt := 18) hx hb dX10_by_2 (by decide) (fun hc => ?_) (fun hc => ?_)
  · replace hf := if_t hf hc
    refine lv_aload_n hx hb dX10_by_18 rfl (lv_at hl 0 rfl) ?_
    obtain ⟨q1, hq2, ok_q1, hf⟩ := gR_of hf
    refine gf_RX10_10 hC hR ok_this hq2 dX10_by_19 ?_
    refine lv_iload_n hx hb dX10_by_22 rfl (lv_at hl 1 rfl) ?_
    refine pf_RX10_153 hC hR hS ok_q1 dX10_by_23 hf (fun S3 H locs hf hR hS hE4 => ?_)
    have ok_this := hE4 _ _ ok_this
    have ok_q1 := hE4 _ _ ok_q1
    have hE := hE.tr hE4
    refine lv_iconst (v := 1) hx hb dX10_by_26 (by decide) ?_
    exact r_zret hC hR hS hE hf dX10_by_27
  · replace hf := if_f hf hc
    refine lv_aload_n hx hb dX10_by_5 rfl (lv_at hl 0 rfl) ?_
    obtain ⟨q5, hq6, ok_q5, hf⟩ := gR_of hf
    refine gf_RX10_10 hC hR ok_this hq6 dX10_by_6 ?_
    refine lv_iload_n hx hb dX10_by_9 rfl (lv_at hl 1 rfl) ?_
    obtain ⟨x10, S7, hc8, hf⟩ := cl_of hf
    refine cl_RX10_150 (As := [.int a1]) (rest := []) hC hR hS (c_X8_isText l G n q5 a1 S x10 S7 hc8 ok_q5) ok_q5 rfl ⟨Nat.le_of_ble_eq_true rfl, Nat.le_of_ble_eq_true rfl⟩ hl.1 rfl (Nat.le_of_ble_eq_true rfl) dX10_by_10 (Nat.zero_le _) (Nat.zero_le _) (fun H locs hR hS hE9 => ?_)
    have ok_this := hE9 _ _ ok_this
    have ok_q5 := hE9 _ _ ok_q5
    have hE := hE.tr hE9
    refine lv_if_ne (tgt := 18) hx hb dX10_by_13 (by decide) (fun hc => ?_) (fun hc => ?_)
    · replace hf := if_f hf hc
      refine lv_aload_n hx hb dX10_by_18 rfl (lv_at hl 0 rfl) ?_
      obtain ⟨q11, hq12, ok_q11, hf⟩ := gR_of hf
      refine gf_RX10_10 hC hR ok_this hq12 dX10_by_19 ?_
      refine lv_iload_n hx hb dX10_by_22 rfl (lv_at hl 1 rfl) ?_
      refine pf_RX10_153 hC hR hS ok_q11 dX10_by_23 hf (fun S13 H locs hf hR hS hE14 => ?_)
      have ok_this := hE14 _ _ ok_this
      have ok_q5 := hE14 _ _ ok_q5
      have ok_q11 := hE14 _ _ ok_q11
      have hE := hE.tr hE14
      refine lv_iconst (v := 1) hx hb dX10_by_26 (by decide) ?_
      exact r_zret hC hR hS hE hf dX10_by_27
    · replace hf := if_t hf hc
      refine lv_iconst (v := 0) hx hb dX10_by_16 (by decide) ?_
      exact r_zret hC hR hS hE hf dX10_by_17
abbrev rX10_draw : Room := { frames := 4, cells := 0, slots := 0, locals := 90 }
def f_X10_draw (n : Nat) (this : Nat) (a1 : Int32) (S : MS) : Option (Int32 × MS) :=
  gR S (mR S this 3) 8 fun q1 => cl (f_X8_isText n q1 a1 S) fun x6 S3 => (if x6 = 0 then some ((-2 : Int32), S3) else gR S3 (mR S3 this 7) 16 fun q7 => ck (inb a1 (mN S3 q7)) (gN S3 (mR S3 q7 a1.toNatClampNeg) 7 fun q10 => (if q10 = none then some ((-2 : Int32), S3) else gR S3 (mR S3 this 1) 3 fun q11 => cv (f_X3_clearOff n q11 S3) fun S13 => gR S13 (mR S13 this 1) 3 fun q16 => gR S13 (mR S13 this 7) 16 fun q18 => ck (inb a1 (mN S13 q18)) (gN S13 (mR S13 q18 a1.toNatClampNeg) 7 fun q21 => cl (f_X3_drawnBy n q16 q21 S13) fun x25 S22 => some (x25, S22)))))
set_option maxRecDepth 100000 in
set_option maxHeartbeats 4000000 in
theorem c_X10_draw (l : Launch) (G : Gx) (n : Nat) (this : Nat) (a1 : Int32) (S : MS) (ro : Int32) (So : MS) (hf : f_X10_draw n this a1 S = some (ro, So)) (ok_this : Ok S this 10) : Cn G l yX10_draw cX10_draw 2 (some .int) rX10_draw [.ref this, .int a1] S (some (.int ro)) So := by
  refine Cn.of (by decide) (Nat.le_of_ble_eq_true rfl) ?_
  intro p e s m args below meth c hC hname hR ls hl
  have hC : Cx G RX10 cX10_draw 2 (some .int) p s m args meth c := hC
  have hl : lv_has ls 2 [(0, .ref this), (1, .int a1)] := hl
  have hx := hC.x
  have hb := hC.b
  have hS : va_S (gA G) s.heap s.heap [] := va_S.rf
  have hE : Ex S S := Ex.rf S
  unfold f_X10_draw at hf
  refine lv_aload_n hx hb dX10_draw_0 rfl (lv_at hl 0 rfl) ?_
  obtain ⟨q1, hq2, ok_q1, hf⟩ := gR_of hf
  refine gf_RX10_10 hC hR ok_this hq2 dX10_draw_1 ?_
  refine lv_iload_n hx hb dX10_draw_4 rfl (lv_at hl 1 rfl) ?_
  obtain ⟨x6, S3, hc4, hf⟩ := cl_of hf
  refine cl_RX10_150 (As := [.int a1]) (rest := []) hC hR hS (c_X8_isText l G n q1 a1 S x6 S3 hc4 ok_q1) ok_q1 rfl ⟨Nat.le_of_ble_eq_true rfl, Nat.le_of_ble_eq_true rfl⟩ hl.1 rfl (Nat.le_of_ble_eq_true rfl) dX10_draw_5 (Nat.zero_le _) (Nat.zero_le _) (fun H locs hR hS hE5 => ?_)
  have ok_this := hE5 _ _ ok_this
  have ok_q1 := hE5 _ _ ok_q1
  have hE := hE.tr hE5
  refine lv_if_eq (tgt := 20) hx hb dX10_draw_8 (by decide) (fun hc => ?_) (fun hc => ?_)
  · replace hf := if_t hf hc
    refine lv_bipush (v := -2) hx hb dX10_draw_20 (by decide) ?_
    exact r_iret hC hR hS hE hf dX10_draw_22
  · replace hf := if_f hf hc
    refine lv_aload_n hx hb dX10_draw_11 rfl (lv_at hl 0 rfl) ?_
    obtain ⟨q7, hq8, ok_q7, hf⟩ := gR_of hf
    refine gf_RX10_35 hC hR ok_this hq8 dX10_draw_12 ?_
    refine lv_iload_n hx hb dX10_draw_15 rfl (lv_at hl 1 rfl) ?_
    obtain ⟨hi9, hf⟩ := ck_of hf
    obtain ⟨ok_q10, hf⟩ := gN_of hf
    refine r_tald (v := va_rf (mR S3 q7 a1.toNatClampNeg)) hC hR ok_q7 hi9 dX10_draw_16 rfl ?_
    generalize (mR S3 q7 a1.toNatClampNeg) = q10 at hf ok_q10 ⊢
    refine r_ifnonnullO (tgt := 23) hx hb dX10_draw_17 (by decide) (fun hc => ?_) (fun hc => ?_)
    · replace hf := if_f hf hc
      refine lv_aload_n hx hb dX10_draw_23 rfl (lv_at hl 0 rfl) ?_
      obtain ⟨q11, hq12, ok_q11, hf⟩ := gR_of hf
      refine gf_RX10_78 hC hR ok_this hq12 dX10_draw_24 ?_
      obtain ⟨S13, hc14, hf⟩ := cv_of hf
      refine cl_RX10_156 (As := []) (rest := []) hC hR hS (c_X3_clearOff l G n q11 S3 S13 hc14 ok_q11) ok_q11 rfl ⟨Nat.le_of_ble_eq_true rfl, Nat.le_of_ble_eq_true rfl⟩ hl.1 rfl (Nat.le_of_ble_eq_true rfl) dX10_draw_27 (Nat.zero_le _) (Nat.zero_le _) (fun H locs hR hS hE15 => ?_)
      have ok_this := hE15 _ _ ok_this
      have ok_q1 := hE15 _ _ ok_q1
      have ok_q7 := hE15 _ _ ok_q7
      have ok_q10 := fun q h => hE15 _ _ (ok_q10 q h)
      have ok_q11 := hE15 _ _ ok_q11
      have hE := hE.tr hE15
      refine lv_aload_n hx hb dX10_draw_30 rfl (lv_at hl 0 rfl) ?_
      obtain ⟨q16, hq17, ok_q16, hf⟩ := gR_of hf
      refine gf_RX10_78 hC hR ok_this hq17 dX10_draw_31 ?_
      refine lv_aload_n hx hb dX10_draw_34 rfl (lv_at hl 0 rfl) ?_
      obtain ⟨q18, hq19, ok_q18, hf⟩ := gR_of hf
      refine gf_RX10_35 hC hR ok_this hq19 dX10_draw_35 ?_
      refine lv_iload_n hx hb dX10_draw_38 rfl (lv_at hl 1 rfl) ?_
      obtain ⟨hi20, hf⟩ := ck_of hf
      obtain ⟨ok_q21, hf⟩ := gN_of hf
      refine r_tald (v := va_rf (mR S13 q18 a1.toNatClampNeg)) hC hR ok_q18 hi20 dX10_draw_39 rfl ?_
      generalize (mR S13 q18 a1.toNatClampNeg) = q21 at hf ok_q21 ⊢
      obtain ⟨x25, S22, hc23, hf⟩ := cl_of hf
      refine cl_RX10_159 (As := [va_rf q21]) (rest := []) hC hR hS (c_X3_drawnBy l G n q16 q21 S13 x25 S22 hc23 ok_q16 ok_q21) ok_q16 rfl ⟨Nat.le_of_ble_eq_true rfl, Nat.le_of_ble_eq_true rfl⟩ hl.1 rfl (Nat.le_of_ble_eq_true rfl) dX10_draw_40 (Nat.zero_le _) (Nat.zero_le _) (fun H locs hR hS hE24 => ?_)
      have ok_this := hE24 _ _ ok_this
      have ok_q1 := hE24 _ _ ok_q1
      have ok_q7 := hE24 _ _ ok_q7
      have ok_q10 := fun q h => hE24 _ _ (ok_q10 q h)
      have ok_q11 := hE24 _ _ ok_q11
      have ok_q16 := hE24 _ _ ok_q16
      have ok_q18 := hE24 _ _ ok_q18
      have ok_q21 := fun q h => hE24 _ _ (ok_q21 q h)
      have hE := hE.tr hE24
      exact r_iret hC hR hS hE hf dX10_draw_43
    · replace hf := if_t hf hc
      refine lv_bipush (v := -2) hx hb dX10_draw_20 (by decide) ?_
      exact r_iret hC hR hS hE hf dX10_draw_22
abbrev rX10_of : Room := { frames := 4, cells := 0, slots := 0, locals := 102 }
def f_X10_of (n : Nat) (this : Nat) (a1 : Int32) (a2 : Int32) (S : MS) : Option (Int32 × MS) :=
  gR S (mR S this 1) 3 fun q1 => cl (f_X3_isBone n q1 a1 S) fun x6 S3 => (if x6 = 0 then some ((-10000000 : Int32), S3) else (if a2 = (0 : Int32) then gR S3 (mR S3 this 1) 3 fun q7 => gR S3 (mR S3 q7 1) 12 fun q9 => ck (inb a1 (mN S3 q9)) (some ((mI S3 q9 a1.toNatClampNeg), S3)) else (if a2 = (1 : Int32) then gR S3 (mR S3 this 1) 3 fun q12 => gR S3 (mR S3 q12 2) 12 fun q14 => ck (inb a1 (mN S3 q14)) (some ((mI S3 q14 a1.toNatClampNeg), S3)) else (if a2 = (2 : Int32) then gR S3 (mR S3 this 1) 3 fun q17 => gR S3 (mR S3 q17 3) 12 fun q19 => ck (inb a1 (mN S3 q19)) (some ((mI S3 q19 a1.toNatClampNeg), S3)) else (if a2 = (3 : Int32) then gR S3 (mR S3 this 8) 5 fun q22 => gR S3 (mR S3 this 1) 3 fun q24 => gR S3 (mR S3 this 9) 9 fun q26 => cl (f_X9_law n q26 S3) fun q31 S28 => gN S28 q31 7 fun q31 => cl (f_X5_holdNow n q22 q24 a1 q31 S28) fun x35 S32 => some (x35, S32) else some ((-10000000 : Int32), S3))))))
set_option maxRecDepth 100000 in
set_option maxHeartbeats 4000000 in
theorem c_X10_of (l : Launch) (G : Gx) (n : Nat) (this : Nat) (a1 : Int32) (a2 : Int32) (S : MS) (ro : Int32) (So : MS) (hf : f_X10_of n this a1 a2 S = some (ro, So)) (ok_this : Ok S this 10) : Cn G l yX10_of cX10_of 3 (some .int) rX10_of [.ref this, .int a1, .int a2] S (some (.int ro)) So := by
  refine Cn.of (by decide) (Nat.le_of_ble_eq_true rfl) ?_
  intro p e s m args below meth c hC hname hR ls hl
  have hC : Cx G RX10 cX10_of 3 (some .int) p s m args meth c := hC
  have hl : lv_has ls 3 [(0, .ref this), (1, .int a1), (2, .int a2)] := hl
  have hx := hC.x
  have hb := hC.b
  have hS : va_S (gA G) s.heap s.heap [] := va_S.rf
  have hE : Ex S S := Ex.rf S
  unfold f_X10_of at hf
  refine lv_aload_n hx hb dX10_of_0 rfl (lv_at hl 0 rfl) ?_
  obtain ⟨q1, hq2, ok_q1, hf⟩ := gR_of hf
  refine gf_RX10_78 hC hR ok_this hq2 dX10_of_1 ?_
  refine lv_iload_n hx hb dX10_of_4 rfl (lv_at hl 1 rfl) ?_
  obtain ⟨x6, S3, hc4, hf⟩ := cl_of hf
  refine cl_RX10_163 (As := [.int a1]) (rest := []) hC hR hS (c_X3_isBone l G n q1 a1 S x6 S3 hc4 ok_q1) ok_q1 rfl ⟨Nat.le_of_ble_eq_true rfl, Nat.le_of_ble_eq_true rfl⟩ hl.1 rfl (Nat.le_of_ble_eq_true rfl) dX10_of_5 (Nat.zero_le _) (Nat.zero_le _) (fun H locs hR hS hE5 => ?_)
  have ok_this := hE5 _ _ ok_this
  have ok_q1 := hE5 _ _ ok_q1
  have hE := hE.tr hE5
  refine lv_if_ne (tgt := 14) hx hb dX10_of_8 (by decide) (fun hc => ?_) (fun hc => ?_)
  · replace hf := if_f hf hc
    refine lv_iload_n hx hb dX10_of_14 rfl (lv_at hl 2 rfl) ?_
    by_cases hc0 : a2 = (0 : Int32)
    · replace hf := if_t hf hc0
      rw [hc0]
      refine lv_tableIn (tgt := 44) hx hb dX10_of_15 (by decide) (by decide) rfl (by decide) ?_
      refine lv_aload_n hx hb dX10_of_44 rfl (lv_at hl 0 rfl) ?_
      obtain ⟨q7, hq8, ok_q7, hf⟩ := gR_of hf
      refine gf_RX10_78 hC hR ok_this hq8 dX10_of_45 ?_
      obtain ⟨q9, hq10, ok_q9, hf⟩ := gR_of hf
      refine gf_RX10_167 hC hR ok_q7 hq10 dX10_of_48 ?_
      refine lv_iload_n hx hb dX10_of_51 rfl (lv_at hl 1 rfl) ?_
      obtain ⟨hi11, hf⟩ := ck_of hf
      refine r_iald hC hR ok_q9 hi11 dX10_of_52 ?_
      exact r_iret hC hR hS hE hf dX10_of_53
    · replace hf := if_f hf hc0
      by_cases hc1 : a2 = (1 : Int32)
      · replace hf := if_t hf hc1
        rw [hc1]
        refine lv_tableIn (tgt := 54) hx hb dX10_of_15 (by decide) (by decide) rfl (by decide) ?_
        refine lv_aload_n hx hb dX10_of_54 rfl (lv_at hl 0 rfl) ?_
        obtain ⟨q12, hq13, ok_q12, hf⟩ := gR_of hf
        refine gf_RX10_78 hC hR ok_this hq13 dX10_of_55 ?_
        obtain ⟨q14, hq15, ok_q14, hf⟩ := gR_of hf
        refine gf_RX10_170 hC hR ok_q12 hq15 dX10_of_58 ?_
        refine lv_iload_n hx hb dX10_of_61 rfl (lv_at hl 1 rfl) ?_
        obtain ⟨hi16, hf⟩ := ck_of hf
        refine r_iald hC hR ok_q14 hi16 dX10_of_62 ?_
        exact r_iret hC hR hS hE hf dX10_of_63
      · replace hf := if_f hf hc1
        by_cases hc2 : a2 = (2 : Int32)
        · replace hf := if_t hf hc2
          rw [hc2]
          refine lv_tableIn (tgt := 64) hx hb dX10_of_15 (by decide) (by decide) rfl (by decide) ?_
          refine lv_aload_n hx hb dX10_of_64 rfl (lv_at hl 0 rfl) ?_
          obtain ⟨q17, hq18, ok_q17, hf⟩ := gR_of hf
          refine gf_RX10_78 hC hR ok_this hq18 dX10_of_65 ?_
          obtain ⟨q19, hq20, ok_q19, hf⟩ := gR_of hf
          refine gf_RX10_173 hC hR ok_q17 hq20 dX10_of_68 ?_
          refine lv_iload_n hx hb dX10_of_71 rfl (lv_at hl 1 rfl) ?_
          obtain ⟨hi21, hf⟩ := ck_of hf
          refine r_iald hC hR ok_q19 hi21 dX10_of_72 ?_
          exact r_iret hC hR hS hE hf dX10_of_73
        · replace hf := if_f hf hc2
          by_cases hc3 : a2 = (3 : Int32)
          · replace hf := if_t hf hc3
            rw [hc3]
            refine lv_tableIn (tgt := 74) hx hb dX10_of_15 (by decide) (by decide) rfl (by decide) ?_
            refine lv_aload_n hx hb dX10_of_74 rfl (lv_at hl 0 rfl) ?_
            obtain ⟨q22, hq23, ok_q22, hf⟩ := gR_of hf
            refine gf_RX10_42 hC hR ok_this hq23 dX10_of_75 ?_
            refine lv_aload_n hx hb dX10_of_78 rfl (lv_at hl 0 rfl) ?_
            obtain ⟨q24, hq25, ok_q24, hf⟩ := gR_of hf
            refine gf_RX10_78 hC hR ok_this hq25 dX10_of_79 ?_
            refine lv_iload_n hx hb dX10_of_82 rfl (lv_at hl 1 rfl) ?_
            refine lv_aload_n hx hb dX10_of_83 rfl (lv_at hl 0 rfl) ?_
            obtain ⟨q26, hq27, ok_q26, hf⟩ := gR_of hf
            refine gf_RX10_51 hC hR ok_this hq27 dX10_of_84 ?_
            obtain ⟨q31, S28, hc29, hf⟩ := cl_of hf
            refine cl_RX10_176 (As := []) (rest := [.int a1, .ref q24, .ref q22]) hC hR hS (c_X9_law l G n q26 S3 q31 S28 hc29 ok_q26) ok_q26 rfl ⟨Nat.le_of_ble_eq_true rfl, Nat.le_of_ble_eq_true rfl⟩ hl.1 rfl (Nat.le_of_ble_eq_true rfl) dX10_of_87 (Nat.zero_le _) (Nat.zero_le _) (fun H locs hR hS hE30 => ?_)
            have ok_this := hE30 _ _ ok_this
            have ok_q1 := hE30 _ _ ok_q1
            have ok_q22 := hE30 _ _ ok_q22
            have ok_q24 := hE30 _ _ ok_q24
            have ok_q26 := hE30 _ _ ok_q26
            have hE := hE.tr hE30
            obtain ⟨ok_q31, hf⟩ := gN_of hf
            obtain ⟨x35, S32, hc33, hf⟩ := cl_of hf
            refine cl_RX10_180 (As := [.ref q24, .int a1, va_rf q31]) (rest := []) hC hR hS (c_X5_holdNow l G n q22 q24 a1 q31 S28 x35 S32 hc33 ok_q22 ok_q24 ok_q31) ok_q22 rfl ⟨Nat.le_of_ble_eq_true rfl, Nat.le_of_ble_eq_true rfl⟩ hl.1 rfl (Nat.le_of_ble_eq_true rfl) dX10_of_90 (Nat.zero_le _) (Nat.zero_le _) (fun H locs hR hS hE34 => ?_)
            have ok_this := hE34 _ _ ok_this
            have ok_q1 := hE34 _ _ ok_q1
            have ok_q22 := hE34 _ _ ok_q22
            have ok_q24 := hE34 _ _ ok_q24
            have ok_q26 := hE34 _ _ ok_q26
            have ok_q31 := fun q h => hE34 _ _ (ok_q31 q h)
            have hE := hE.tr hE34
            exact r_iret hC hR hS hE hf dX10_of_93
          · replace hf := if_f hf hc3
            refine lv_tableOut (tgt := 94) hx hb dX10_of_15 (by have := ne_toInt hc0 (z := 0) (by decide); have := ne_toInt hc1 (z := 1) (by decide); have := ne_toInt hc2 (z := 2) (by decide); have := ne_toInt hc3 (z := 3) (by decide); omega) (by decide) ?_
            refine lv_ldc (v := -10000000) hx hb hC.ow (hC.ts _ (bg29 _ (List.mem_of_getElem? (i := 22) rfl))) dX10_of_94 ?_
            exact r_iret hC hR hS hE hf dX10_of_96
  · replace hf := if_t hf hc
    refine lv_ldc (v := -10000000) hx hb hC.ow (hC.ts _ (bg29 _ (List.mem_of_getElem? (i := 22) rfl))) dX10_of_11 ?_
    exact r_iret hC hR hS hE hf dX10_of_13
abbrev rX10_cell : Room := { frames := 3, cells := 0, slots := 0, locals := 74 }
def f_X10_cell (n : Nat) (this : Nat) (a1 : Int32) (a2 : Int32) (S : MS) : Option (Int32 × MS) :=
  gR S (mR S this 0) 1 fun q1 => cl (f_X1_holds n q1 a1 S) fun x6 S3 => (if x6 = 0 then some ((-10 : Int32), S3) else gR S3 (mR S3 this 1) 3 fun q7 => cl (f_X3_fieldAt n q7 a1 S3) fun x12 S9 => (if a2 = (0 : Int32) then gR S9 (mR S9 this 0) 1 fun q13 => cl (f_X1_lowest n q13 x12 S9) fun x18 S15 => some (x18, S15) else (if a2 = (1 : Int32) then cl (f_J13_bitCount_95d88 n x12 S9) fun x22 S19 => some (x22, S19) else (if a2 = (2 : Int32) then gR S9 (mR S9 this 1) 3 fun q23 => cl (f_X3_holders n q23 x12 S9) fun x28 S25 => some (x28, S25) else (if a2 = (3 : Int32) then gR S9 (mR S9 this 1) 3 fun q29 => gR S9 (mR S9 q29 6) 12 fun q31 => ck (inb a1 (mN S9 q31)) (some ((mI S9 q31 a1.toNatClampNeg), S9)) else (if a2 = (4 : Int32) then gR S9 (mR S9 this 1) 3 fun q34 => (if (lg_cmp ((lush (mJ S9 q34 9) a1) &&& (1 : Int64)) (0 : Int64)) = 0 then some ((0 : Int32), S9) else some ((1 : Int32), S9)) else some ((-10 : Int32), S9)))))))
set_option maxRecDepth 100000 in
set_option maxHeartbeats 4000000 in
theorem c_X10_cell (l : Launch) (G : Gx) (n : Nat) (this : Nat) (a1 : Int32) (a2 : Int32) (S : MS) (ro : Int32) (So : MS) (hf : f_X10_cell n this a1 a2 S = some (ro, So)) (ok_this : Ok S this 10) : Cn G l yX10_cell cX10_cell 5 (some .int) rX10_cell [.ref this, .int a1, .int a2] S (some (.int ro)) So := by
  refine Cn.of (by decide) (Nat.le_of_ble_eq_true rfl) ?_
  intro p e s m args below meth c hC hname hR ls hl
  have hC : Cx G RX10 cX10_cell 5 (some .int) p s m args meth c := hC
  have hl : lv_has ls 5 [(0, .ref this), (1, .int a1), (2, .int a2)] := hl
  have hx := hC.x
  have hb := hC.b
  have hS : va_S (gA G) s.heap s.heap [] := va_S.rf
  have hE : Ex S S := Ex.rf S
  unfold f_X10_cell at hf
  refine lv_aload_n hx hb dX10_cell_0 rfl (lv_at hl 0 rfl) ?_
  obtain ⟨q1, hq2, ok_q1, hf⟩ := gR_of hf
  refine gf_RX10_69 hC hR ok_this hq2 dX10_cell_1 ?_
  refine lv_iload_n hx hb dX10_cell_4 rfl (lv_at hl 1 rfl) ?_
  obtain ⟨x6, S3, hc4, hf⟩ := cl_of hf
  refine cl_RX10_101 (As := [.int a1]) (rest := []) hC hR hS (c_X1_holds l G n q1 a1 S x6 S3 hc4 ok_q1) ok_q1 rfl ⟨Nat.le_of_ble_eq_true rfl, Nat.le_of_ble_eq_true rfl⟩ hl.1 rfl (Nat.le_of_ble_eq_true rfl) dX10_cell_5 (Nat.zero_le _) (Nat.zero_le _) (fun H locs hR hS hE5 => ?_)
  have ok_this := hE5 _ _ ok_this
  have ok_q1 := hE5 _ _ ok_q1
  have hE := hE.tr hE5
  refine lv_if_ne (tgt := 14) hx hb dX10_cell_8 (by decide) (fun hc => ?_) (fun hc => ?_)
  · replace hf := if_f hf hc
    refine lv_aload_n hx hb dX10_cell_14 rfl (lv_at hl 0 rfl) ?_
    obtain ⟨q7, hq8, ok_q7, hf⟩ := gR_of hf
    refine gf_RX10_78 hC hR ok_this hq8 dX10_cell_15 ?_
    refine lv_iload_n hx hb dX10_cell_18 rfl (lv_at hl 1 rfl) ?_
    obtain ⟨x12, S9, hc10, hf⟩ := cl_of hf
    refine cl_RX10_184 (As := [.int a1]) (rest := []) hC hR hS (c_X3_fieldAt l G n q7 a1 S3 x12 S9 hc10 ok_q7) ok_q7 rfl ⟨Nat.le_of_ble_eq_true rfl, Nat.le_of_ble_eq_true rfl⟩ hl.1 rfl (Nat.le_of_ble_eq_true rfl) dX10_cell_19 (Nat.zero_le _) (Nat.zero_le _) (fun H locs hR hS hE11 => ?_)
    have ok_this := hE11 _ _ ok_this
    have ok_q1 := hE11 _ _ ok_q1
    have ok_q7 := hE11 _ _ ok_q7
    have hE := hE.tr hE11
    refine lv_lstore_n (lv' := [(3, .long x12), (0, .ref this), (1, .int a1), (2, .int a2)]) hx hb dX10_cell_22 rfl hl (by decide) rfl (fun ls hl => ?_)
    refine lv_iload_n hx hb dX10_cell_23 rfl (lv_at hl 3 rfl) ?_
    by_cases hc0 : a2 = (0 : Int32)
    · replace hf := if_t hf hc0
      rw [hc0]
      refine lv_tableIn (tgt := 60) hx hb dX10_cell_24 (by decide) (by decide) rfl (by decide) ?_
      refine lv_aload_n hx hb dX10_cell_60 rfl (lv_at hl 1 rfl) ?_
      obtain ⟨q13, hq14, ok_q13, hf⟩ := gR_of hf
      refine gf_RX10_69 hC hR ok_this hq14 dX10_cell_61 ?_
      refine lv_lload_n hx hb dX10_cell_64 rfl (lv_at hl 0 rfl) ?_
      obtain ⟨x18, S15, hc16, hf⟩ := cl_of hf
      refine cl_RX10_188 (As := [.long x12]) (rest := []) hC hR hS (c_X1_lowest l G n q13 x12 S9 x18 S15 hc16 ok_q13) ok_q13 rfl ⟨Nat.le_of_ble_eq_true rfl, Nat.le_of_ble_eq_true rfl⟩ hl.1 rfl (Nat.le_of_ble_eq_true rfl) dX10_cell_65 (Nat.zero_le _) (Nat.zero_le _) (fun H locs hR hS hE17 => ?_)
      have ok_this := hE17 _ _ ok_this
      have ok_q1 := hE17 _ _ ok_q1
      have ok_q7 := hE17 _ _ ok_q7
      have ok_q13 := hE17 _ _ ok_q13
      have hE := hE.tr hE17
      exact r_iret hC hR hS hE hf dX10_cell_68
    · replace hf := if_f hf hc0
      by_cases hc1 : a2 = (1 : Int32)
      · replace hf := if_t hf hc1
        rw [hc1]
        refine lv_tableIn (tgt := 69) hx hb dX10_cell_24 (by decide) (by decide) rfl (by decide) ?_
        refine lv_lload_n hx hb dX10_cell_69 rfl (lv_at hl 0 rfl) ?_
        obtain ⟨x22, S19, hc20, hf⟩ := cl_of hf
        refine cl_RX10_192 (As := [.long x12]) (rest := []) hC hR hS (c_J13_bitCount_95d88 l G n x12 S9 x22 S19 hc20 ) rfl ⟨Nat.le_of_ble_eq_true rfl, Nat.le_of_ble_eq_true rfl⟩ hl.1 rfl (Nat.le_of_ble_eq_true rfl) dX10_cell_70 (Nat.zero_le _) (Nat.zero_le _) (fun H locs hR hS hE21 => ?_)
        have ok_this := hE21 _ _ ok_this
        have ok_q1 := hE21 _ _ ok_q1
        have ok_q7 := hE21 _ _ ok_q7
        have hE := hE.tr hE21
        exact r_iret hC hR hS hE hf dX10_cell_73
      · replace hf := if_f hf hc1
        by_cases hc2 : a2 = (2 : Int32)
        · replace hf := if_t hf hc2
          rw [hc2]
          refine lv_tableIn (tgt := 74) hx hb dX10_cell_24 (by decide) (by decide) rfl (by decide) ?_
          refine lv_aload_n hx hb dX10_cell_74 rfl (lv_at hl 1 rfl) ?_
          obtain ⟨q23, hq24, ok_q23, hf⟩ := gR_of hf
          refine gf_RX10_78 hC hR ok_this hq24 dX10_cell_75 ?_
          refine lv_lload_n hx hb dX10_cell_78 rfl (lv_at hl 0 rfl) ?_
          obtain ⟨x28, S25, hc26, hf⟩ := cl_of hf
          refine cl_RX10_197 (As := [.long x12]) (rest := []) hC hR hS (c_X3_holders l G n q23 x12 S9 x28 S25 hc26 ok_q23) ok_q23 rfl ⟨Nat.le_of_ble_eq_true rfl, Nat.le_of_ble_eq_true rfl⟩ hl.1 rfl (Nat.le_of_ble_eq_true rfl) dX10_cell_79 (Nat.zero_le _) (Nat.zero_le _) (fun H locs hR hS hE27 => ?_)
          have ok_this := hE27 _ _ ok_this
          have ok_q1 := hE27 _ _ ok_q1
          have ok_q7 := hE27 _ _ ok_q7
          have ok_q23 := hE27 _ _ ok_q23
          have hE := hE.tr hE27
          exact r_iret hC hR hS hE hf dX10_cell_82
        · replace hf := if_f hf hc2
          by_cases hc3 : a2 = (3 : Int32)
          · replace hf := if_t hf hc3
            rw [hc3]
            refine lv_tableIn (tgt := 83) hx hb dX10_cell_24 (by decide) (by decide) rfl (by decide) ?_
            refine lv_aload_n hx hb dX10_cell_83 rfl (lv_at hl 1 rfl) ?_
            obtain ⟨q29, hq30, ok_q29, hf⟩ := gR_of hf
            refine gf_RX10_78 hC hR ok_this hq30 dX10_cell_84 ?_
            obtain ⟨q31, hq32, ok_q31, hf⟩ := gR_of hf
            refine gf_RX10_200 hC hR ok_q29 hq32 dX10_cell_87 ?_
            refine lv_iload_n hx hb dX10_cell_90 rfl (lv_at hl 2 rfl) ?_
            obtain ⟨hi33, hf⟩ := ck_of hf
            refine r_iald hC hR ok_q31 hi33 dX10_cell_91 ?_
            exact r_iret hC hR hS hE hf dX10_cell_92
          · replace hf := if_f hf hc3
            by_cases hc4 : a2 = (4 : Int32)
            · replace hf := if_t hf hc4
              rw [hc4]
              refine lv_tableIn (tgt := 93) hx hb dX10_cell_24 (by decide) (by decide) rfl (by decide) ?_
              refine lv_aload_n hx hb dX10_cell_93 rfl (lv_at hl 1 rfl) ?_
              obtain ⟨q34, hq35, ok_q34, hf⟩ := gR_of hf
              refine gf_RX10_78 hC hR ok_this hq35 dX10_cell_94 ?_
              refine gf_RX10_105 hC hR ok_q34 dX10_cell_97 ?_
              refine lv_iload_n hx hb dX10_cell_100 rfl (lv_at hl 2 rfl) ?_
              refine lv_lushr (v := (lush (mJ S9 q34 9) a1)) hx hb dX10_cell_101 rfl ?_
              refine lv_lconst (v := 1) hx hb dX10_cell_102 (by decide) ?_
              refine lv_land hx hb dX10_cell_103 ?_
              refine lv_lconst (v := 0) hx hb dX10_cell_104 (by decide) ?_
              refine W.lcmp hx hb dX10_cell_105 ?_
              refine lv_if_eq (tgt := 113) hx hb dX10_cell_106 (by decide) (fun hc => ?_) (fun hc => ?_)
              · replace hf := if_t hf hc
                refine lv_iconst (v := 0) hx hb dX10_cell_113 (by decide) ?_
                exact r_iret hC hR hS hE hf dX10_cell_114
              · replace hf := if_f hf hc
                refine lv_iconst (v := 1) hx hb dX10_cell_109 (by decide) ?_
                refine lv_goto (tgt := 114) hx hb dX10_cell_110 (by decide) ?_
                exact r_iret hC hR hS hE hf dX10_cell_114
            · replace hf := if_f hf hc4
              refine lv_tableOut (tgt := 115) hx hb dX10_cell_24 (by have := ne_toInt hc0 (z := 0) (by decide); have := ne_toInt hc1 (z := 1) (by decide); have := ne_toInt hc2 (z := 2) (by decide); have := ne_toInt hc3 (z := 3) (by decide); have := ne_toInt hc4 (z := 4) (by decide); omega) (by decide) ?_
              refine lv_bipush (v := -10) hx hb dX10_cell_115 (by decide) ?_
              exact r_iret hC hR hS hE hf dX10_cell_117
  · replace hf := if_t hf hc
    refine lv_bipush (v := -10) hx hb dX10_cell_11 (by decide) ?_
    exact r_iret hC hR hS hE hf dX10_cell_13
abbrev rX10_farmer : Room := { frames := 3, cells := 0, slots := 0, locals := 74 }
def f_X10_farmer (n : Nat) (this : Nat) (a1 : Int32) (a2 : Int32) (S : MS) : Option (Int32 × MS) :=
  cl (f_X10_isFarmer n a1 S) fun x4 S1 => (if x4 = 0 then some ((-10 : Int32), S1) else gR S1 (mR S1 this 1) 3 fun q5 => cl (f_X3_fieldHad n q5 a1 S1) fun x10 S7 => (if a2 = (0 : Int32) then gR S7 (mR S7 this 1) 3 fun q11 => cl (f_X3_share n q11 x10 S7) fun x16 S13 => some (x16, S13) else (if a2 = (1 : Int32) then (if (lg_cmp x10 (0 : Int64)) = 0 then some ((0 : Int32), S7) else gR S7 (mR S7 this 0) 1 fun q17 => (if (lg_cmp (x10 &&& (mJ S7 q17 4)) (0 : Int64)) = 0 then some ((1 : Int32), S7) else some ((0 : Int32), S7))) else (if a2 = (2 : Int32) then gR S7 (mR S7 this 1) 3 fun q19 => cl (f_X3_gates n q19 x10 S7) fun x24 S21 => some (x24, S21) else (if a2 = (3 : Int32) then gR S7 (mR S7 this 1) 3 fun q25 => gR S7 (mR S7 q25 5) 12 fun q27 => ck (inb a1 (mN S7 q27)) (some ((mI S7 q27 a1.toNatClampNeg), S7)) else (if a2 = (4 : Int32) then gR S7 (mR S7 this 1) 3 fun q30 => cl (f_J13_bitCount_95d88 n (x10 &&& (mJ S7 q30 9)) S7) fun x35 S32 => some (x35, S32) else (if a2 = (5 : Int32) then gR S7 (mR S7 this 1) 3 fun q36 => gR S7 (mR S7 q36 4) 12 fun q38 => ck (inb a1 (mN S7 q38)) (some ((mI S7 q38 a1.toNatClampNeg), S7)) else some ((-10 : Int32), S7))))))))
set_option maxRecDepth 100000 in
set_option maxHeartbeats 4000000 in
theorem c_X10_farmer (l : Launch) (G : Gx) (n : Nat) (this : Nat) (a1 : Int32) (a2 : Int32) (S : MS) (ro : Int32) (So : MS) (hf : f_X10_farmer n this a1 a2 S = some (ro, So)) (ok_this : Ok S this 10) : Cn G l yX10_farmer cX10_farmer 5 (some .int) rX10_farmer [.ref this, .int a1, .int a2] S (some (.int ro)) So := by
  refine Cn.of (by decide) (Nat.le_of_ble_eq_true rfl) ?_
  intro p e s m args below meth c hC hname hR ls hl
  have hC : Cx G RX10 cX10_farmer 5 (some .int) p s m args meth c := hC
  have hl : lv_has ls 5 [(0, .ref this), (1, .int a1), (2, .int a2)] := hl
  have hx := hC.x
  have hb := hC.b
  have hS : va_S (gA G) s.heap s.heap [] := va_S.rf
  have hE : Ex S S := Ex.rf S
  unfold f_X10_farmer at hf
  refine lv_iload_n hx hb dX10_farmer_0 rfl (lv_at hl 1 rfl) ?_
  obtain ⟨x4, S1, hc2, hf⟩ := cl_of hf
  refine cl_RX10_203 (As := [.int a1]) (rest := []) hC hR hS (c_X10_isFarmer l G n a1 S x4 S1 hc2 ) rfl ⟨Nat.le_of_ble_eq_true rfl, Nat.le_of_ble_eq_true rfl⟩ hl.1 rfl (Nat.le_of_ble_eq_true rfl) dX10_farmer_1 (Nat.zero_le _) (Nat.zero_le _) (fun H locs hR hS hE3 => ?_)
  have ok_this := hE3 _ _ ok_this
  have hE := hE.tr hE3
  refine lv_if_ne (tgt := 10) hx hb dX10_farmer_4 (by decide) (fun hc => ?_) (fun hc => ?_)
  · replace hf := if_f hf hc
    refine lv_aload_n hx hb dX10_farmer_10 rfl (lv_at hl 0 rfl) ?_
    obtain ⟨q5, hq6, ok_q5, hf⟩ := gR_of hf
    refine gf_RX10_78 hC hR ok_this hq6 dX10_farmer_11 ?_
    refine lv_iload_n hx hb dX10_farmer_14 rfl (lv_at hl 1 rfl) ?_
    obtain ⟨x10, S7, hc8, hf⟩ := cl_of hf
    refine cl_RX10_206 (As := [.int a1]) (rest := []) hC hR hS (c_X3_fieldHad l G n q5 a1 S1 x10 S7 hc8 ok_q5) ok_q5 rfl ⟨Nat.le_of_ble_eq_true rfl, Nat.le_of_ble_eq_true rfl⟩ hl.1 rfl (Nat.le_of_ble_eq_true rfl) dX10_farmer_15 (Nat.zero_le _) (Nat.zero_le _) (fun H locs hR hS hE9 => ?_)
    have ok_this := hE9 _ _ ok_this
    have ok_q5 := hE9 _ _ ok_q5
    have hE := hE.tr hE9
    refine lv_lstore_n (lv' := [(3, .long x10), (0, .ref this), (1, .int a1), (2, .int a2)]) hx hb dX10_farmer_18 rfl hl (by decide) rfl (fun ls hl => ?_)
    refine lv_iload_n hx hb dX10_farmer_19 rfl (lv_at hl 3 rfl) ?_
    by_cases hc0 : a2 = (0 : Int32)
    · replace hf := if_t hf hc0
      rw [hc0]
      refine lv_tableIn (tgt := 60) hx hb dX10_farmer_20 (by decide) (by decide) rfl (by decide) ?_
      refine lv_aload_n hx hb dX10_farmer_60 rfl (lv_at hl 1 rfl) ?_
      obtain ⟨q11, hq12, ok_q11, hf⟩ := gR_of hf
      refine gf_RX10_78 hC hR ok_this hq12 dX10_farmer_61 ?_
      refine lv_lload_n hx hb dX10_farmer_64 rfl (lv_at hl 0 rfl) ?_
      obtain ⟨x16, S13, hc14, hf⟩ := cl_of hf
      refine cl_RX10_209 (As := [.long x10]) (rest := []) hC hR hS (c_X3_share l G n q11 x10 S7 x16 S13 hc14 ok_q11) ok_q11 rfl ⟨Nat.le_of_ble_eq_true rfl, Nat.le_of_ble_eq_true rfl⟩ hl.1 rfl (Nat.le_of_ble_eq_true rfl) dX10_farmer_65 (Nat.zero_le _) (Nat.zero_le _) (fun H locs hR hS hE15 => ?_)
      have ok_this := hE15 _ _ ok_this
      have ok_q5 := hE15 _ _ ok_q5
      have ok_q11 := hE15 _ _ ok_q11
      have hE := hE.tr hE15
      exact r_iret hC hR hS hE hf dX10_farmer_68
    · replace hf := if_f hf hc0
      by_cases hc1 : a2 = (1 : Int32)
      · replace hf := if_t hf hc1
        rw [hc1]
        refine lv_tableIn (tgt := 69) hx hb dX10_farmer_20 (by decide) (by decide) rfl (by decide) ?_
        refine lv_lload_n hx hb dX10_farmer_69 rfl (lv_at hl 0 rfl) ?_
        refine lv_lconst (v := 0) hx hb dX10_farmer_70 (by decide) ?_
        refine W.lcmp hx hb dX10_farmer_71 ?_
        refine lv_if_eq (tgt := 93) hx hb dX10_farmer_72 (by decide) (fun hc => ?_) (fun hc => ?_)
        · replace hf := if_t hf hc
          refine lv_iconst (v := 0) hx hb dX10_farmer_93 (by decide) ?_
          exact r_iret hC hR hS hE hf dX10_farmer_94
        · replace hf := if_f hf hc
          refine lv_lload_n hx hb dX10_farmer_75 rfl (lv_at hl 0 rfl) ?_
          refine lv_aload_n hx hb dX10_farmer_76 rfl (lv_at hl 1 rfl) ?_
          obtain ⟨q17, hq18, ok_q17, hf⟩ := gR_of hf
          refine gf_RX10_69 hC hR ok_this hq18 dX10_farmer_77 ?_
          refine gf_RX10_212 hC hR ok_q17 dX10_farmer_80 ?_
          refine lv_land hx hb dX10_farmer_83 ?_
          refine lv_lconst (v := 0) hx hb dX10_farmer_84 (by decide) ?_
          refine W.lcmp hx hb dX10_farmer_85 ?_
          refine lv_if_ne (tgt := 93) hx hb dX10_farmer_86 (by decide) (fun hc => ?_) (fun hc => ?_)
          · replace hf := if_f hf hc
            refine lv_iconst (v := 0) hx hb dX10_farmer_93 (by decide) ?_
            exact r_iret hC hR hS hE hf dX10_farmer_94
          · replace hf := if_t hf hc
            refine lv_iconst (v := 1) hx hb dX10_farmer_89 (by decide) ?_
            refine lv_goto (tgt := 94) hx hb dX10_farmer_90 (by decide) ?_
            exact r_iret hC hR hS hE hf dX10_farmer_94
      · replace hf := if_f hf hc1
        by_cases hc2 : a2 = (2 : Int32)
        · replace hf := if_t hf hc2
          rw [hc2]
          refine lv_tableIn (tgt := 95) hx hb dX10_farmer_20 (by decide) (by decide) rfl (by decide) ?_
          refine lv_aload_n hx hb dX10_farmer_95 rfl (lv_at hl 1 rfl) ?_
          obtain ⟨q19, hq20, ok_q19, hf⟩ := gR_of hf
          refine gf_RX10_78 hC hR ok_this hq20 dX10_farmer_96 ?_
          refine lv_lload_n hx hb dX10_farmer_99 rfl (lv_at hl 0 rfl) ?_
          obtain ⟨x24, S21, hc22, hf⟩ := cl_of hf
          refine cl_RX10_215 (As := [.long x10]) (rest := []) hC hR hS (c_X3_gates l G n q19 x10 S7 x24 S21 hc22 ok_q19) ok_q19 rfl ⟨Nat.le_of_ble_eq_true rfl, Nat.le_of_ble_eq_true rfl⟩ hl.1 rfl (Nat.le_of_ble_eq_true rfl) dX10_farmer_100 (Nat.zero_le _) (Nat.zero_le _) (fun H locs hR hS hE23 => ?_)
          have ok_this := hE23 _ _ ok_this
          have ok_q5 := hE23 _ _ ok_q5
          have ok_q19 := hE23 _ _ ok_q19
          have hE := hE.tr hE23
          exact r_iret hC hR hS hE hf dX10_farmer_103
        · replace hf := if_f hf hc2
          by_cases hc3 : a2 = (3 : Int32)
          · replace hf := if_t hf hc3
            rw [hc3]
            refine lv_tableIn (tgt := 104) hx hb dX10_farmer_20 (by decide) (by decide) rfl (by decide) ?_
            refine lv_aload_n hx hb dX10_farmer_104 rfl (lv_at hl 1 rfl) ?_
            obtain ⟨q25, hq26, ok_q25, hf⟩ := gR_of hf
            refine gf_RX10_78 hC hR ok_this hq26 dX10_farmer_105 ?_
            obtain ⟨q27, hq28, ok_q27, hf⟩ := gR_of hf
            refine gf_RX10_218 hC hR ok_q25 hq28 dX10_farmer_108 ?_
            refine lv_iload_n hx hb dX10_farmer_111 rfl (lv_at hl 2 rfl) ?_
            obtain ⟨hi29, hf⟩ := ck_of hf
            refine r_iald hC hR ok_q27 hi29 dX10_farmer_112 ?_
            exact r_iret hC hR hS hE hf dX10_farmer_113
          · replace hf := if_f hf hc3
            by_cases hc4 : a2 = (4 : Int32)
            · replace hf := if_t hf hc4
              rw [hc4]
              refine lv_tableIn (tgt := 114) hx hb dX10_farmer_20 (by decide) (by decide) rfl (by decide) ?_
              refine lv_lload_n hx hb dX10_farmer_114 rfl (lv_at hl 0 rfl) ?_
              refine lv_aload_n hx hb dX10_farmer_115 rfl (lv_at hl 1 rfl) ?_
              obtain ⟨q30, hq31, ok_q30, hf⟩ := gR_of hf
              refine gf_RX10_78 hC hR ok_this hq31 dX10_farmer_116 ?_
              refine gf_RX10_105 hC hR ok_q30 dX10_farmer_119 ?_
              refine lv_land hx hb dX10_farmer_122 ?_
              obtain ⟨x35, S32, hc33, hf⟩ := cl_of hf
              refine cl_RX10_192 (As := [.long (x10 &&& (mJ S7 q30 9))]) (rest := []) hC hR hS (c_J13_bitCount_95d88 l G n (x10 &&& (mJ S7 q30 9)) S7 x35 S32 hc33 ) rfl ⟨Nat.le_of_ble_eq_true rfl, Nat.le_of_ble_eq_true rfl⟩ hl.1 rfl (Nat.le_of_ble_eq_true rfl) dX10_farmer_123 (Nat.zero_le _) (Nat.zero_le _) (fun H locs hR hS hE34 => ?_)
              have ok_this := hE34 _ _ ok_this
              have ok_q5 := hE34 _ _ ok_q5
              have ok_q30 := hE34 _ _ ok_q30
              have hE := hE.tr hE34
              exact r_iret hC hR hS hE hf dX10_farmer_126
            · replace hf := if_f hf hc4
              by_cases hc5 : a2 = (5 : Int32)
              · replace hf := if_t hf hc5
                rw [hc5]
                refine lv_tableIn (tgt := 127) hx hb dX10_farmer_20 (by decide) (by decide) rfl (by decide) ?_
                refine lv_aload_n hx hb dX10_farmer_127 rfl (lv_at hl 1 rfl) ?_
                obtain ⟨q36, hq37, ok_q36, hf⟩ := gR_of hf
                refine gf_RX10_78 hC hR ok_this hq37 dX10_farmer_128 ?_
                obtain ⟨q38, hq39, ok_q38, hf⟩ := gR_of hf
                refine gf_RX10_221 hC hR ok_q36 hq39 dX10_farmer_131 ?_
                refine lv_iload_n hx hb dX10_farmer_134 rfl (lv_at hl 2 rfl) ?_
                obtain ⟨hi40, hf⟩ := ck_of hf
                refine r_iald hC hR ok_q38 hi40 dX10_farmer_135 ?_
                exact r_iret hC hR hS hE hf dX10_farmer_136
              · replace hf := if_f hf hc5
                refine lv_tableOut (tgt := 137) hx hb dX10_farmer_20 (by have := ne_toInt hc0 (z := 0) (by decide); have := ne_toInt hc1 (z := 1) (by decide); have := ne_toInt hc2 (z := 2) (by decide); have := ne_toInt hc3 (z := 3) (by decide); have := ne_toInt hc4 (z := 4) (by decide); have := ne_toInt hc5 (z := 5) (by decide); omega) (by decide) ?_
                refine lv_bipush (v := -10) hx hb dX10_farmer_137 (by decide) ?_
                exact r_iret hC hR hS hE hf dX10_farmer_139
  · replace hf := if_t hf hc
    refine lv_bipush (v := -10) hx hb dX10_farmer_7 (by decide) ?_
    exact r_iret hC hR hS hE hf dX10_farmer_9
abbrev rX10_hour : Room := { frames := 5, cells := 0, slots := 0, locals := 139 }
def f_X10_hour (n : Nat) (this : Nat) (a1 : Int32) (S : MS) : Option (Int32 × MS) :=
  gR S (mR S this 3) 8 fun q1 => cl (f_X8_isWind n q1 a1 S) fun x6 S3 => (if x6 = 0 then some ((-1 : Int32), S3) else gR S3 (mR S3 this 1) 3 fun q7 => (if (mI S3 q7 8) < (999 : Int32) then gR S3 (mR S3 this 9) 9 fun q9 => gR S3 (mR S3 this 1) 3 fun q11 => cl (f_X9_blow n q9 q11 a1 S3) fun x16 S13 => some (x16, S13) else some ((-1 : Int32), S3)))
set_option maxRecDepth 100000 in
set_option maxHeartbeats 4000000 in
theorem c_X10_hour (l : Launch) (G : Gx) (n : Nat) (this : Nat) (a1 : Int32) (S : MS) (ro : Int32) (So : MS) (hf : f_X10_hour n this a1 S = some (ro, So)) (ok_this : Ok S this 10) : Cn G l yX10_hour cX10_hour 2 (some .int) rX10_hour [.ref this, .int a1] S (some (.int ro)) So := by
  refine Cn.of (by decide) (Nat.le_of_ble_eq_true rfl) ?_
  intro p e s m args below meth c hC hname hR ls hl
  have hC : Cx G RX10 cX10_hour 2 (some .int) p s m args meth c := hC
  have hl : lv_has ls 2 [(0, .ref this), (1, .int a1)] := hl
  have hx := hC.x
  have hb := hC.b
  have hS : va_S (gA G) s.heap s.heap [] := va_S.rf
  have hE : Ex S S := Ex.rf S
  unfold f_X10_hour at hf
  refine lv_aload_n hx hb dX10_hour_0 rfl (lv_at hl 0 rfl) ?_
  obtain ⟨q1, hq2, ok_q1, hf⟩ := gR_of hf
  refine gf_RX10_10 hC hR ok_this hq2 dX10_hour_1 ?_
  refine lv_iload_n hx hb dX10_hour_4 rfl (lv_at hl 1 rfl) ?_
  obtain ⟨x6, S3, hc4, hf⟩ := cl_of hf
  refine cl_RX10_115 (As := [.int a1]) (rest := []) hC hR hS (c_X8_isWind l G n q1 a1 S x6 S3 hc4 ok_q1) ok_q1 rfl ⟨Nat.le_of_ble_eq_true rfl, Nat.le_of_ble_eq_true rfl⟩ hl.1 rfl (Nat.le_of_ble_eq_true rfl) dX10_hour_5 (Nat.zero_le _) (Nat.zero_le _) (fun H locs hR hS hE5 => ?_)
  have ok_this := hE5 _ _ ok_this
  have ok_q1 := hE5 _ _ ok_q1
  have hE := hE.tr hE5
  refine lv_if_eq (tgt := 24) hx hb dX10_hour_8 (by decide) (fun hc => ?_) (fun hc => ?_)
  · replace hf := if_t hf hc
    refine lv_iconst (v := -1) hx hb dX10_hour_24 (by decide) ?_
    exact r_iret hC hR hS hE hf dX10_hour_25
  · replace hf := if_f hf hc
    refine lv_aload_n hx hb dX10_hour_11 rfl (lv_at hl 0 rfl) ?_
    obtain ⟨q7, hq8, ok_q7, hf⟩ := gR_of hf
    refine gf_RX10_78 hC hR ok_this hq8 dX10_hour_12 ?_
    refine gf_RX10_224 hC hR ok_q7 dX10_hour_15 ?_
    refine lv_sipush (v := 999) hx hb dX10_hour_18 (by decide) ?_
    refine lv_icmp_lt (tgt := 26) hx hb dX10_hour_21 (by decide) (fun hc => ?_) (fun hc => ?_)
    · replace hf := if_t hf hc
      refine lv_aload_n hx hb dX10_hour_26 rfl (lv_at hl 0 rfl) ?_
      obtain ⟨q9, hq10, ok_q9, hf⟩ := gR_of hf
      refine gf_RX10_51 hC hR ok_this hq10 dX10_hour_27 ?_
      refine lv_aload_n hx hb dX10_hour_30 rfl (lv_at hl 0 rfl) ?_
      obtain ⟨q11, hq12, ok_q11, hf⟩ := gR_of hf
      refine gf_RX10_78 hC hR ok_this hq12 dX10_hour_31 ?_
      refine lv_iload_n hx hb dX10_hour_34 rfl (lv_at hl 1 rfl) ?_
      obtain ⟨x16, S13, hc14, hf⟩ := cl_of hf
      refine cl_RX10_227 (As := [.ref q11, .int a1]) (rest := []) hC hR hS (c_X9_blow l G n q9 q11 a1 S3 x16 S13 hc14 ok_q9 ok_q11) ok_q9 rfl ⟨Nat.le_of_ble_eq_true rfl, Nat.le_of_ble_eq_true rfl⟩ hl.1 rfl (Nat.le_of_ble_eq_true rfl) dX10_hour_35 (Nat.zero_le _) (Nat.zero_le _) (fun H locs hR hS hE15 => ?_)
      have ok_this := hE15 _ _ ok_this
      have ok_q1 := hE15 _ _ ok_q1
      have ok_q7 := hE15 _ _ ok_q7
      have ok_q9 := hE15 _ _ ok_q9
      have ok_q11 := hE15 _ _ ok_q11
      have hE := hE.tr hE15
      exact r_iret hC hR hS hE hf dX10_hour_38
    · replace hf := if_f hf hc
      refine lv_iconst (v := -1) hx hb dX10_hour_24 (by decide) ?_
      exact r_iret hC hR hS hE hf dX10_hour_25
abbrev rX10_sow : Room := { frames := 3, cells := 0, slots := 0, locals := 74 }
def f_X10_sow (n : Nat) (this : Nat) (a1 : Int32) (a2 : Int32) (S : MS) : Option (Int32 × MS) :=
  cl (f_X10_isFarmer n a1 S) fun x4 S1 => (if x4 = 0 then zb (0 : Int32) (some ((0 : Int32), S1)) else gR S1 (mR S1 this 0) 1 fun q5 => cl (f_X1_holds n q5 a2 S1) fun x10 S7 => (if x10 = 0 then zb (0 : Int32) (some ((0 : Int32), S7)) else gR S7 (mR S7 this 1) 3 fun q11 => cl (f_X3_fieldHad n q11 a1 S7) fun x16 S13 => (if (lg_cmp ((lush x16 a2) &&& (1 : Int64)) (0 : Int64)) = 0 then zb (0 : Int32) (some ((0 : Int32), S13)) else gR S13 (mR S13 this 1) 3 fun q17 => gR S13 (mR S13 q17 6) 12 fun q19 => gR S13 (mR S13 this 1) 3 fun q21 => ck (inb a2 (mN S13 q19)) (bd (sI S13 q19 a2.toNatClampNeg (mI S13 q21 8)) fun S24 => zb (1 : Int32) (some ((1 : Int32), S24))))))
set_option maxRecDepth 100000 in
set_option maxHeartbeats 4000000 in
theorem c_X10_sow (l : Launch) (G : Gx) (n : Nat) (this : Nat) (a1 : Int32) (a2 : Int32) (S : MS) (ro : Int32) (So : MS) (hf : f_X10_sow n this a1 a2 S = some (ro, So)) (ok_this : Ok S this 10) : Cn G l yX10_sow cX10_sow 3 (some .boolean) rX10_sow [.ref this, .int a1, .int a2] S (some (.int ro)) So := by
  refine Cn.of (by decide) (Nat.le_of_ble_eq_true rfl) ?_
  intro p e s m args below meth c hC hname hR ls hl
  have hC : Cx G RX10 cX10_sow 3 (some .boolean) p s m args meth c := hC
  have hl : lv_has ls 3 [(0, .ref this), (1, .int a1), (2, .int a2)] := hl
  have hx := hC.x
  have hb := hC.b
  have hS : va_S (gA G) s.heap s.heap [] := va_S.rf
  have hE : Ex S S := Ex.rf S
  unfold f_X10_sow at hf
  refine lv_iload_n hx hb dX10_sow_0 rfl (lv_at hl 1 rfl) ?_
  obtain ⟨x4, S1, hc2, hf⟩ := cl_of hf
  refine cl_RX10_203 (As := [.int a1]) (rest := []) hC hR hS (c_X10_isFarmer l G n a1 S x4 S1 hc2 ) rfl ⟨Nat.le_of_ble_eq_true rfl, Nat.le_of_ble_eq_true rfl⟩ hl.1 rfl (Nat.le_of_ble_eq_true rfl) dX10_sow_1 (Nat.zero_le _) (Nat.zero_le _) (fun H locs hR hS hE3 => ?_)
  have ok_this := hE3 _ _ ok_this
  have hE := hE.tr hE3
  refine lv_if_eq (tgt := 18) hx hb dX10_sow_4 (by decide) (fun hc => ?_) (fun hc => ?_)
  · replace hf := if_t hf hc
    refine lv_iconst (v := 0) hx hb dX10_sow_18 (by decide) ?_
    exact r_zret hC hR hS hE hf dX10_sow_19
  · replace hf := if_f hf hc
    refine lv_aload_n hx hb dX10_sow_7 rfl (lv_at hl 0 rfl) ?_
    obtain ⟨q5, hq6, ok_q5, hf⟩ := gR_of hf
    refine gf_RX10_69 hC hR ok_this hq6 dX10_sow_8 ?_
    refine lv_iload_n hx hb dX10_sow_11 rfl (lv_at hl 2 rfl) ?_
    obtain ⟨x10, S7, hc8, hf⟩ := cl_of hf
    refine cl_RX10_101 (As := [.int a2]) (rest := []) hC hR hS (c_X1_holds l G n q5 a2 S1 x10 S7 hc8 ok_q5) ok_q5 rfl ⟨Nat.le_of_ble_eq_true rfl, Nat.le_of_ble_eq_true rfl⟩ hl.1 rfl (Nat.le_of_ble_eq_true rfl) dX10_sow_12 (Nat.zero_le _) (Nat.zero_le _) (fun H locs hR hS hE9 => ?_)
    have ok_this := hE9 _ _ ok_this
    have ok_q5 := hE9 _ _ ok_q5
    have hE := hE.tr hE9
    refine lv_if_ne (tgt := 20) hx hb dX10_sow_15 (by decide) (fun hc => ?_) (fun hc => ?_)
    · replace hf := if_f hf hc
      refine lv_aload_n hx hb dX10_sow_20 rfl (lv_at hl 0 rfl) ?_
      obtain ⟨q11, hq12, ok_q11, hf⟩ := gR_of hf
      refine gf_RX10_78 hC hR ok_this hq12 dX10_sow_21 ?_
      refine lv_iload_n hx hb dX10_sow_24 rfl (lv_at hl 1 rfl) ?_
      obtain ⟨x16, S13, hc14, hf⟩ := cl_of hf
      refine cl_RX10_206 (As := [.int a1]) (rest := []) hC hR hS (c_X3_fieldHad l G n q11 a1 S7 x16 S13 hc14 ok_q11) ok_q11 rfl ⟨Nat.le_of_ble_eq_true rfl, Nat.le_of_ble_eq_true rfl⟩ hl.1 rfl (Nat.le_of_ble_eq_true rfl) dX10_sow_25 (Nat.zero_le _) (Nat.zero_le _) (fun H locs hR hS hE15 => ?_)
      have ok_this := hE15 _ _ ok_this
      have ok_q5 := hE15 _ _ ok_q5
      have ok_q11 := hE15 _ _ ok_q11
      have hE := hE.tr hE15
      refine lv_iload_n hx hb dX10_sow_28 rfl (lv_at hl 2 rfl) ?_
      refine lv_lushr (v := (lush x16 a2)) hx hb dX10_sow_29 rfl ?_
      refine lv_lconst (v := 1) hx hb dX10_sow_30 (by decide) ?_
      refine lv_land hx hb dX10_sow_31 ?_
      refine lv_lconst (v := 0) hx hb dX10_sow_32 (by decide) ?_
      refine W.lcmp hx hb dX10_sow_33 ?_
      refine lv_if_ne (tgt := 39) hx hb dX10_sow_34 (by decide) (fun hc => ?_) (fun hc => ?_)
      · replace hf := if_f hf hc
        refine lv_aload_n hx hb dX10_sow_39 rfl (lv_at hl 0 rfl) ?_
        obtain ⟨q17, hq18, ok_q17, hf⟩ := gR_of hf
        refine gf_RX10_78 hC hR ok_this hq18 dX10_sow_40 ?_
        obtain ⟨q19, hq20, ok_q19, hf⟩ := gR_of hf
        refine gf_RX10_200 hC hR ok_q17 hq20 dX10_sow_43 ?_
        refine lv_iload_n hx hb dX10_sow_46 rfl (lv_at hl 2 rfl) ?_
        refine lv_aload_n hx hb dX10_sow_47 rfl (lv_at hl 0 rfl) ?_
        obtain ⟨q21, hq22, ok_q21, hf⟩ := gR_of hf
        refine gf_RX10_78 hC hR ok_this hq22 dX10_sow_48 ?_
        refine gf_RX10_224 hC hR ok_q21 dX10_sow_51 ?_
        obtain ⟨hi23, hf⟩ := ck_of hf
        refine rB_iast hC hR hS ok_q19 hi23 dX10_sow_54 hf (fun S24 H locs hf hR hS hE25 => ?_)
        have ok_this := hE25 _ _ ok_this
        have ok_q5 := hE25 _ _ ok_q5
        have ok_q11 := hE25 _ _ ok_q11
        have ok_q17 := hE25 _ _ ok_q17
        have ok_q19 := hE25 _ _ ok_q19
        have ok_q21 := hE25 _ _ ok_q21
        have hE := hE.tr hE25
        refine lv_iconst (v := 1) hx hb dX10_sow_55 (by decide) ?_
        exact r_zret hC hR hS hE hf dX10_sow_56
      · replace hf := if_t hf hc
        refine lv_iconst (v := 0) hx hb dX10_sow_37 (by decide) ?_
        exact r_zret hC hR hS hE hf dX10_sow_38
    · replace hf := if_t hf hc
      refine lv_iconst (v := 0) hx hb dX10_sow_18 (by decide) ?_
      exact r_zret hC hR hS hE hf dX10_sow_19
abbrev rX10_reap : Room := { frames := 4, cells := 0, slots := 0, locals := 105 }
def f_X10_reap_L49 (n : Nat) (this : Nat) (x7 : Int64) : Nat → Int32 → Int32 → MS → Option (Int32 × MS)
  | 0, _, _, _ => none
  | k + 1, x21, x22, S23 => jn (f_X10_reap_L49 n this x7 k) fun rec49_20 => gR S23 (mR S23 this 0) 1 fun q24 => (if (mI S23 q24 2) ≤ x22 then some (x21, S23) else jn (fun (x28 : Int32) (S29 : MS) => bd (x22 + (1 : Int32)) fun x30 => rec49_20 x28 x30 S29) fun j123_27 => (if (lg_cmp ((lush x7 x22) &&& (1 : Int64)) (0 : Int64)) = 0 then j123_27 x21 S23 else gR S23 (mR S23 this 1) 3 fun q31 => gR S23 (mR S23 q31 6) 12 fun q33 => ck (inb x22 (mN S23 q33)) ((if (mI S23 q33 x22.toNatClampNeg) = (-1 : Int32) then j123_27 x21 S23 else gR S23 (mR S23 this 8) 5 fun q36 => gR S23 (mR S23 this 1) 3 fun q38 => gR S23 (mR S23 this 9) 9 fun q40 => cl (f_X9_law n q40 S23) fun q45 S42 => gN S42 q45 7 fun q45 => cl (f_X5_harvest n q36 q38 x22 x7 q45 S42) fun x49 S46 => bd (x21 + x49) fun x50 => gR S46 (mR S46 this 1) 3 fun q51 => gR S46 (mR S46 q51 6) 12 fun q53 => ck (inb x22 (mN S46 q53)) (bd (sI S46 q53 x22.toNatClampNeg (-1 : Int32)) fun S56 => j123_27 x50 S56)))))
def f_X10_reap (n : Nat) (this : Nat) (a1 : Int32) (S : MS) : Option (Int32 × MS) :=
  cl (f_X10_isFarmer n a1 S) fun x4 S1 => jn (fun (x7 : Int64) (S8 : MS) => (if (lg_cmp x7 (0 : Int64)) = 0 then some ((-1 : Int32), S8) else gR S8 (mR S8 this 1) 3 fun q9 => cl (f_X3_holders n q9 x7 S8) fun x14 S11 => cl (f_J6_bitCount_0f7a4 n x14 S11) fun x18 S15 => (if x18 ≤ (1 : Int32) then f_X10_reap_L49 n this x7 n (0 : Int32) (0 : Int32) S15 else some ((-1 : Int32), S15)))) fun j19_6 => (if x4 = 0 then j19_6 (0 : Int64) S1 else gR S1 (mR S1 this 1) 3 fun q61 => cl (f_X3_fieldHad n q61 a1 S1) fun x66 S63 => j19_6 x66 S63)
set_option maxRecDepth 100000 in
set_option maxHeartbeats 4000000 in
theorem c_X10_reap (l : Launch) (G : Gx) (n : Nat) (this : Nat) (a1 : Int32) (S : MS) (ro : Int32) (So : MS) (hf : f_X10_reap n this a1 S = some (ro, So)) (ok_this : Ok S this 10) : Cn G l yX10_reap cX10_reap 6 (some .int) rX10_reap [.ref this, .int a1] S (some (.int ro)) So := by
  refine Cn.of (by decide) (Nat.le_of_ble_eq_true rfl) ?_
  intro p e s m args below meth c hC hname hR ls hl
  have hC : Cx G RX10 cX10_reap 6 (some .int) p s m args meth c := hC
  have hl : lv_has ls 6 [(0, .ref this), (1, .int a1)] := hl
  have hx := hC.x
  have hb := hC.b
  have hS : va_S (gA G) s.heap s.heap [] := va_S.rf
  have hE : Ex S S := Ex.rf S
  unfold f_X10_reap at hf
  refine lv_iload_n hx hb dX10_reap_0 rfl (lv_at hl 1 rfl) ?_
  obtain ⟨x4, S1, hc2, hf⟩ := cl_of hf
  refine cl_RX10_203 (As := [.int a1]) (rest := []) hC hR hS (c_X10_isFarmer l G n a1 S x4 S1 hc2 ) rfl ⟨Nat.le_of_ble_eq_true rfl, Nat.le_of_ble_eq_true rfl⟩ hl.1 rfl (Nat.le_of_ble_eq_true rfl) dX10_reap_1 (Nat.zero_le _) (Nat.zero_le _) (fun H locs hR hS hE3 => ?_)
  have ok_this := hE3 _ _ ok_this
  have hE := hE.tr hE3
  obtain ⟨j19_6, ej19_6, hf⟩ := jn_of2 hf
  have hj19_5 : ∀ (x7 : Int64) (S8 : MS) (H : Heap) (locs : List Loc) (ls : Array Slot), j19_6 x7 S8 = some (ro, So) → Rp G S8 H → va_S (gA G) s.heap H locs → Ex S S8 → Ok S8 this 10 → lv_has ls 6 [(0, .ref this)] → W p l e rX10_reap s m args below meth c H locs 0 0 (MQ below (Qn G S (some (.int ro)) So) args s 0 0 (gA G)) (F0 m 19 ls [.long x7]) := by
    intro x7 S8 H locs ls hf hR hS hE ok_this hl
    rw [ej19_6] at hf
    refine lv_lstore_n (lv' := [(2, .long x7), (0, .ref this)]) hx hb dX10_reap_19 rfl hl (by decide) rfl (fun ls hl => ?_)
    refine lv_lload_n hx hb dX10_reap_20 rfl (lv_at hl 0 rfl) ?_
    refine lv_lconst (v := 0) hx hb dX10_reap_21 (by decide) ?_
    refine W.lcmp hx hb dX10_reap_22 ?_
    refine lv_if_eq (tgt := 41) hx hb dX10_reap_23 (by decide) (fun hc => ?_) (fun hc => ?_)
    · replace hf := if_t hf hc
      refine lv_iconst (v := -1) hx hb dX10_reap_41 (by decide) ?_
      exact r_iret hC hR hS hE hf dX10_reap_42
    · replace hf := if_f hf hc
      refine lv_aload_n hx hb dX10_reap_26 rfl (lv_at hl 1 rfl) ?_
      obtain ⟨q9, hq10, ok_q9, hf⟩ := gR_of hf
      refine gf_RX10_78 hC hR ok_this hq10 dX10_reap_27 ?_
      refine lv_lload_n hx hb dX10_reap_30 rfl (lv_at hl 0 rfl) ?_
      obtain ⟨x14, S11, hc12, hf⟩ := cl_of hf
      refine cl_RX10_197 (As := [.long x7]) (rest := []) hC hR hS (c_X3_holders l G n q9 x7 S8 x14 S11 hc12 ok_q9) ok_q9 rfl ⟨Nat.le_of_ble_eq_true rfl, Nat.le_of_ble_eq_true rfl⟩ hl.1 rfl (Nat.le_of_ble_eq_true rfl) dX10_reap_31 (Nat.zero_le _) (Nat.zero_le _) (fun H locs hR hS hE13 => ?_)
      have ok_this := hE13 _ _ ok_this
      have ok_q9 := hE13 _ _ ok_q9
      have hE := hE.tr hE13
      obtain ⟨x18, S15, hc16, hf⟩ := cl_of hf
      refine cl_RX10_231 (As := [.int x14]) (rest := []) hC hR hS (c_J6_bitCount_0f7a4 l G n x14 S11 x18 S15 hc16 ) rfl ⟨Nat.le_of_ble_eq_true rfl, Nat.le_of_ble_eq_true rfl⟩ hl.1 rfl (Nat.le_of_ble_eq_true rfl) dX10_reap_34 (Nat.zero_le _) (Nat.zero_le _) (fun H locs hR hS hE17 => ?_)
      have ok_this := hE17 _ _ ok_this
      have ok_q9 := hE17 _ _ ok_q9
      have hE := hE.tr hE17
      refine lv_iconst (v := 1) hx hb dX10_reap_37 (by decide) ?_
      refine lv_icmp_le (tgt := 43) hx hb dX10_reap_38 (by decide) (fun hc => ?_) (fun hc => ?_)
      · replace hf := if_t hf hc
        refine lv_iconst (v := 0) hx hb dX10_reap_43 (by decide) ?_
        refine lv_istore (lv' := [(4, .int (0 : Int32)), (2, .long x7), (0, .ref this)]) hx hb dX10_reap_44 hl (by decide) rfl (fun ls hl => ?_)
        refine lv_iconst (v := 0) hx hb dX10_reap_46 (by decide) ?_
        refine lv_istore (lv' := [(5, .int (0 : Int32)), (4, .int (0 : Int32)), (2, .long x7), (0, .ref this)]) hx hb dX10_reap_47 hl (by decide) rfl (fun ls hl => ?_)
        have hh60 : ∀ k : Nat, ∀ (x21 : Int32) (x22 : Int32) (S23 : MS) (H : Heap) (locs : List Loc) (ls : Array Slot), f_X10_reap_L49 n this x7 k x21 x22 S23 = some (ro, So) → Rp G S23 H → va_S (gA G) s.heap H locs → Ex S S23 → Ok S23 this 10 → lv_has ls 6 [(0, .ref this), (2, .long x7), (4, .int x21), (5, .int x22)] → W p l e rX10_reap s m args below meth c H locs 0 0 (MQ below (Qn G S (some (.int ro)) So) args s 0 0 (gA G)) (F0 m 49 ls []) := by
          intro k
          induction k with
          | zero =>
            intro x21 x22 S23 H locs ls hf hR hS hE ok_this hl
            exact absurd hf (by rw [f_X10_reap_L49]; exact fun h => by cases h)
          | succ k ih =>
            intro x21 x22 S23 H locs ls hf hR hS hE ok_this hl
            rw [f_X10_reap_L49] at hf
            obtain ⟨rec49_20, erec49_20, hf⟩ := jn_of3 hf
            have hL49_19 : ∀ (x21 : Int32) (x22 : Int32) (S23 : MS) (H : Heap) (locs : List Loc) (ls : Array Slot), rec49_20 x21 x22 S23 = some (ro, So) → Rp G S23 H → va_S (gA G) s.heap H locs → Ex S S23 → Ok S23 this 10 → lv_has ls 6 [(0, .ref this), (2, .long x7), (4, .int x21), (5, .int x22)] → W p l e rX10_reap s m args below meth c H locs 0 0 (MQ below (Qn G S (some (.int ro)) So) args s 0 0 (gA G)) (F0 m 49 ls []) := by
              intro x21 x22 S23 H locs ls hf hR hS hE ok_this hl
              rw [erec49_20] at hf
              exact ih x21 x22 S23 _ _ _ hf hR hS hE ok_this hl
            refine lv_iload hx hb dX10_reap_49 (lv_at hl 3 rfl) ?_
            refine lv_aload_n hx hb dX10_reap_51 rfl (lv_at hl 0 rfl) ?_
            obtain ⟨q24, hq25, ok_q24, hf⟩ := gR_of hf
            refine gf_RX10_69 hC hR ok_this hq25 dX10_reap_52 ?_
            refine gf_RX10_236 hC hR ok_q24 dX10_reap_55 ?_
            refine lv_icmp_ge (tgt := 129) hx hb dX10_reap_58 (by decide) (fun hc => ?_) (fun hc => ?_)
            · replace hf := if_t hf hc
              refine lv_iload hx hb dX10_reap_129 (lv_at hl 2 rfl) ?_
              exact r_iret hC hR hS hE hf dX10_reap_131
            · replace hf := if_f hf hc
              refine lv_lload_n hx hb dX10_reap_61 rfl (lv_at hl 1 rfl) ?_
              refine lv_iload hx hb dX10_reap_62 (lv_at hl 3 rfl) ?_
              refine lv_lushr (v := (lush x7 x22)) hx hb dX10_reap_64 rfl ?_
              refine lv_lconst (v := 1) hx hb dX10_reap_65 (by decide) ?_
              refine lv_land hx hb dX10_reap_66 ?_
              refine lv_lconst (v := 0) hx hb dX10_reap_67 (by decide) ?_
              refine W.lcmp hx hb dX10_reap_68 ?_
              obtain ⟨j123_27, ej123_27, hf⟩ := jn_of2 hf
              have hj123_26 : ∀ (x28 : Int32) (S29 : MS) (H : Heap) (locs : List Loc) (ls : Array Slot), j123_27 x28 S29 = some (ro, So) → Rp G S29 H → va_S (gA G) s.heap H locs → Ex S S29 → Ok S29 this 10 → lv_has ls 6 [(0, .ref this), (2, .long x7), (4, .int x28), (5, .int x22)] → W p l e rX10_reap s m args below meth c H locs 0 0 (MQ below (Qn G S (some (.int ro)) So) args s 0 0 (gA G)) (F0 m 123 ls []) := by
                intro x28 S29 H locs ls hf hR hS hE ok_this hl
                rw [ej123_27] at hf
                refine r_iinc (n := 1) (z := 1) (lv' := fun x30 => [(5, .int x30), (0, .ref this), (2, .long x7), (4, .int x28)]) hx hb dX10_reap_123 hl (k := 3) rfl (by decide) (by decide) (fun _ => rfl) hf (fun x30 ls hf hl => ?_)
                refine lv_goto (tgt := 49) hx hb dX10_reap_126 (by decide) ?_
                exact hL49_19 x28 x30 S29 _ _ _ hf hR hS hE ok_this (lv_sub hl [1, 2, 3, 0] rfl)
              refine lv_if_eq (tgt := 123) hx hb dX10_reap_69 (by decide) (fun hc => ?_) (fun hc => ?_)
              · replace hf := if_t hf hc
                exact hj123_26 x21 S23 _ _ _ hf hR hS hE ok_this (lv_sub hl [0, 1, 2, 3] rfl)
              · replace hf := if_f hf hc
                refine lv_aload_n hx hb dX10_reap_72 rfl (lv_at hl 0 rfl) ?_
                obtain ⟨q31, hq32, ok_q31, hf⟩ := gR_of hf
                refine gf_RX10_78 hC hR ok_this hq32 dX10_reap_73 ?_
                obtain ⟨q33, hq34, ok_q33, hf⟩ := gR_of hf
                refine gf_RX10_200 hC hR ok_q31 hq34 dX10_reap_76 ?_
                refine lv_iload hx hb dX10_reap_79 (lv_at hl 3 rfl) ?_
                obtain ⟨hi35, hf⟩ := ck_of hf
                refine r_iald hC hR ok_q33 hi35 dX10_reap_81 ?_
                refine lv_iconst (v := -1) hx hb dX10_reap_82 (by decide) ?_
                refine lv_icmp_eq (tgt := 123) hx hb dX10_reap_83 (by decide) (fun hc => ?_) (fun hc => ?_)
                · replace hf := if_t hf hc
                  exact hj123_26 x21 S23 _ _ _ hf hR hS hE ok_this (lv_sub hl [0, 1, 2, 3] rfl)
                · replace hf := if_f hf hc
                  refine lv_iload hx hb dX10_reap_86 (lv_at hl 2 rfl) ?_
                  refine lv_aload_n hx hb dX10_reap_88 rfl (lv_at hl 0 rfl) ?_
                  obtain ⟨q36, hq37, ok_q36, hf⟩ := gR_of hf
                  refine gf_RX10_42 hC hR ok_this hq37 dX10_reap_89 ?_
                  refine lv_aload_n hx hb dX10_reap_92 rfl (lv_at hl 0 rfl) ?_
                  obtain ⟨q38, hq39, ok_q38, hf⟩ := gR_of hf
                  refine gf_RX10_78 hC hR ok_this hq39 dX10_reap_93 ?_
                  refine lv_iload hx hb dX10_reap_96 (lv_at hl 3 rfl) ?_
                  refine lv_lload_n hx hb dX10_reap_98 rfl (lv_at hl 1 rfl) ?_
                  refine lv_aload_n hx hb dX10_reap_99 rfl (lv_at hl 0 rfl) ?_
                  obtain ⟨q40, hq41, ok_q40, hf⟩ := gR_of hf
                  refine gf_RX10_51 hC hR ok_this hq41 dX10_reap_100 ?_
                  obtain ⟨q45, S42, hc43, hf⟩ := cl_of hf
                  refine cl_RX10_176 (As := []) (rest := [.long x7, .int x22, .ref q38, .ref q36, .int x21]) hC hR hS (c_X9_law l G n q40 S23 q45 S42 hc43 ok_q40) ok_q40 rfl ⟨Nat.le_of_ble_eq_true rfl, Nat.le_of_ble_eq_true rfl⟩ hl.1 rfl (Nat.le_of_ble_eq_true rfl) dX10_reap_103 (Nat.zero_le _) (Nat.zero_le _) (fun H locs hR hS hE44 => ?_)
                  have ok_this := hE44 _ _ ok_this
                  have ok_q24 := hE44 _ _ ok_q24
                  have ok_q31 := hE44 _ _ ok_q31
                  have ok_q33 := hE44 _ _ ok_q33
                  have ok_q36 := hE44 _ _ ok_q36
                  have ok_q38 := hE44 _ _ ok_q38
                  have ok_q40 := hE44 _ _ ok_q40
                  have hE := hE.tr hE44
                  obtain ⟨ok_q45, hf⟩ := gN_of hf
                  obtain ⟨x49, S46, hc47, hf⟩ := cl_of hf
                  refine cl_RX10_238 (As := [.ref q38, .int x22, .long x7, va_rf q45]) (rest := [.int x21]) hC hR hS (c_X5_harvest l G n q36 q38 x22 x7 q45 S42 x49 S46 hc47 ok_q36 ok_q38 ok_q45) ok_q36 rfl ⟨Nat.le_of_ble_eq_true rfl, Nat.le_of_ble_eq_true rfl⟩ hl.1 rfl (Nat.le_of_ble_eq_true rfl) dX10_reap_106 (Nat.zero_le _) (Nat.zero_le _) (fun H locs hR hS hE48 => ?_)
                  have ok_this := hE48 _ _ ok_this
                  have ok_q24 := hE48 _ _ ok_q24
                  have ok_q31 := hE48 _ _ ok_q31
                  have ok_q33 := hE48 _ _ ok_q33
                  have ok_q36 := hE48 _ _ ok_q36
                  have ok_q38 := hE48 _ _ ok_q38
                  have ok_q40 := hE48 _ _ ok_q40
                  have ok_q45 := fun q h => hE48 _ _ (ok_q45 q h)
                  have hE := hE.tr hE48
                  refine lv_iadd hx hb dX10_reap_109 ?_
                  refine bdi hf (fun x50 hf => ?_)
                  refine lv_istore (lv' := [(4, .int x50), (0, .ref this), (2, .long x7), (5, .int x22)]) hx hb dX10_reap_110 hl (by decide) rfl (fun ls hl => ?_)
                  refine lv_aload_n hx hb dX10_reap_112 rfl (lv_at hl 1 rfl) ?_
                  obtain ⟨q51, hq52, ok_q51, hf⟩ := gR_of hf
                  refine gf_RX10_78 hC hR ok_this hq52 dX10_reap_113 ?_
                  obtain ⟨q53, hq54, ok_q53, hf⟩ := gR_of hf
                  refine gf_RX10_200 hC hR ok_q51 hq54 dX10_reap_116 ?_
                  refine lv_iload hx hb dX10_reap_119 (lv_at hl 3 rfl) ?_
                  refine lv_iconst (v := -1) hx hb dX10_reap_121 (by decide) ?_
                  obtain ⟨hi55, hf⟩ := ck_of hf
                  refine rB_iast hC hR hS ok_q53 hi55 dX10_reap_122 hf (fun S56 H locs hf hR hS hE57 => ?_)
                  have ok_this := hE57 _ _ ok_this
                  have ok_q24 := hE57 _ _ ok_q24
                  have ok_q31 := hE57 _ _ ok_q31
                  have ok_q33 := hE57 _ _ ok_q33
                  have ok_q36 := hE57 _ _ ok_q36
                  have ok_q38 := hE57 _ _ ok_q38
                  have ok_q40 := hE57 _ _ ok_q40
                  have ok_q45 := fun q h => hE57 _ _ (ok_q45 q h)
                  have ok_q51 := hE57 _ _ ok_q51
                  have ok_q53 := hE57 _ _ ok_q53
                  have hE := hE.tr hE57
                  exact hj123_26 x50 S56 _ _ _ hf hR hS hE ok_this (lv_sub hl [1, 2, 0, 3] rfl)
        exact hh60 n (0 : Int32) (0 : Int32) S15 _ _ _ hf hR hS hE ok_this (lv_sub hl [3, 2, 1, 0] rfl)
      · replace hf := if_f hf hc
        refine lv_iconst (v := -1) hx hb dX10_reap_41 (by decide) ?_
        exact r_iret hC hR hS hE hf dX10_reap_42
  refine lv_if_eq (tgt := 18) hx hb dX10_reap_4 (by decide) (fun hc => ?_) (fun hc => ?_)
  · replace hf := if_t hf hc
    refine lv_lconst (v := 0) hx hb dX10_reap_18 (by decide) ?_
    exact hj19_5 (0 : Int64) S1 _ _ _ hf hR hS hE ok_this (lv_sub hl [0] rfl)
  · replace hf := if_f hf hc
    refine lv_aload_n hx hb dX10_reap_7 rfl (lv_at hl 0 rfl) ?_
    obtain ⟨q61, hq62, ok_q61, hf⟩ := gR_of hf
    refine gf_RX10_78 hC hR ok_this hq62 dX10_reap_8 ?_
    refine lv_iload_n hx hb dX10_reap_11 rfl (lv_at hl 1 rfl) ?_
    obtain ⟨x66, S63, hc64, hf⟩ := cl_of hf
    refine cl_RX10_206 (As := [.int a1]) (rest := []) hC hR hS (c_X3_fieldHad l G n q61 a1 S1 x66 S63 hc64 ok_q61) ok_q61 rfl ⟨Nat.le_of_ble_eq_true rfl, Nat.le_of_ble_eq_true rfl⟩ hl.1 rfl (Nat.le_of_ble_eq_true rfl) dX10_reap_12 (Nat.zero_le _) (Nat.zero_le _) (fun H locs hR hS hE65 => ?_)
    have ok_this := hE65 _ _ ok_this
    have ok_q61 := hE65 _ _ ok_q61
    have hE := hE.tr hE65
    refine lv_goto (tgt := 19) hx hb dX10_reap_15 (by decide) ?_
    exact hj19_5 x66 S63 _ _ _ hf hR hS hE ok_this (lv_sub hl [0] rfl)
abbrev rX10_night : Room := { frames := 4, cells := 0, slots := 0, locals := 104 }
def f_X10_night (n : Nat) (this : Nat) (a1 : Int32) (a2 : Int32) (a3 : Int32) (S : MS) : Option (Int32 × MS) :=
  cl (f_X10_isFarmer n a1 S) fun x4 S1 => (if x4 = 0 then some ((-1 : Int32), S1) else gR S1 (mR S1 this 1) 3 fun q5 => cl (f_X3_nightCell n q5 a2 a3 S1) fun x10 S7 => (if x10 = (-1 : Int32) then some ((-1 : Int32), S7) else gR S7 (mR S7 this 8) 5 fun q11 => gR S7 (mR S7 this 1) 3 fun q13 => gR S7 (mR S7 this 1) 3 fun q15 => gR S7 (mR S7 q15 5) 12 fun q17 => ck (inb a1 (mN S7 q17)) (gR S7 (mR S7 this 9) 9 fun q20 => cl (f_X9_law n q20 S7) fun q25 S22 => gN S22 q25 7 fun q25 => cl (f_X5_isFound n q11 q13 a2 (mI S7 q17 a1.toNatClampNeg) q25 S22) fun x29 S26 => (if x29 = 0 then gR S26 (mR S26 this 1) 3 fun q30 => cv (f_X3_shift n q30 a2 x10 S26) fun S32 => some ((1 : Int32), S32) else gR S26 (mR S26 this 1) 3 fun q35 => gR S26 (mR S26 q35 5) 12 fun q37 => ck (inb a1 (mN S26 q37)) (ck (inb a1 (mN S26 q37)) (bd (sI S26 q37 a1.toNatClampNeg ((mI S26 q37 a1.toNatClampNeg) + (1 : Int32))) fun S41 => some ((2 : Int32), S41)))))))
set_option maxRecDepth 100000 in
set_option maxHeartbeats 4000000 in
theorem c_X10_night (l : Launch) (G : Gx) (n : Nat) (this : Nat) (a1 : Int32) (a2 : Int32) (a3 : Int32) (S : MS) (ro : Int32) (So : MS) (hf : f_X10_night n this a1 a2 a3 S = some (ro, So)) (ok_this : Ok S this 10) : Cn G l yX10_night cX10_night 5 (some .int) rX10_night [.ref this, .int a1, .int a2, .int a3] S (some (.int ro)) So := by
  refine Cn.of (by decide) (Nat.le_of_ble_eq_true rfl) ?_
  intro p e s m args below meth c hC hname hR ls hl
  have hC : Cx G RX10 cX10_night 5 (some .int) p s m args meth c := hC
  have hl : lv_has ls 5 [(0, .ref this), (1, .int a1), (2, .int a2), (3, .int a3)] := hl
  have hx := hC.x
  have hb := hC.b
  have hS : va_S (gA G) s.heap s.heap [] := va_S.rf
  have hE : Ex S S := Ex.rf S
  unfold f_X10_night at hf
  refine lv_iload_n hx hb dX10_night_0 rfl (lv_at hl 1 rfl) ?_
  obtain ⟨x4, S1, hc2, hf⟩ := cl_of hf
  refine cl_RX10_203 (As := [.int a1]) (rest := []) hC hR hS (c_X10_isFarmer l G n a1 S x4 S1 hc2 ) rfl ⟨Nat.le_of_ble_eq_true rfl, Nat.le_of_ble_eq_true rfl⟩ hl.1 rfl (Nat.le_of_ble_eq_true rfl) dX10_night_1 (Nat.zero_le _) (Nat.zero_le _) (fun H locs hR hS hE3 => ?_)
  have ok_this := hE3 _ _ ok_this
  have hE := hE.tr hE3
  refine lv_if_ne (tgt := 9) hx hb dX10_night_4 (by decide) (fun hc => ?_) (fun hc => ?_)
  · replace hf := if_f hf hc
    refine lv_aload_n hx hb dX10_night_9 rfl (lv_at hl 0 rfl) ?_
    obtain ⟨q5, hq6, ok_q5, hf⟩ := gR_of hf
    refine gf_RX10_78 hC hR ok_this hq6 dX10_night_10 ?_
    refine lv_iload_n hx hb dX10_night_13 rfl (lv_at hl 2 rfl) ?_
    refine lv_iload_n hx hb dX10_night_14 rfl (lv_at hl 3 rfl) ?_
    obtain ⟨x10, S7, hc8, hf⟩ := cl_of hf
    refine cl_RX10_242 (As := [.int a2, .int a3]) (rest := []) hC hR hS (c_X3_nightCell l G n q5 a2 a3 S1 x10 S7 hc8 ok_q5) ok_q5 rfl ⟨Nat.le_of_ble_eq_true rfl, Nat.le_of_ble_eq_true rfl⟩ hl.1 rfl (Nat.le_of_ble_eq_true rfl) dX10_night_15 (Nat.zero_le _) (Nat.zero_le _) (fun H locs hR hS hE9 => ?_)
    have ok_this := hE9 _ _ ok_this
    have ok_q5 := hE9 _ _ ok_q5
    have hE := hE.tr hE9
    refine lv_istore (lv' := [(4, .int x10), (0, .ref this), (1, .int a1), (2, .int a2), (3, .int a3)]) hx hb dX10_night_18 hl (by decide) rfl (fun ls hl => ?_)
    refine lv_iload hx hb dX10_night_20 (lv_at hl 0 rfl) ?_
    refine lv_iconst (v := -1) hx hb dX10_night_22 (by decide) ?_
    refine lv_icmp_ne (tgt := 28) hx hb dX10_night_23 (by decide) (fun hc => ?_) (fun hc => ?_)
    · replace hf := if_f hf hc
      refine lv_aload_n hx hb dX10_night_28 rfl (lv_at hl 1 rfl) ?_
      obtain ⟨q11, hq12, ok_q11, hf⟩ := gR_of hf
      refine gf_RX10_42 hC hR ok_this hq12 dX10_night_29 ?_
      refine lv_aload_n hx hb dX10_night_32 rfl (lv_at hl 1 rfl) ?_
      obtain ⟨q13, hq14, ok_q13, hf⟩ := gR_of hf
      refine gf_RX10_78 hC hR ok_this hq14 dX10_night_33 ?_
      refine lv_iload_n hx hb dX10_night_36 rfl (lv_at hl 3 rfl) ?_
      refine lv_aload_n hx hb dX10_night_37 rfl (lv_at hl 1 rfl) ?_
      obtain ⟨q15, hq16, ok_q15, hf⟩ := gR_of hf
      refine gf_RX10_78 hC hR ok_this hq16 dX10_night_38 ?_
      obtain ⟨q17, hq18, ok_q17, hf⟩ := gR_of hf
      refine gf_RX10_218 hC hR ok_q15 hq18 dX10_night_41 ?_
      refine lv_iload_n hx hb dX10_night_44 rfl (lv_at hl 2 rfl) ?_
      obtain ⟨hi19, hf⟩ := ck_of hf
      refine r_iald hC hR ok_q17 hi19 dX10_night_45 ?_
      refine lv_aload_n hx hb dX10_night_46 rfl (lv_at hl 1 rfl) ?_
      obtain ⟨q20, hq21, ok_q20, hf⟩ := gR_of hf
      refine gf_RX10_51 hC hR ok_this hq21 dX10_night_47 ?_
      obtain ⟨q25, S22, hc23, hf⟩ := cl_of hf
      refine cl_RX10_176 (As := []) (rest := [.int (mI S7 q17 a1.toNatClampNeg), .int a2, .ref q13, .ref q11]) hC hR hS (c_X9_law l G n q20 S7 q25 S22 hc23 ok_q20) ok_q20 rfl ⟨Nat.le_of_ble_eq_true rfl, Nat.le_of_ble_eq_true rfl⟩ hl.1 rfl (Nat.le_of_ble_eq_true rfl) dX10_night_50 (Nat.zero_le _) (Nat.zero_le _) (fun H locs hR hS hE24 => ?_)
      have ok_this := hE24 _ _ ok_this
      have ok_q5 := hE24 _ _ ok_q5
      have ok_q11 := hE24 _ _ ok_q11
      have ok_q13 := hE24 _ _ ok_q13
      have ok_q15 := hE24 _ _ ok_q15
      have ok_q17 := hE24 _ _ ok_q17
      have ok_q20 := hE24 _ _ ok_q20
      have hE := hE.tr hE24
      obtain ⟨ok_q25, hf⟩ := gN_of hf
      obtain ⟨x29, S26, hc27, hf⟩ := cl_of hf
      refine cl_RX10_245 (As := [.ref q13, .int a2, .int (mI S7 q17 a1.toNatClampNeg), va_rf q25]) (rest := []) hC hR hS (c_X5_isFound l G n q11 q13 a2 (mI S7 q17 a1.toNatClampNeg) q25 S22 x29 S26 hc27 ok_q11 ok_q13 ok_q25) ok_q11 rfl ⟨Nat.le_of_ble_eq_true rfl, Nat.le_of_ble_eq_true rfl⟩ hl.1 rfl (Nat.le_of_ble_eq_true rfl) dX10_night_53 (Nat.zero_le _) (Nat.zero_le _) (fun H locs hR hS hE28 => ?_)
      have ok_this := hE28 _ _ ok_this
      have ok_q5 := hE28 _ _ ok_q5
      have ok_q11 := hE28 _ _ ok_q11
      have ok_q13 := hE28 _ _ ok_q13
      have ok_q15 := hE28 _ _ ok_q15
      have ok_q17 := hE28 _ _ ok_q17
      have ok_q20 := hE28 _ _ ok_q20
      have ok_q25 := fun q h => hE28 _ _ (ok_q25 q h)
      have hE := hE.tr hE28
      refine lv_if_eq (tgt := 74) hx hb dX10_night_56 (by decide) (fun hc => ?_) (fun hc => ?_)
      · replace hf := if_t hf hc
        refine lv_aload_n hx hb dX10_night_74 rfl (lv_at hl 1 rfl) ?_
        obtain ⟨q30, hq31, ok_q30, hf⟩ := gR_of hf
        refine gf_RX10_78 hC hR ok_this hq31 dX10_night_75 ?_
        refine lv_iload_n hx hb dX10_night_78 rfl (lv_at hl 3 rfl) ?_
        refine lv_iload hx hb dX10_night_79 (lv_at hl 0 rfl) ?_
        obtain ⟨S32, hc33, hf⟩ := cv_of hf
        refine cl_RX10_249 (As := [.int a2, .int x10]) (rest := []) hC hR hS (c_X3_shift l G n q30 a2 x10 S26 S32 hc33 ok_q30) ok_q30 rfl ⟨Nat.le_of_ble_eq_true rfl, Nat.le_of_ble_eq_true rfl⟩ hl.1 rfl (Nat.le_of_ble_eq_true rfl) dX10_night_81 (Nat.zero_le _) (Nat.zero_le _) (fun H locs hR hS hE34 => ?_)
        have ok_this := hE34 _ _ ok_this
        have ok_q5 := hE34 _ _ ok_q5
        have ok_q11 := hE34 _ _ ok_q11
        have ok_q13 := hE34 _ _ ok_q13
        have ok_q15 := hE34 _ _ ok_q15
        have ok_q17 := hE34 _ _ ok_q17
        have ok_q20 := hE34 _ _ ok_q20
        have ok_q25 := fun q h => hE34 _ _ (ok_q25 q h)
        have ok_q30 := hE34 _ _ ok_q30
        have hE := hE.tr hE34
        refine lv_iconst (v := 1) hx hb dX10_night_84 (by decide) ?_
        exact r_iret hC hR hS hE hf dX10_night_85
      · replace hf := if_f hf hc
        refine lv_aload_n hx hb dX10_night_59 rfl (lv_at hl 1 rfl) ?_
        obtain ⟨q35, hq36, ok_q35, hf⟩ := gR_of hf
        refine gf_RX10_78 hC hR ok_this hq36 dX10_night_60 ?_
        obtain ⟨q37, hq38, ok_q37, hf⟩ := gR_of hf
        refine gf_RX10_218 hC hR ok_q35 hq38 dX10_night_63 ?_
        refine lv_iload_n hx hb dX10_night_66 rfl (lv_at hl 2 rfl) ?_
        refine lv_dup2_11 hx hb dX10_night_67 rfl rfl ?_
        obtain ⟨hi39, hf⟩ := ck_of hf
        refine r_iald hC hR ok_q37 hi39 dX10_night_68 ?_
        refine lv_iconst (v := 1) hx hb dX10_night_69 (by decide) ?_
        refine lv_iadd hx hb dX10_night_70 ?_
        obtain ⟨hi40, hf⟩ := ck_of hf
        refine rB_iast hC hR hS ok_q37 hi40 dX10_night_71 hf (fun S41 H locs hf hR hS hE42 => ?_)
        have ok_this := hE42 _ _ ok_this
        have ok_q5 := hE42 _ _ ok_q5
        have ok_q11 := hE42 _ _ ok_q11
        have ok_q13 := hE42 _ _ ok_q13
        have ok_q15 := hE42 _ _ ok_q15
        have ok_q17 := hE42 _ _ ok_q17
        have ok_q20 := hE42 _ _ ok_q20
        have ok_q25 := fun q h => hE42 _ _ (ok_q25 q h)
        have ok_q35 := hE42 _ _ ok_q35
        have ok_q37 := hE42 _ _ ok_q37
        have hE := hE.tr hE42
        refine lv_iconst (v := 2) hx hb dX10_night_72 (by decide) ?_
        exact r_iret hC hR hS hE hf dX10_night_73
    · replace hf := if_t hf hc
      refine lv_iconst (v := -1) hx hb dX10_night_26 (by decide) ?_
      exact r_iret hC hR hS hE hf dX10_night_27
  · replace hf := if_t hf hc
    refine lv_iconst (v := -1) hx hb dX10_night_7 (by decide) ?_
    exact r_iret hC hR hS hE hf dX10_night_8
abbrev rX10_odds : Room := { frames := 42, cells := 0, slots := 0, locals := 1178 }
def f_X10_odds (n : Nat) (this : Nat) (a1 : Int32) (a2 : Int32) (a3 : Int32) (S : MS) : Option (Int32 × MS) :=
  cl (f_X10_isFarmer n a1 S) fun x4 S1 => (if x4 = 0 then some ((-1 : Int32), S1) else (if a3 < 0 then some ((-1 : Int32), S1) else (if a3 ≤ (4 : Int32) then (if a2 = (-1 : Int32) then gR S1 (mR S1 this 3) 8 fun q17 => cl (f_X8_allWeight n q17 a3 S1) fun x22 S19 => some ((x22.toInt32), S19) else gR S1 (mR S1 this 0) 1 fun q5 => cl (f_X1_holds n q5 a2 S1) fun x10 S7 => (if x10 = 0 then some ((-1 : Int32), S7) else gR S7 (mR S7 this 10) 2 fun q11 => cl (f_X2_weightHad n q11 a1 a2 a3 S7) fun x16 S13 => some ((x16.toInt32), S13))) else some ((-1 : Int32), S1))))
set_option maxRecDepth 100000 in
set_option maxHeartbeats 4000000 in
theorem c_X10_odds (l : Launch) (G : Gx) (n : Nat) (this : Nat) (a1 : Int32) (a2 : Int32) (a3 : Int32) (S : MS) (ro : Int32) (So : MS) (hf : f_X10_odds n this a1 a2 a3 S = some (ro, So)) (ok_this : Ok S this 10) : Cn G l yX10_odds cX10_odds 4 (some .int) rX10_odds [.ref this, .int a1, .int a2, .int a3] S (some (.int ro)) So := by
  refine Cn.of (by decide) (Nat.le_of_ble_eq_true rfl) ?_
  intro p e s m args below meth c hC hname hR ls hl
  have hC : Cx G RX10 cX10_odds 4 (some .int) p s m args meth c := hC
  have hl : lv_has ls 4 [(0, .ref this), (1, .int a1), (2, .int a2), (3, .int a3)] := hl
  have hx := hC.x
  have hb := hC.b
  have hS : va_S (gA G) s.heap s.heap [] := va_S.rf
  have hE : Ex S S := Ex.rf S
  unfold f_X10_odds at hf
  refine lv_iload_n hx hb dX10_odds_0 rfl (lv_at hl 1 rfl) ?_
  obtain ⟨x4, S1, hc2, hf⟩ := cl_of hf
  refine cl_RX10_203 (As := [.int a1]) (rest := []) hC hR hS (c_X10_isFarmer l G n a1 S x4 S1 hc2 ) rfl ⟨Nat.le_of_ble_eq_true rfl, Nat.le_of_ble_eq_true rfl⟩ hl.1 rfl (Nat.le_of_ble_eq_true rfl) dX10_odds_1 (Nat.zero_le _) (Nat.zero_le _) (fun H locs hR hS hE3 => ?_)
  have ok_this := hE3 _ _ ok_this
  have hE := hE.tr hE3
  refine lv_if_eq (tgt := 16) hx hb dX10_odds_4 (by decide) (fun hc => ?_) (fun hc => ?_)
  · replace hf := if_t hf hc
    refine lv_iconst (v := -1) hx hb dX10_odds_16 (by decide) ?_
    exact r_iret hC hR hS hE hf dX10_odds_17
  · replace hf := if_f hf hc
    refine lv_iload_n hx hb dX10_odds_7 rfl (lv_at hl 3 rfl) ?_
    refine lv_if_lt (tgt := 16) hx hb dX10_odds_8 (by decide) (fun hc => ?_) (fun hc => ?_)
    · replace hf := if_t hf hc
      refine lv_iconst (v := -1) hx hb dX10_odds_16 (by decide) ?_
      exact r_iret hC hR hS hE hf dX10_odds_17
    · replace hf := if_f hf hc
      refine lv_iload_n hx hb dX10_odds_11 rfl (lv_at hl 3 rfl) ?_
      refine lv_iconst (v := 4) hx hb dX10_odds_12 (by decide) ?_
      refine lv_icmp_le (tgt := 18) hx hb dX10_odds_13 (by decide) (fun hc => ?_) (fun hc => ?_)
      · replace hf := if_t hf hc
        refine lv_iload_n hx hb dX10_odds_18 rfl (lv_at hl 2 rfl) ?_
        refine lv_iconst (v := -1) hx hb dX10_odds_19 (by decide) ?_
        refine lv_icmp_ne (tgt := 33) hx hb dX10_odds_20 (by decide) (fun hc => ?_) (fun hc => ?_)
        · replace hf := if_f hf hc
          refine lv_aload_n hx hb dX10_odds_33 rfl (lv_at hl 0 rfl) ?_
          obtain ⟨q5, hq6, ok_q5, hf⟩ := gR_of hf
          refine gf_RX10_69 hC hR ok_this hq6 dX10_odds_34 ?_
          refine lv_iload_n hx hb dX10_odds_37 rfl (lv_at hl 2 rfl) ?_
          obtain ⟨x10, S7, hc8, hf⟩ := cl_of hf
          refine cl_RX10_101 (As := [.int a2]) (rest := []) hC hR hS (c_X1_holds l G n q5 a2 S1 x10 S7 hc8 ok_q5) ok_q5 rfl ⟨Nat.le_of_ble_eq_true rfl, Nat.le_of_ble_eq_true rfl⟩ hl.1 rfl (Nat.le_of_ble_eq_true rfl) dX10_odds_38 (Nat.zero_le _) (Nat.zero_le _) (fun H locs hR hS hE9 => ?_)
          have ok_this := hE9 _ _ ok_this
          have ok_q5 := hE9 _ _ ok_q5
          have hE := hE.tr hE9
          refine lv_if_eq (tgt := 58) hx hb dX10_odds_41 (by decide) (fun hc => ?_) (fun hc => ?_)
          · replace hf := if_t hf hc
            refine lv_iconst (v := -1) hx hb dX10_odds_58 (by decide) ?_
            exact r_iret hC hR hS hE hf dX10_odds_59
          · replace hf := if_f hf hc
            refine lv_aload_n hx hb dX10_odds_44 rfl (lv_at hl 0 rfl) ?_
            obtain ⟨q11, hq12, ok_q11, hf⟩ := gR_of hf
            refine gf_RX10_90 hC hR ok_this hq12 dX10_odds_45 ?_
            refine lv_iload_n hx hb dX10_odds_48 rfl (lv_at hl 1 rfl) ?_
            refine lv_iload_n hx hb dX10_odds_49 rfl (lv_at hl 2 rfl) ?_
            refine lv_iload_n hx hb dX10_odds_50 rfl (lv_at hl 3 rfl) ?_
            obtain ⟨x16, S13, hc14, hf⟩ := cl_of hf
            refine cl_RX10_255 (As := [.int a1, .int a2, .int a3]) (rest := []) hC hR hS (c_X2_weightHad l G n q11 a1 a2 a3 S7 x16 S13 hc14 ok_q11) ok_q11 rfl ⟨Nat.le_of_ble_eq_true rfl, Nat.le_of_ble_eq_true rfl⟩ hl.1 rfl (Nat.le_of_ble_eq_true rfl) dX10_odds_51 (Nat.zero_le _) (Nat.zero_le _) (fun H locs hR hS hE15 => ?_)
            have ok_this := hE15 _ _ ok_this
            have ok_q5 := hE15 _ _ ok_q5
            have ok_q11 := hE15 _ _ ok_q11
            have hE := hE.tr hE15
            refine lv_l2i (v := (x16.toInt32)) hx hb dX10_odds_54 rfl ?_
            refine lv_goto (tgt := 59) hx hb dX10_odds_55 (by decide) ?_
            exact r_iret hC hR hS hE hf dX10_odds_59
        · replace hf := if_t hf hc
          refine lv_aload_n hx hb dX10_odds_23 rfl (lv_at hl 0 rfl) ?_
          obtain ⟨q17, hq18, ok_q17, hf⟩ := gR_of hf
          refine gf_RX10_10 hC hR ok_this hq18 dX10_odds_24 ?_
          refine lv_iload_n hx hb dX10_odds_27 rfl (lv_at hl 3 rfl) ?_
          obtain ⟨x22, S19, hc20, hf⟩ := cl_of hf
          refine cl_RX10_252 (As := [.int a3]) (rest := []) hC hR hS (c_X8_allWeight l G n q17 a3 S1 x22 S19 hc20 ok_q17) ok_q17 rfl ⟨Nat.le_of_ble_eq_true rfl, Nat.le_of_ble_eq_true rfl⟩ hl.1 rfl (Nat.le_of_ble_eq_true rfl) dX10_odds_28 (Nat.zero_le _) (Nat.zero_le _) (fun H locs hR hS hE21 => ?_)
          have ok_this := hE21 _ _ ok_this
          have ok_q17 := hE21 _ _ ok_q17
          have hE := hE.tr hE21
          refine lv_l2i (v := (x22.toInt32)) hx hb dX10_odds_31 rfl ?_
          exact r_iret hC hR hS hE hf dX10_odds_32
      · replace hf := if_f hf hc
        refine lv_iconst (v := -1) hx hb dX10_odds_16 (by decide) ?_
        exact r_iret hC hR hS hE hf dX10_odds_17
abbrev rX10_mean : Room := { frames := 43, cells := 0, slots := 0, locals := 1201 }
def f_X10_mean (n : Nat) (this : Nat) (a1 : Int32) (a2 : Int32) (S : MS) : Option (Int32 × MS) :=
  cl (f_X10_isFarmer n a1 S) fun x4 S1 => (if x4 = 0 then some ((-1 : Int32), S1) else (if a2 < 0 then some ((-1 : Int32), S1) else (if a2 ≤ (4 : Int32) then gR S1 (mR S1 this 10) 2 fun q5 => cl (f_X2_meanNow n q5 a1 a2 S1) fun x10 S7 => some (x10, S7) else some ((-1 : Int32), S1))))
set_option maxRecDepth 100000 in
set_option maxHeartbeats 4000000 in
theorem c_X10_mean (l : Launch) (G : Gx) (n : Nat) (this : Nat) (a1 : Int32) (a2 : Int32) (S : MS) (ro : Int32) (So : MS) (hf : f_X10_mean n this a1 a2 S = some (ro, So)) (ok_this : Ok S this 10) : Cn G l yX10_mean cX10_mean 3 (some .int) rX10_mean [.ref this, .int a1, .int a2] S (some (.int ro)) So := by
  refine Cn.of (by decide) (Nat.le_of_ble_eq_true rfl) ?_
  intro p e s m args below meth c hC hname hR ls hl
  have hC : Cx G RX10 cX10_mean 3 (some .int) p s m args meth c := hC
  have hl : lv_has ls 3 [(0, .ref this), (1, .int a1), (2, .int a2)] := hl
  have hx := hC.x
  have hb := hC.b
  have hS : va_S (gA G) s.heap s.heap [] := va_S.rf
  have hE : Ex S S := Ex.rf S
  unfold f_X10_mean at hf
  refine lv_iload_n hx hb dX10_mean_0 rfl (lv_at hl 1 rfl) ?_
  obtain ⟨x4, S1, hc2, hf⟩ := cl_of hf
  refine cl_RX10_203 (As := [.int a1]) (rest := []) hC hR hS (c_X10_isFarmer l G n a1 S x4 S1 hc2 ) rfl ⟨Nat.le_of_ble_eq_true rfl, Nat.le_of_ble_eq_true rfl⟩ hl.1 rfl (Nat.le_of_ble_eq_true rfl) dX10_mean_1 (Nat.zero_le _) (Nat.zero_le _) (fun H locs hR hS hE3 => ?_)
  have ok_this := hE3 _ _ ok_this
  have hE := hE.tr hE3
  refine lv_if_eq (tgt := 16) hx hb dX10_mean_4 (by decide) (fun hc => ?_) (fun hc => ?_)
  · replace hf := if_t hf hc
    refine lv_iconst (v := -1) hx hb dX10_mean_16 (by decide) ?_
    exact r_iret hC hR hS hE hf dX10_mean_17
  · replace hf := if_f hf hc
    refine lv_iload_n hx hb dX10_mean_7 rfl (lv_at hl 2 rfl) ?_
    refine lv_if_lt (tgt := 16) hx hb dX10_mean_8 (by decide) (fun hc => ?_) (fun hc => ?_)
    · replace hf := if_t hf hc
      refine lv_iconst (v := -1) hx hb dX10_mean_16 (by decide) ?_
      exact r_iret hC hR hS hE hf dX10_mean_17
    · replace hf := if_f hf hc
      refine lv_iload_n hx hb dX10_mean_11 rfl (lv_at hl 2 rfl) ?_
      refine lv_iconst (v := 4) hx hb dX10_mean_12 (by decide) ?_
      refine lv_icmp_le (tgt := 18) hx hb dX10_mean_13 (by decide) (fun hc => ?_) (fun hc => ?_)
      · replace hf := if_t hf hc
        refine lv_aload_n hx hb dX10_mean_18 rfl (lv_at hl 0 rfl) ?_
        obtain ⟨q5, hq6, ok_q5, hf⟩ := gR_of hf
        refine gf_RX10_90 hC hR ok_this hq6 dX10_mean_19 ?_
        refine lv_iload_n hx hb dX10_mean_22 rfl (lv_at hl 1 rfl) ?_
        refine lv_iload_n hx hb dX10_mean_23 rfl (lv_at hl 2 rfl) ?_
        obtain ⟨x10, S7, hc8, hf⟩ := cl_of hf
        refine cl_RX10_259 (As := [.int a1, .int a2]) (rest := []) hC hR hS (c_X2_meanNow l G n q5 a1 a2 S1 x10 S7 hc8 ok_q5) ok_q5 rfl ⟨Nat.le_of_ble_eq_true rfl, Nat.le_of_ble_eq_true rfl⟩ hl.1 rfl (Nat.le_of_ble_eq_true rfl) dX10_mean_24 (Nat.zero_le _) (Nat.zero_le _) (fun H locs hR hS hE9 => ?_)
        have ok_this := hE9 _ _ ok_this
        have ok_q5 := hE9 _ _ ok_q5
        have hE := hE.tr hE9
        exact r_iret hC hR hS hE hf dX10_mean_27
      · replace hf := if_f hf hc
        refine lv_iconst (v := -1) hx hb dX10_mean_16 (by decide) ?_
        exact r_iret hC hR hS hE hf dX10_mean_17
abbrev rX10_best : Room := { frames := 43, cells := 0, slots := 0, locals := 1204 }
def f_X10_best (n : Nat) (this : Nat) (a1 : Int32) (a2 : Int32) (a3 : Int32) (S : MS) : Option (Int32 × MS) :=
  cl (f_X10_isFarmer n a1 S) fun x4 S1 => (if x4 = 0 then some ((-1 : Int32), S1) else (if a2 < 0 then some ((-1 : Int32), S1) else (if (2 : Int32) < a2 then some ((-1 : Int32), S1) else (if a3 < 0 then some ((-1 : Int32), S1) else (if a3 ≤ (2 : Int32) then gR S1 (mR S1 this 10) 2 fun q5 => cv (f_X2_seekNight n q5 a1 a2 S1) fun S7 => gR S7 (mR S7 this 10) 2 fun q10 => (if (mI S7 q10 0) = (-1 : Int32) then some ((-1 : Int32), S7) else (if a3 = 0 then gR S7 (mR S7 this 10) 2 fun q16 => some ((mI S7 q16 0), S7) else (if a3 = (1 : Int32) then gR S7 (mR S7 this 10) 2 fun q14 => some ((mI S7 q14 1), S7) else gR S7 (mR S7 this 10) 2 fun q12 => some ((mI S7 q12 2), S7)))) else some ((-1 : Int32), S1))))))
set_option maxRecDepth 100000 in
set_option maxHeartbeats 4000000 in
theorem c_X10_best (l : Launch) (G : Gx) (n : Nat) (this : Nat) (a1 : Int32) (a2 : Int32) (a3 : Int32) (S : MS) (ro : Int32) (So : MS) (hf : f_X10_best n this a1 a2 a3 S = some (ro, So)) (ok_this : Ok S this 10) : Cn G l yX10_best cX10_best 4 (some .int) rX10_best [.ref this, .int a1, .int a2, .int a3] S (some (.int ro)) So := by
  refine Cn.of (by decide) (Nat.le_of_ble_eq_true rfl) ?_
  intro p e s m args below meth c hC hname hR ls hl
  have hC : Cx G RX10 cX10_best 4 (some .int) p s m args meth c := hC
  have hl : lv_has ls 4 [(0, .ref this), (1, .int a1), (2, .int a2), (3, .int a3)] := hl
  have hx := hC.x
  have hb := hC.b
  have hS : va_S (gA G) s.heap s.heap [] := va_S.rf
  have hE : Ex S S := Ex.rf S
  unfold f_X10_best at hf
  refine lv_iload_n hx hb dX10_best_0 rfl (lv_at hl 1 rfl) ?_
  obtain ⟨x4, S1, hc2, hf⟩ := cl_of hf
  refine cl_RX10_203 (As := [.int a1]) (rest := []) hC hR hS (c_X10_isFarmer l G n a1 S x4 S1 hc2 ) rfl ⟨Nat.le_of_ble_eq_true rfl, Nat.le_of_ble_eq_true rfl⟩ hl.1 rfl (Nat.le_of_ble_eq_true rfl) dX10_best_1 (Nat.zero_le _) (Nat.zero_le _) (fun H locs hR hS hE3 => ?_)
  have ok_this := hE3 _ _ ok_this
  have hE := hE.tr hE3
  refine lv_if_eq (tgt := 25) hx hb dX10_best_4 (by decide) (fun hc => ?_) (fun hc => ?_)
  · replace hf := if_t hf hc
    refine lv_iconst (v := -1) hx hb dX10_best_25 (by decide) ?_
    exact r_iret hC hR hS hE hf dX10_best_26
  · replace hf := if_f hf hc
    refine lv_iload_n hx hb dX10_best_7 rfl (lv_at hl 2 rfl) ?_
    refine lv_if_lt (tgt := 25) hx hb dX10_best_8 (by decide) (fun hc => ?_) (fun hc => ?_)
    · replace hf := if_t hf hc
      refine lv_iconst (v := -1) hx hb dX10_best_25 (by decide) ?_
      exact r_iret hC hR hS hE hf dX10_best_26
    · replace hf := if_f hf hc
      refine lv_iload_n hx hb dX10_best_11 rfl (lv_at hl 2 rfl) ?_
      refine lv_iconst (v := 2) hx hb dX10_best_12 (by decide) ?_
      refine lv_icmp_gt (tgt := 25) hx hb dX10_best_13 (by decide) (fun hc => ?_) (fun hc => ?_)
      · replace hf := if_t hf hc
        refine lv_iconst (v := -1) hx hb dX10_best_25 (by decide) ?_
        exact r_iret hC hR hS hE hf dX10_best_26
      · replace hf := if_f hf hc
        refine lv_iload_n hx hb dX10_best_16 rfl (lv_at hl 3 rfl) ?_
        refine lv_if_lt (tgt := 25) hx hb dX10_best_17 (by decide) (fun hc => ?_) (fun hc => ?_)
        · replace hf := if_t hf hc
          refine lv_iconst (v := -1) hx hb dX10_best_25 (by decide) ?_
          exact r_iret hC hR hS hE hf dX10_best_26
        · replace hf := if_f hf hc
          refine lv_iload_n hx hb dX10_best_20 rfl (lv_at hl 3 rfl) ?_
          refine lv_iconst (v := 2) hx hb dX10_best_21 (by decide) ?_
          refine lv_icmp_le (tgt := 27) hx hb dX10_best_22 (by decide) (fun hc => ?_) (fun hc => ?_)
          · replace hf := if_t hf hc
            refine lv_aload_n hx hb dX10_best_27 rfl (lv_at hl 0 rfl) ?_
            obtain ⟨q5, hq6, ok_q5, hf⟩ := gR_of hf
            refine gf_RX10_90 hC hR ok_this hq6 dX10_best_28 ?_
            refine lv_iload_n hx hb dX10_best_31 rfl (lv_at hl 1 rfl) ?_
            refine lv_iload_n hx hb dX10_best_32 rfl (lv_at hl 2 rfl) ?_
            obtain ⟨S7, hc8, hf⟩ := cv_of hf
            refine cl_RX10_262 (As := [.int a1, .int a2]) (rest := []) hC hR hS (c_X2_seekNight l G n q5 a1 a2 S1 S7 hc8 ok_q5) ok_q5 rfl ⟨Nat.le_of_ble_eq_true rfl, Nat.le_of_ble_eq_true rfl⟩ hl.1 rfl (Nat.le_of_ble_eq_true rfl) dX10_best_33 (Nat.zero_le _) (Nat.zero_le _) (fun H locs hR hS hE9 => ?_)
            have ok_this := hE9 _ _ ok_this
            have ok_q5 := hE9 _ _ ok_q5
            have hE := hE.tr hE9
            refine lv_aload_n hx hb dX10_best_36 rfl (lv_at hl 0 rfl) ?_
            obtain ⟨q10, hq11, ok_q10, hf⟩ := gR_of hf
            refine gf_RX10_90 hC hR ok_this hq11 dX10_best_37 ?_
            refine gf_RX10_265 hC hR ok_q10 dX10_best_40 ?_
            refine lv_iconst (v := -1) hx hb dX10_best_43 (by decide) ?_
            refine lv_icmp_ne (tgt := 49) hx hb dX10_best_44 (by decide) (fun hc => ?_) (fun hc => ?_)
            · replace hf := if_f hf hc
              refine lv_iload_n hx hb dX10_best_49 rfl (lv_at hl 3 rfl) ?_
              refine lv_if_ne (tgt := 61) hx hb dX10_best_50 (by decide) (fun hc => ?_) (fun hc => ?_)
              · replace hf := if_f hf hc
                refine lv_iload_n hx hb dX10_best_61 rfl (lv_at hl 3 rfl) ?_
                refine lv_iconst (v := 1) hx hb dX10_best_62 (by decide) ?_
                refine lv_icmp_ne (tgt := 76) hx hb dX10_best_63 (by decide) (fun hc => ?_) (fun hc => ?_)
                · replace hf := if_f hf hc
                  refine lv_aload_n hx hb dX10_best_76 rfl (lv_at hl 0 rfl) ?_
                  obtain ⟨q12, hq13, ok_q12, hf⟩ := gR_of hf
                  refine gf_RX10_90 hC hR ok_this hq13 dX10_best_77 ?_
                  refine gf_RX10_271 hC hR ok_q12 dX10_best_80 ?_
                  exact r_iret hC hR hS hE hf dX10_best_83
                · replace hf := if_t hf hc
                  refine lv_aload_n hx hb dX10_best_66 rfl (lv_at hl 0 rfl) ?_
                  obtain ⟨q14, hq15, ok_q14, hf⟩ := gR_of hf
                  refine gf_RX10_90 hC hR ok_this hq15 dX10_best_67 ?_
                  refine gf_RX10_268 hC hR ok_q14 dX10_best_70 ?_
                  refine lv_goto (tgt := 83) hx hb dX10_best_73 (by decide) ?_
                  exact r_iret hC hR hS hE hf dX10_best_83
              · replace hf := if_t hf hc
                refine lv_aload_n hx hb dX10_best_53 rfl (lv_at hl 0 rfl) ?_
                obtain ⟨q16, hq17, ok_q16, hf⟩ := gR_of hf
                refine gf_RX10_90 hC hR ok_this hq17 dX10_best_54 ?_
                refine gf_RX10_265 hC hR ok_q16 dX10_best_57 ?_
                exact r_iret hC hR hS hE hf dX10_best_60
            · replace hf := if_t hf hc
              refine lv_iconst (v := -1) hx hb dX10_best_47 (by decide) ?_
              exact r_iret hC hR hS hE hf dX10_best_48
          · replace hf := if_f hf hc
            refine lv_iconst (v := -1) hx hb dX10_best_25 (by decide) ?_
            exact r_iret hC hR hS hE hf dX10_best_26
