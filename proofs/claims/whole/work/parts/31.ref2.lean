abbrev rX11_parsed : Room := { frames := 5, cells := 0, slots := 0, locals := 113 }
def f_X11_parsed_L12 (n : Nat) (this : Nat) (a1 : Int32) (j47_7 : MS → Option (Int32 × MS)) : Nat → Int32 → MS → Option (Int32 × MS)
  | 0, _, _ => none
  | k + 1, x25, S26 => jn (f_X11_parsed_L12 n this a1 j47_7 k) fun rec12_24 => (if x25 = 0 then j47_7 S26 else (if (mI S26 this 22) = 0 then cl (f_X11_beginOne n this a1 S26) fun x30 S27 => (if x30 = 0 then rec12_24 x25 S27 else some (x30, S27)) else cl (f_X11_behindOne n this a1 S26) fun x34 S31 => rec12_24 x34 S31))
def f_X11_parsed (n : Nat) (this : Nat) (a1 : Int32) (S : MS) : Option (Int32 × MS) :=
  bd (sI S this 20 (0 : Int32)) fun S1 => zb (0 : Int32) (bd (sI S1 this 22 (0 : Int32)) fun S3 => jn (fun (S8 : MS) => cl (f_X11_marker n this S8) fun x12 S9 => (if 0 ≤ x12 then some ((1 : Int32), S9) else (if a1 = 0 then cv (f_X11_settle n this (1 : Int32) S9) fun S13 => some ((0 : Int32), S13) else cl (f_X11_isCompared n this S9) fun x19 S16 => (if x19 = 0 then some ((1 : Int32), S16) else cv (f_X11_settle n this (1 : Int32) S16) fun S20 => some ((0 : Int32), S20))))) fun j47_7 => f_X11_parsed_L12 n this a1 j47_7 n (1 : Int32) S3)
set_option maxRecDepth 100000 in
set_option maxHeartbeats 4000000 in
theorem c_X11_parsed (l : Launch) (G : Gx) (n : Nat) (this : Nat) (a1 : Int32) (S : MS) (ro : Int32) (So : MS) (hf : f_X11_parsed n this a1 S = some (ro, So)) (ok_this : Ok S this 11) : Cn G l yX11_parsed cX11_parsed 4 (some .int) rX11_parsed [.ref this, .int a1] S (some (.int ro)) So := by
  refine Cn.of (by decide) (Nat.le_of_ble_eq_true rfl) ?_
  intro p e s m args below meth c hC hname hR ls hl
  have hC : Cx G RX11 cX11_parsed 4 (some .int) p s m args meth c := hC
  have hl : lv_has ls 4 [(0, .ref this), (1, .int a1)] := hl
  have hx := hC.x
  have hb := hC.b
  have hS : va_S (gA G) s.heap s.heap [] := va_S.rf
  have hE : Ex S S := Ex.rf S
  unfold f_X11_parsed at hf
  refine lv_aload_n hx hb dX11_parsed_0 rfl (lv_at hl 0 rfl) ?_
  refine lv_iconst (v := 0) hx hb dX11_parsed_1 (by decide) ?_
  refine pf_RX11_142 hC hR hS ok_this dX11_parsed_2 hf (fun S1 H locs hf hR hS hE2 => ?_)
  have ok_this := hE2 _ _ ok_this
  have hE := hE.tr hE2
  refine lv_aload_n hx hb dX11_parsed_5 rfl (lv_at hl 0 rfl) ?_
  refine lv_iconst (v := 0) hx hb dX11_parsed_6 (by decide) ?_
  obtain ⟨hz4, hf⟩ := zb_of hf
  refine pf_RX11_154 hC hR hS ok_this hz4 dX11_parsed_7 hf (fun S3 H locs hf hR hS hE5 => ?_)
  have ok_this := hE5 _ _ ok_this
  have hE := hE.tr hE5
  refine lv_iconst (v := 1) hx hb dX11_parsed_10 (by decide) ?_
  refine lv_istore_n (lv' := [(2, .int (1 : Int32)), (0, .ref this), (1, .int a1)]) hx hb dX11_parsed_11 rfl hl (by decide) rfl (fun ls hl => ?_)
  obtain ⟨j47_7, ej47_7, hf⟩ := jn_of1 hf
  have hj47_6 : ∀ (S8 : MS) (H : Heap) (locs : List Loc) (ls : Array Slot), j47_7 S8 = some (ro, So) → Rp G S8 H → va_S (gA G) s.heap H locs → Ex S S8 → Ok S8 this 11 → lv_has ls 4 [(0, .ref this), (1, .int a1)] → W p l e rX11_parsed s m args below meth c H locs 0 0 (MQ below (Qn G S (some (.int ro)) So) args s 0 0 (gA G)) (F0 m 47 ls []) := by
    intro S8 H locs ls hf hR hS hE ok_this hl
    rw [ej47_7] at hf
    refine lv_aload_n hx hb dX11_parsed_47 rfl (lv_at hl 0 rfl) ?_
    obtain ⟨x12, S9, hc10, hf⟩ := cl_of hf
    refine cl_RX11_161 (As := []) (rest := []) hC hR hS (c_X11_marker l G n this S8 x12 S9 hc10 ok_this) ok_this rfl ⟨Nat.le_of_ble_eq_true rfl, Nat.le_of_ble_eq_true rfl⟩ hl.1 rfl (Nat.le_of_ble_eq_true rfl) dX11_parsed_48 (Nat.zero_le _) (Nat.zero_le _) (fun H locs hR hS hE11 => ?_)
    have ok_this := hE11 _ _ ok_this
    have hE := hE.tr hE11
    refine lv_if_ge (tgt := 65) hx hb dX11_parsed_51 (by decide) (fun hc => ?_) (fun hc => ?_)
    · replace hf := if_t hf hc
      refine lv_iconst (v := 1) hx hb dX11_parsed_65 (by decide) ?_
      exact r_iret hC hR hS hE hf dX11_parsed_66
    · replace hf := if_f hf hc
      refine lv_iload_n hx hb dX11_parsed_54 rfl (lv_at hl 1 rfl) ?_
      refine lv_if_eq (tgt := 67) hx hb dX11_parsed_55 (by decide) (fun hc => ?_) (fun hc => ?_)
      · replace hf := if_t hf hc
        refine lv_aload_n hx hb dX11_parsed_67 rfl (lv_at hl 0 rfl) ?_
        refine lv_iconst (v := 1) hx hb dX11_parsed_68 (by decide) ?_
        obtain ⟨S13, hc14, hf⟩ := cv_of hf
        refine cl_RX11_158 (As := [.int (1 : Int32)]) (rest := []) hC hR hS (c_X11_settle l G n this (1 : Int32) S9 S13 hc14 ok_this) ok_this rfl ⟨Nat.le_of_ble_eq_true rfl, Nat.le_of_ble_eq_true rfl⟩ hl.1 rfl (Nat.le_of_ble_eq_true rfl) dX11_parsed_69 (Nat.zero_le _) (Nat.zero_le _) (fun H locs hR hS hE15 => ?_)
        have ok_this := hE15 _ _ ok_this
        have hE := hE.tr hE15
        refine lv_iconst (v := 0) hx hb dX11_parsed_72 (by decide) ?_
        exact r_iret hC hR hS hE hf dX11_parsed_73
      · replace hf := if_f hf hc
        refine lv_aload_n hx hb dX11_parsed_58 rfl (lv_at hl 0 rfl) ?_
        obtain ⟨x19, S16, hc17, hf⟩ := cl_of hf
        refine cl_RX11_191 (As := []) (rest := []) hC hR hS (c_X11_isCompared l G n this S9 x19 S16 hc17 ok_this) ok_this rfl ⟨Nat.le_of_ble_eq_true rfl, Nat.le_of_ble_eq_true rfl⟩ hl.1 rfl (Nat.le_of_ble_eq_true rfl) dX11_parsed_59 (Nat.zero_le _) (Nat.zero_le _) (fun H locs hR hS hE18 => ?_)
        have ok_this := hE18 _ _ ok_this
        have hE := hE.tr hE18
        refine lv_if_ne (tgt := 67) hx hb dX11_parsed_62 (by decide) (fun hc => ?_) (fun hc => ?_)
        · replace hf := if_f hf hc
          refine lv_aload_n hx hb dX11_parsed_67 rfl (lv_at hl 0 rfl) ?_
          refine lv_iconst (v := 1) hx hb dX11_parsed_68 (by decide) ?_
          obtain ⟨S20, hc21, hf⟩ := cv_of hf
          refine cl_RX11_158 (As := [.int (1 : Int32)]) (rest := []) hC hR hS (c_X11_settle l G n this (1 : Int32) S16 S20 hc21 ok_this) ok_this rfl ⟨Nat.le_of_ble_eq_true rfl, Nat.le_of_ble_eq_true rfl⟩ hl.1 rfl (Nat.le_of_ble_eq_true rfl) dX11_parsed_69 (Nat.zero_le _) (Nat.zero_le _) (fun H locs hR hS hE22 => ?_)
          have ok_this := hE22 _ _ ok_this
          have hE := hE.tr hE22
          refine lv_iconst (v := 0) hx hb dX11_parsed_72 (by decide) ?_
          exact r_iret hC hR hS hE hf dX11_parsed_73
        · replace hf := if_t hf hc
          refine lv_iconst (v := 1) hx hb dX11_parsed_65 (by decide) ?_
          exact r_iret hC hR hS hE hf dX11_parsed_66
  have hh35 : ∀ k : Nat, ∀ (x25 : Int32) (S26 : MS) (H : Heap) (locs : List Loc) (ls : Array Slot), f_X11_parsed_L12 n this a1 j47_7 k x25 S26 = some (ro, So) → Rp G S26 H → va_S (gA G) s.heap H locs → Ex S S26 → Ok S26 this 11 → lv_has ls 4 [(0, .ref this), (1, .int a1), (2, .int x25)] → W p l e rX11_parsed s m args below meth c H locs 0 0 (MQ below (Qn G S (some (.int ro)) So) args s 0 0 (gA G)) (F0 m 12 ls []) := by
    intro k
    induction k with
    | zero =>
      intro x25 S26 H locs ls hf hR hS hE ok_this hl
      exact absurd hf (by rw [f_X11_parsed_L12]; exact fun h => by cases h)
    | succ k ih =>
      intro x25 S26 H locs ls hf hR hS hE ok_this hl
      rw [f_X11_parsed_L12] at hf
      obtain ⟨rec12_24, erec12_24, hf⟩ := jn_of2 hf
      have hL12_23 : ∀ (x25 : Int32) (S26 : MS) (H : Heap) (locs : List Loc) (ls : Array Slot), rec12_24 x25 S26 = some (ro, So) → Rp G S26 H → va_S (gA G) s.heap H locs → Ex S S26 → Ok S26 this 11 → lv_has ls 4 [(0, .ref this), (1, .int a1), (2, .int x25)] → W p l e rX11_parsed s m args below meth c H locs 0 0 (MQ below (Qn G S (some (.int ro)) So) args s 0 0 (gA G)) (F0 m 12 ls []) := by
        intro x25 S26 H locs ls hf hR hS hE ok_this hl
        rw [erec12_24] at hf
        exact ih x25 S26 _ _ _ hf hR hS hE ok_this hl
      refine lv_iload_n hx hb dX11_parsed_12 rfl (lv_at hl 2 rfl) ?_
      refine lv_if_eq (tgt := 47) hx hb dX11_parsed_13 (by decide) (fun hc => ?_) (fun hc => ?_)
      · replace hf := if_t hf hc
        exact hj47_6 S26 _ _ _ hf hR hS hE ok_this (lv_sub hl [0, 1] rfl)
      · replace hf := if_f hf hc
        refine lv_aload_n hx hb dX11_parsed_16 rfl (lv_at hl 0 rfl) ?_
        refine gf_RX11_154 hC hR ok_this dX11_parsed_17 ?_
        refine lv_if_eq (tgt := 32) hx hb dX11_parsed_20 (by decide) (fun hc => ?_) (fun hc => ?_)
        · replace hf := if_t hf hc
          refine lv_aload_n hx hb dX11_parsed_32 rfl (lv_at hl 0 rfl) ?_
          refine lv_iload_n hx hb dX11_parsed_33 rfl (lv_at hl 1 rfl) ?_
          obtain ⟨x30, S27, hc28, hf⟩ := cl_of hf
          refine cl_RX11_207 (As := [.int a1]) (rest := []) hC hR hS (c_X11_beginOne l G n this a1 S26 x30 S27 hc28 ok_this) ok_this rfl ⟨Nat.le_of_ble_eq_true rfl, Nat.le_of_ble_eq_true rfl⟩ hl.1 rfl (Nat.le_of_ble_eq_true rfl) dX11_parsed_34 (Nat.zero_le _) (Nat.zero_le _) (fun H locs hR hS hE29 => ?_)
          have ok_this := hE29 _ _ ok_this
          have hE := hE.tr hE29
          refine lv_istore_n (lv' := [(3, .int x30), (0, .ref this), (1, .int a1), (2, .int x25)]) hx hb dX11_parsed_37 rfl hl (by decide) rfl (fun ls hl => ?_)
          refine lv_iload_n hx hb dX11_parsed_38 rfl (lv_at hl 0 rfl) ?_
          refine lv_if_eq (tgt := 44) hx hb dX11_parsed_39 (by decide) (fun hc => ?_) (fun hc => ?_)
          · replace hf := if_t hf hc
            refine lv_goto (tgt := 12) hx hb dX11_parsed_44 (by decide) ?_
            exact hL12_23 x25 S27 _ _ _ hf hR hS hE ok_this (lv_sub hl [1, 2, 3] rfl)
          · replace hf := if_f hf hc
            refine lv_iload_n hx hb dX11_parsed_42 rfl (lv_at hl 0 rfl) ?_
            exact r_iret hC hR hS hE hf dX11_parsed_43
        · replace hf := if_f hf hc
          refine lv_aload_n hx hb dX11_parsed_23 rfl (lv_at hl 0 rfl) ?_
          refine lv_iload_n hx hb dX11_parsed_24 rfl (lv_at hl 1 rfl) ?_
          obtain ⟨x34, S31, hc32, hf⟩ := cl_of hf
          refine cl_RX11_204 (As := [.int a1]) (rest := []) hC hR hS (c_X11_behindOne l G n this a1 S26 x34 S31 hc32 ok_this) ok_this rfl ⟨Nat.le_of_ble_eq_true rfl, Nat.le_of_ble_eq_true rfl⟩ hl.1 rfl (Nat.le_of_ble_eq_true rfl) dX11_parsed_25 (Nat.zero_le _) (Nat.zero_le _) (fun H locs hR hS hE33 => ?_)
          have ok_this := hE33 _ _ ok_this
          have hE := hE.tr hE33
          refine lv_istore_n (lv' := [(2, .int x34), (0, .ref this), (1, .int a1)]) hx hb dX11_parsed_28 rfl hl (by decide) rfl (fun ls hl => ?_)
          refine lv_goto (tgt := 12) hx hb dX11_parsed_29 (by decide) ?_
          exact hL12_23 x34 S31 _ _ _ hf hR hS hE ok_this (lv_sub hl [1, 2, 0] rfl)
  exact hh35 n (1 : Int32) S3 _ _ _ hf hR hS hE ok_this (lv_sub hl [1, 2, 0] rfl)
abbrev rX11_sortOf : Room := { frames := 2, cells := 0, slots := 0, locals := 46 }
def f_X11_sortOf (n : Nat) (this : Nat) (S : MS) : Option (Int32 × MS) :=
  cl (f_X11_w4 n (104 : Int32) (111 : Int32) (108 : Int32) (100 : Int32) S) fun x4 S1 => cl (f_X11_isWord n this x4 S1) fun x8 S5 => (if x8 = 0 then cl (f_X11_w3 n (102 : Int32) (97 : Int32) (114 : Int32) S5) fun x12 S9 => cl (f_X11_isWord n this x12 S9) fun x16 S13 => (if x16 = 0 then cl (f_X11_w4 n (99 : Int32) (114 : Int32) (111 : Int32) (112 : Int32) S13) fun x20 S17 => cl (f_X11_isWord n this x20 S17) fun x24 S21 => (if x24 = 0 then cl (f_X11_w5 n (102 : Int32) (111 : Int32) (117 : Int32) (110 : Int32) (100 : Int32) S21) fun x28 S25 => cl (f_X11_isWord n this x28 S25) fun x32 S29 => (if x32 = 0 then cl (f_X11_w4 n (98 : Int32) (111 : Int32) (110 : Int32) (101 : Int32) S29) fun x36 S33 => cl (f_X11_isWord n this x36 S33) fun x40 S37 => (if x40 = 0 then cl (f_X11_w5 n (115 : Int32) (116 : Int32) (97 : Int32) (107 : Int32) (101 : Int32) S37) fun x44 S41 => cl (f_X11_isWord n this x44 S41) fun x48 S45 => (if x48 = 0 then some ((-1 : Int32), S45) else some ((5 : Int32), S45)) else some ((4 : Int32), S37)) else some ((3 : Int32), S29)) else some ((2 : Int32), S21)) else some ((1 : Int32), S13)) else some ((0 : Int32), S5))
set_option maxRecDepth 100000 in
set_option maxHeartbeats 4000000 in
theorem c_X11_sortOf (l : Launch) (G : Gx) (n : Nat) (this : Nat) (S : MS) (ro : Int32) (So : MS) (hf : f_X11_sortOf n this S = some (ro, So)) (ok_this : Ok S this 11) : Cn G l yX11_sortOf cX11_sortOf 1 (some .int) rX11_sortOf [.ref this] S (some (.int ro)) So := by
  refine Cn.of (by decide) (Nat.le_of_ble_eq_true rfl) ?_
  intro p e s m args below meth c hC hname hR ls hl
  have hC : Cx G RX11 cX11_sortOf 1 (some .int) p s m args meth c := hC
  have hl : lv_has ls 1 [(0, .ref this)] := hl
  have hx := hC.x
  have hb := hC.b
  have hS : va_S (gA G) s.heap s.heap [] := va_S.rf
  have hE : Ex S S := Ex.rf S
  unfold f_X11_sortOf at hf
  refine lv_aload_n hx hb dX11_sortOf_0 rfl (lv_at hl 0 rfl) ?_
  refine lv_bipush (v := 104) hx hb dX11_sortOf_1 (by decide) ?_
  refine lv_bipush (v := 111) hx hb dX11_sortOf_3 (by decide) ?_
  refine lv_bipush (v := 108) hx hb dX11_sortOf_5 (by decide) ?_
  refine lv_bipush (v := 100) hx hb dX11_sortOf_7 (by decide) ?_
  obtain ⟨x4, S1, hc2, hf⟩ := cl_of hf
  refine cl_RX11_214 (As := [.int (104 : Int32), .int (111 : Int32), .int (108 : Int32), .int (100 : Int32)]) (rest := [.ref this]) hC hR hS (c_X11_w4 l G n (104 : Int32) (111 : Int32) (108 : Int32) (100 : Int32) S x4 S1 hc2 ) rfl ⟨Nat.le_of_ble_eq_true rfl, Nat.le_of_ble_eq_true rfl⟩ hl.1 rfl (Nat.le_of_ble_eq_true rfl) dX11_sortOf_9 (Nat.zero_le _) (Nat.zero_le _) (fun H locs hR hS hE3 => ?_)
  have ok_this := hE3 _ _ ok_this
  have hE := hE.tr hE3
  obtain ⟨x8, S5, hc6, hf⟩ := cl_of hf
  refine cl_RX11_183 (As := [.long x4]) (rest := []) hC hR hS (c_X11_isWord l G n this x4 S1 x8 S5 hc6 ok_this) ok_this rfl ⟨Nat.le_of_ble_eq_true rfl, Nat.le_of_ble_eq_true rfl⟩ hl.1 rfl (Nat.le_of_ble_eq_true rfl) dX11_sortOf_12 (Nat.zero_le _) (Nat.zero_le _) (fun H locs hR hS hE7 => ?_)
  have ok_this := hE7 _ _ ok_this
  have hE := hE.tr hE7
  refine lv_if_eq (tgt := 20) hx hb dX11_sortOf_15 (by decide) (fun hc => ?_) (fun hc => ?_)
  · replace hf := if_t hf hc
    refine lv_aload_n hx hb dX11_sortOf_20 rfl (lv_at hl 0 rfl) ?_
    refine lv_bipush (v := 102) hx hb dX11_sortOf_21 (by decide) ?_
    refine lv_bipush (v := 97) hx hb dX11_sortOf_23 (by decide) ?_
    refine lv_bipush (v := 114) hx hb dX11_sortOf_25 (by decide) ?_
    obtain ⟨x12, S9, hc10, hf⟩ := cl_of hf
    refine cl_RX11_128 (As := [.int (102 : Int32), .int (97 : Int32), .int (114 : Int32)]) (rest := [.ref this]) hC hR hS (c_X11_w3 l G n (102 : Int32) (97 : Int32) (114 : Int32) S5 x12 S9 hc10 ) rfl ⟨Nat.le_of_ble_eq_true rfl, Nat.le_of_ble_eq_true rfl⟩ hl.1 rfl (Nat.le_of_ble_eq_true rfl) dX11_sortOf_27 (Nat.zero_le _) (Nat.zero_le _) (fun H locs hR hS hE11 => ?_)
    have ok_this := hE11 _ _ ok_this
    have hE := hE.tr hE11
    obtain ⟨x16, S13, hc14, hf⟩ := cl_of hf
    refine cl_RX11_183 (As := [.long x12]) (rest := []) hC hR hS (c_X11_isWord l G n this x12 S9 x16 S13 hc14 ok_this) ok_this rfl ⟨Nat.le_of_ble_eq_true rfl, Nat.le_of_ble_eq_true rfl⟩ hl.1 rfl (Nat.le_of_ble_eq_true rfl) dX11_sortOf_30 (Nat.zero_le _) (Nat.zero_le _) (fun H locs hR hS hE15 => ?_)
    have ok_this := hE15 _ _ ok_this
    have hE := hE.tr hE15
    refine lv_if_eq (tgt := 38) hx hb dX11_sortOf_33 (by decide) (fun hc => ?_) (fun hc => ?_)
    · replace hf := if_t hf hc
      refine lv_aload_n hx hb dX11_sortOf_38 rfl (lv_at hl 0 rfl) ?_
      refine lv_bipush (v := 99) hx hb dX11_sortOf_39 (by decide) ?_
      refine lv_bipush (v := 114) hx hb dX11_sortOf_41 (by decide) ?_
      refine lv_bipush (v := 111) hx hb dX11_sortOf_43 (by decide) ?_
      refine lv_bipush (v := 112) hx hb dX11_sortOf_45 (by decide) ?_
      obtain ⟨x20, S17, hc18, hf⟩ := cl_of hf
      refine cl_RX11_214 (As := [.int (99 : Int32), .int (114 : Int32), .int (111 : Int32), .int (112 : Int32)]) (rest := [.ref this]) hC hR hS (c_X11_w4 l G n (99 : Int32) (114 : Int32) (111 : Int32) (112 : Int32) S13 x20 S17 hc18 ) rfl ⟨Nat.le_of_ble_eq_true rfl, Nat.le_of_ble_eq_true rfl⟩ hl.1 rfl (Nat.le_of_ble_eq_true rfl) dX11_sortOf_47 (Nat.zero_le _) (Nat.zero_le _) (fun H locs hR hS hE19 => ?_)
      have ok_this := hE19 _ _ ok_this
      have hE := hE.tr hE19
      obtain ⟨x24, S21, hc22, hf⟩ := cl_of hf
      refine cl_RX11_183 (As := [.long x20]) (rest := []) hC hR hS (c_X11_isWord l G n this x20 S17 x24 S21 hc22 ok_this) ok_this rfl ⟨Nat.le_of_ble_eq_true rfl, Nat.le_of_ble_eq_true rfl⟩ hl.1 rfl (Nat.le_of_ble_eq_true rfl) dX11_sortOf_50 (Nat.zero_le _) (Nat.zero_le _) (fun H locs hR hS hE23 => ?_)
      have ok_this := hE23 _ _ ok_this
      have hE := hE.tr hE23
      refine lv_if_eq (tgt := 58) hx hb dX11_sortOf_53 (by decide) (fun hc => ?_) (fun hc => ?_)
      · replace hf := if_t hf hc
        refine lv_aload_n hx hb dX11_sortOf_58 rfl (lv_at hl 0 rfl) ?_
        refine lv_bipush (v := 102) hx hb dX11_sortOf_59 (by decide) ?_
        refine lv_bipush (v := 111) hx hb dX11_sortOf_61 (by decide) ?_
        refine lv_bipush (v := 117) hx hb dX11_sortOf_63 (by decide) ?_
        refine lv_bipush (v := 110) hx hb dX11_sortOf_65 (by decide) ?_
        refine lv_bipush (v := 100) hx hb dX11_sortOf_67 (by decide) ?_
        obtain ⟨x28, S25, hc26, hf⟩ := cl_of hf
        refine cl_RX11_132 (As := [.int (102 : Int32), .int (111 : Int32), .int (117 : Int32), .int (110 : Int32), .int (100 : Int32)]) (rest := [.ref this]) hC hR hS (c_X11_w5 l G n (102 : Int32) (111 : Int32) (117 : Int32) (110 : Int32) (100 : Int32) S21 x28 S25 hc26 ) rfl ⟨Nat.le_of_ble_eq_true rfl, Nat.le_of_ble_eq_true rfl⟩ hl.1 rfl (Nat.le_of_ble_eq_true rfl) dX11_sortOf_69 (Nat.zero_le _) (Nat.zero_le _) (fun H locs hR hS hE27 => ?_)
        have ok_this := hE27 _ _ ok_this
        have hE := hE.tr hE27
        obtain ⟨x32, S29, hc30, hf⟩ := cl_of hf
        refine cl_RX11_183 (As := [.long x28]) (rest := []) hC hR hS (c_X11_isWord l G n this x28 S25 x32 S29 hc30 ok_this) ok_this rfl ⟨Nat.le_of_ble_eq_true rfl, Nat.le_of_ble_eq_true rfl⟩ hl.1 rfl (Nat.le_of_ble_eq_true rfl) dX11_sortOf_72 (Nat.zero_le _) (Nat.zero_le _) (fun H locs hR hS hE31 => ?_)
        have ok_this := hE31 _ _ ok_this
        have hE := hE.tr hE31
        refine lv_if_eq (tgt := 80) hx hb dX11_sortOf_75 (by decide) (fun hc => ?_) (fun hc => ?_)
        · replace hf := if_t hf hc
          refine lv_aload_n hx hb dX11_sortOf_80 rfl (lv_at hl 0 rfl) ?_
          refine lv_bipush (v := 98) hx hb dX11_sortOf_81 (by decide) ?_
          refine lv_bipush (v := 111) hx hb dX11_sortOf_83 (by decide) ?_
          refine lv_bipush (v := 110) hx hb dX11_sortOf_85 (by decide) ?_
          refine lv_bipush (v := 101) hx hb dX11_sortOf_87 (by decide) ?_
          obtain ⟨x36, S33, hc34, hf⟩ := cl_of hf
          refine cl_RX11_214 (As := [.int (98 : Int32), .int (111 : Int32), .int (110 : Int32), .int (101 : Int32)]) (rest := [.ref this]) hC hR hS (c_X11_w4 l G n (98 : Int32) (111 : Int32) (110 : Int32) (101 : Int32) S29 x36 S33 hc34 ) rfl ⟨Nat.le_of_ble_eq_true rfl, Nat.le_of_ble_eq_true rfl⟩ hl.1 rfl (Nat.le_of_ble_eq_true rfl) dX11_sortOf_89 (Nat.zero_le _) (Nat.zero_le _) (fun H locs hR hS hE35 => ?_)
          have ok_this := hE35 _ _ ok_this
          have hE := hE.tr hE35
          obtain ⟨x40, S37, hc38, hf⟩ := cl_of hf
          refine cl_RX11_183 (As := [.long x36]) (rest := []) hC hR hS (c_X11_isWord l G n this x36 S33 x40 S37 hc38 ok_this) ok_this rfl ⟨Nat.le_of_ble_eq_true rfl, Nat.le_of_ble_eq_true rfl⟩ hl.1 rfl (Nat.le_of_ble_eq_true rfl) dX11_sortOf_92 (Nat.zero_le _) (Nat.zero_le _) (fun H locs hR hS hE39 => ?_)
          have ok_this := hE39 _ _ ok_this
          have hE := hE.tr hE39
          refine lv_if_eq (tgt := 102) hx hb dX11_sortOf_95 (by decide) (fun hc => ?_) (fun hc => ?_)
          · replace hf := if_t hf hc
            refine lv_aload_n hx hb dX11_sortOf_102 rfl (lv_at hl 0 rfl) ?_
            refine lv_bipush (v := 115) hx hb dX11_sortOf_103 (by decide) ?_
            refine lv_bipush (v := 116) hx hb dX11_sortOf_105 (by decide) ?_
            refine lv_bipush (v := 97) hx hb dX11_sortOf_107 (by decide) ?_
            refine lv_bipush (v := 107) hx hb dX11_sortOf_109 (by decide) ?_
            refine lv_bipush (v := 101) hx hb dX11_sortOf_111 (by decide) ?_
            obtain ⟨x44, S41, hc42, hf⟩ := cl_of hf
            refine cl_RX11_132 (As := [.int (115 : Int32), .int (116 : Int32), .int (97 : Int32), .int (107 : Int32), .int (101 : Int32)]) (rest := [.ref this]) hC hR hS (c_X11_w5 l G n (115 : Int32) (116 : Int32) (97 : Int32) (107 : Int32) (101 : Int32) S37 x44 S41 hc42 ) rfl ⟨Nat.le_of_ble_eq_true rfl, Nat.le_of_ble_eq_true rfl⟩ hl.1 rfl (Nat.le_of_ble_eq_true rfl) dX11_sortOf_113 (Nat.zero_le _) (Nat.zero_le _) (fun H locs hR hS hE43 => ?_)
            have ok_this := hE43 _ _ ok_this
            have hE := hE.tr hE43
            obtain ⟨x48, S45, hc46, hf⟩ := cl_of hf
            refine cl_RX11_183 (As := [.long x44]) (rest := []) hC hR hS (c_X11_isWord l G n this x44 S41 x48 S45 hc46 ok_this) ok_this rfl ⟨Nat.le_of_ble_eq_true rfl, Nat.le_of_ble_eq_true rfl⟩ hl.1 rfl (Nat.le_of_ble_eq_true rfl) dX11_sortOf_116 (Nat.zero_le _) (Nat.zero_le _) (fun H locs hR hS hE47 => ?_)
            have ok_this := hE47 _ _ ok_this
            have hE := hE.tr hE47
            refine lv_if_eq (tgt := 126) hx hb dX11_sortOf_119 (by decide) (fun hc => ?_) (fun hc => ?_)
            · replace hf := if_t hf hc
              refine lv_iconst (v := -1) hx hb dX11_sortOf_126 (by decide) ?_
              exact r_iret hC hR hS hE hf dX11_sortOf_127
            · replace hf := if_f hf hc
              refine lv_iconst (v := 5) hx hb dX11_sortOf_122 (by decide) ?_
              refine lv_goto (tgt := 127) hx hb dX11_sortOf_123 (by decide) ?_
              exact r_iret hC hR hS hE hf dX11_sortOf_127
          · replace hf := if_f hf hc
            refine lv_iconst (v := 4) hx hb dX11_sortOf_98 (by decide) ?_
            refine lv_goto (tgt := 127) hx hb dX11_sortOf_99 (by decide) ?_
            exact r_iret hC hR hS hE hf dX11_sortOf_127
        · replace hf := if_f hf hc
          refine lv_iconst (v := 3) hx hb dX11_sortOf_78 (by decide) ?_
          exact r_iret hC hR hS hE hf dX11_sortOf_79
      · replace hf := if_f hf hc
        refine lv_iconst (v := 2) hx hb dX11_sortOf_56 (by decide) ?_
        exact r_iret hC hR hS hE hf dX11_sortOf_57
    · replace hf := if_f hf hc
      refine lv_iconst (v := 1) hx hb dX11_sortOf_36 (by decide) ?_
      exact r_iret hC hR hS hE hf dX11_sortOf_37
  · replace hf := if_f hf hc
    refine lv_iconst (v := 0) hx hb dX11_sortOf_18 (by decide) ?_
    exact r_iret hC hR hS hE hf dX11_sortOf_19
abbrev rX11_figure : Room := { frames := 3, cells := 0, slots := 0, locals := 64 }
def f_X11_figure (n : Nat) (this : Nat) (a1 : Int32) (a2 : Int32) (a3 : Int32) (S : MS) : Option (Int32 × MS) :=
  (if (mI S this 12) = (1 : Int32) then cl (f_X11_isIn n (mI S this 13) a2 a3 S) fun x4 S1 => (if x4 = 0 then some ((2 : Int32), S1) else gR S1 (mR S1 this 5) 12 fun q5 => ck (inb a1 (mN S1 q5)) (bd (sI S1 q5 a1.toNatClampNeg (mI S1 this 13)) fun S8 => cv (f_X11_nextToken n this S8) fun S10 => some ((0 : Int32), S10))) else some ((1 : Int32), S))
set_option maxRecDepth 100000 in
set_option maxHeartbeats 4000000 in
theorem c_X11_figure (l : Launch) (G : Gx) (n : Nat) (this : Nat) (a1 : Int32) (a2 : Int32) (a3 : Int32) (S : MS) (ro : Int32) (So : MS) (hf : f_X11_figure n this a1 a2 a3 S = some (ro, So)) (ok_this : Ok S this 11) : Cn G l yX11_figure cX11_figure 4 (some .int) rX11_figure [.ref this, .int a1, .int a2, .int a3] S (some (.int ro)) So := by
  refine Cn.of (by decide) (Nat.le_of_ble_eq_true rfl) ?_
  intro p e s m args below meth c hC hname hR ls hl
  have hC : Cx G RX11 cX11_figure 4 (some .int) p s m args meth c := hC
  have hl : lv_has ls 4 [(0, .ref this), (1, .int a1), (2, .int a2), (3, .int a3)] := hl
  have hx := hC.x
  have hb := hC.b
  have hS : va_S (gA G) s.heap s.heap [] := va_S.rf
  have hE : Ex S S := Ex.rf S
  unfold f_X11_figure at hf
  refine lv_aload_n hx hb dX11_figure_0 rfl (lv_at hl 0 rfl) ?_
  refine gf_RX11_111 hC hR ok_this dX11_figure_1 ?_
  refine lv_iconst (v := 1) hx hb dX11_figure_4 (by decide) ?_
  refine lv_icmp_eq (tgt := 10) hx hb dX11_figure_5 (by decide) (fun hc => ?_) (fun hc => ?_)
  · replace hf := if_t hf hc
    refine lv_aload_n hx hb dX11_figure_10 rfl (lv_at hl 0 rfl) ?_
    refine gf_RX11_117 hC hR ok_this dX11_figure_11 ?_
    refine lv_iload_n hx hb dX11_figure_14 rfl (lv_at hl 2 rfl) ?_
    refine lv_iload_n hx hb dX11_figure_15 rfl (lv_at hl 3 rfl) ?_
    obtain ⟨x4, S1, hc2, hf⟩ := cl_of hf
    refine cl_RX11_71 (As := [.int (mI S this 13), .int a2, .int a3]) (rest := []) hC hR hS (c_X11_isIn l G n (mI S this 13) a2 a3 S x4 S1 hc2 ) rfl ⟨Nat.le_of_ble_eq_true rfl, Nat.le_of_ble_eq_true rfl⟩ hl.1 rfl (Nat.le_of_ble_eq_true rfl) dX11_figure_16 (Nat.zero_le _) (Nat.zero_le _) (fun H locs hR hS hE3 => ?_)
    have ok_this := hE3 _ _ ok_this
    have hE := hE.tr hE3
    refine lv_if_ne (tgt := 24) hx hb dX11_figure_19 (by decide) (fun hc => ?_) (fun hc => ?_)
    · replace hf := if_f hf hc
      refine lv_aload_n hx hb dX11_figure_24 rfl (lv_at hl 0 rfl) ?_
      obtain ⟨q5, hq6, ok_q5, hf⟩ := gR_of hf
      refine gf_RX11_13 hC hR ok_this hq6 dX11_figure_25 ?_
      refine lv_iload_n hx hb dX11_figure_28 rfl (lv_at hl 1 rfl) ?_
      refine lv_aload_n hx hb dX11_figure_29 rfl (lv_at hl 0 rfl) ?_
      refine gf_RX11_117 hC hR ok_this dX11_figure_30 ?_
      obtain ⟨hi7, hf⟩ := ck_of hf
      refine rB_iast hC hR hS ok_q5 hi7 dX11_figure_33 hf (fun S8 H locs hf hR hS hE9 => ?_)
      have ok_this := hE9 _ _ ok_this
      have ok_q5 := hE9 _ _ ok_q5
      have hE := hE.tr hE9
      refine lv_aload_n hx hb dX11_figure_34 rfl (lv_at hl 0 rfl) ?_
      obtain ⟨S10, hc11, hf⟩ := cv_of hf
      refine cl_RX11_165 (As := []) (rest := []) hC hR hS (c_X11_nextToken l G n this S8 S10 hc11 ok_this) ok_this rfl ⟨Nat.le_of_ble_eq_true rfl, Nat.le_of_ble_eq_true rfl⟩ hl.1 rfl (Nat.le_of_ble_eq_true rfl) dX11_figure_35 (Nat.zero_le _) (Nat.zero_le _) (fun H locs hR hS hE12 => ?_)
      have ok_this := hE12 _ _ ok_this
      have ok_q5 := hE12 _ _ ok_q5
      have hE := hE.tr hE12
      refine lv_iconst (v := 0) hx hb dX11_figure_38 (by decide) ?_
      exact r_iret hC hR hS hE hf dX11_figure_39
    · replace hf := if_t hf hc
      refine lv_iconst (v := 2) hx hb dX11_figure_22 (by decide) ?_
      exact r_iret hC hR hS hE hf dX11_figure_23
  · replace hf := if_f hf hc
    refine lv_iconst (v := 1) hx hb dX11_figure_8 (by decide) ?_
    exact r_iret hC hR hS hE hf dX11_figure_9
abbrev rX11_expects : Room := { frames := 3, cells := 0, slots := 0, locals := 64 }
def f_X11_expects (n : Nat) (this : Nat) (a1 : Int32) (S : MS) : Option (Int32 × MS) :=
  (if a1 = 0 then some ((1 : Int32), S) else cv (f_X11_nextToken n this S) fun S1 => some ((0 : Int32), S1))
set_option maxRecDepth 100000 in
set_option maxHeartbeats 4000000 in
theorem c_X11_expects (l : Launch) (G : Gx) (n : Nat) (this : Nat) (a1 : Int32) (S : MS) (ro : Int32) (So : MS) (hf : f_X11_expects n this a1 S = some (ro, So)) (ok_this : Ok S this 11) : Cn G l yX11_expects cX11_expects 2 (some .int) rX11_expects [.ref this, .int a1] S (some (.int ro)) So := by
  refine Cn.of (by decide) (Nat.le_of_ble_eq_true rfl) ?_
  intro p e s m args below meth c hC hname hR ls hl
  have hC : Cx G RX11 cX11_expects 2 (some .int) p s m args meth c := hC
  have hl : lv_has ls 2 [(0, .ref this), (1, .int a1)] := hl
  have hx := hC.x
  have hb := hC.b
  have hS : va_S (gA G) s.heap s.heap [] := va_S.rf
  have hE : Ex S S := Ex.rf S
  unfold f_X11_expects at hf
  refine lv_iload_n hx hb dX11_expects_0 rfl (lv_at hl 1 rfl) ?_
  refine lv_if_ne (tgt := 6) hx hb dX11_expects_1 (by decide) (fun hc => ?_) (fun hc => ?_)
  · replace hf := if_f hf hc
    refine lv_aload_n hx hb dX11_expects_6 rfl (lv_at hl 0 rfl) ?_
    obtain ⟨S1, hc2, hf⟩ := cv_of hf
    refine cl_RX11_165 (As := []) (rest := []) hC hR hS (c_X11_nextToken l G n this S S1 hc2 ok_this) ok_this rfl ⟨Nat.le_of_ble_eq_true rfl, Nat.le_of_ble_eq_true rfl⟩ hl.1 rfl (Nat.le_of_ble_eq_true rfl) dX11_expects_7 (Nat.zero_le _) (Nat.zero_le _) (fun H locs hR hS hE3 => ?_)
    have ok_this := hE3 _ _ ok_this
    have hE := hE.tr hE3
    refine lv_iconst (v := 0) hx hb dX11_expects_10 (by decide) ?_
    exact r_iret hC hR hS hE hf dX11_expects_11
  · replace hf := if_t hf hc
    refine lv_iconst (v := 1) hx hb dX11_expects_4 (by decide) ?_
    exact r_iret hC hR hS hE hf dX11_expects_5
abbrev rX11_drawnBy : Room := { frames := 4, cells := 0, slots := 0, locals := 87 }
def f_X11_drawnBy (n : Nat) (this : Nat) (a1 : Int32) (a2 : Int32) (S : MS) : Option (Int32 × MS) :=
  jn (fun (q3 : Nat) (x4 : Int32) (x5 : Int32) (S6 : MS) => jn (fun (q9 : Nat) (x10 : Int32) (x11 : Int32) (x12 : Int32) (S13 : MS) => cl (f_X11_figure n q9 x10 x11 x12 S13) fun x17 S14 => jn (fun (x20 : Int32) (S21 : MS) => jn (fun (x24 : Int32) (S25 : MS) => jn (fun (x28 : Int32) (S29 : MS) => (if x28 = 0 then cl (f_X11_figure n this (a1 + (3 : Int32)) (0 : Int32) (5 : Int32) S29) fun x33 S30 => some (x33, S30) else some (x28, S29))) fun j100_27 => (if x24 = 0 then jn (fun (q36 : Nat) (x37 : Int32) (S38 : MS) => cl (f_X11_expects n q36 x37 S38) fun x42 S39 => j100_27 x42 S39) fun j96_35 => (if (mI S25 this 12) = (44 : Int32) then j96_35 this (1 : Int32) S25 else j96_35 this (0 : Int32) S25) else j100_27 x24 S25)) fun j77_23 => (if x20 = 0 then cl (f_X11_figure n this (a1 + (2 : Int32)) (0 : Int32) (7 : Int32) S21) fun x51 S48 => j77_23 x51 S48 else j77_23 x20 S21)) fun j62_19 => (if x17 = 0 then jn (fun (q56 : Nat) (x57 : Int32) (S58 : MS) => cl (f_X11_expects n q56 x57 S58) fun x62 S59 => j62_19 x62 S59) fun j58_55 => jn (fun (q65 : Nat) (S66 : MS) => j58_55 q65 (0 : Int32) S66) fun j57_64 => (if (mI S14 this 12) = (2 : Int32) then (if (lg_cmp (mJ S14 this 14) (24948 : Int64)) = 0 then j58_55 this (1 : Int32) S14 else j57_64 this S14) else j57_64 this S14) else j62_19 x17 S14)) fun j25_8 => (if a2 = (4 : Int32) then j25_8 q3 x4 x5 (99 : Int32) S6 else j25_8 q3 x4 x5 (5 : Int32) S6)) fun j14_2 => (if a2 = (4 : Int32) then j14_2 this (a1 + (1 : Int32)) (1 : Int32) S else j14_2 this (a1 + (1 : Int32)) (0 : Int32) S)
set_option maxRecDepth 100000 in
set_option maxHeartbeats 4000000 in
theorem c_X11_drawnBy (l : Launch) (G : Gx) (n : Nat) (this : Nat) (a1 : Int32) (a2 : Int32) (S : MS) (ro : Int32) (So : MS) (hf : f_X11_drawnBy n this a1 a2 S = some (ro, So)) (ok_this : Ok S this 11) : Cn G l yX11_drawnBy cX11_drawnBy 4 (some .int) rX11_drawnBy [.ref this, .int a1, .int a2] S (some (.int ro)) So := by
  refine Cn.of (by decide) (Nat.le_of_ble_eq_true rfl) ?_
  intro p e s m args below meth c hC hname hR ls hl
  have hC : Cx G RX11 cX11_drawnBy 4 (some .int) p s m args meth c := hC
  have hl : lv_has ls 4 [(0, .ref this), (1, .int a1), (2, .int a2)] := hl
  have hx := hC.x
  have hb := hC.b
  have hS : va_S (gA G) s.heap s.heap [] := va_S.rf
  have hE : Ex S S := Ex.rf S
  unfold f_X11_drawnBy at hf
  refine lv_aload_n hx hb dX11_drawnBy_0 rfl (lv_at hl 0 rfl) ?_
  refine lv_iload_n hx hb dX11_drawnBy_1 rfl (lv_at hl 1 rfl) ?_
  refine lv_iconst (v := 1) hx hb dX11_drawnBy_2 (by decide) ?_
  refine lv_iadd hx hb dX11_drawnBy_3 ?_
  refine lv_iload_n hx hb dX11_drawnBy_4 rfl (lv_at hl 2 rfl) ?_
  refine lv_iconst (v := 4) hx hb dX11_drawnBy_5 (by decide) ?_
  obtain ⟨j14_2, ej14_2, hf⟩ := jn_of4 hf
  have hj14_1 : ∀ (q3 : Nat) (x4 : Int32) (x5 : Int32) (S6 : MS) (H : Heap) (locs : List Loc) (ls : Array Slot), j14_2 q3 x4 x5 S6 = some (ro, So) → Rp G S6 H → va_S (gA G) s.heap H locs → Ex S S6 → Ok S6 this 11 → Ok S6 q3 11 → lv_has ls 4 [(0, .ref this), (1, .int a1), (2, .int a2)] → W p l e rX11_drawnBy s m args below meth c H locs 0 0 (MQ below (Qn G S (some (.int ro)) So) args s 0 0 (gA G)) (F0 m 14 ls [.int x5, .int x4, .ref q3]) := by
    intro q3 x4 x5 S6 H locs ls hf hR hS hE ok_this ok_q3 hl
    rw [ej14_2] at hf
    refine lv_iload_n hx hb dX11_drawnBy_14 rfl (lv_at hl 2 rfl) ?_
    refine lv_iconst (v := 4) hx hb dX11_drawnBy_15 (by decide) ?_
    obtain ⟨j25_8, ej25_8, hf⟩ := jn_of5 hf
    have hj25_7 : ∀ (q9 : Nat) (x10 : Int32) (x11 : Int32) (x12 : Int32) (S13 : MS) (H : Heap) (locs : List Loc) (ls : Array Slot), j25_8 q9 x10 x11 x12 S13 = some (ro, So) → Rp G S13 H → va_S (gA G) s.heap H locs → Ex S S13 → Ok S13 this 11 → Ok S13 q9 11 → lv_has ls 4 [(0, .ref this), (1, .int a1)] → W p l e rX11_drawnBy s m args below meth c H locs 0 0 (MQ below (Qn G S (some (.int ro)) So) args s 0 0 (gA G)) (F0 m 25 ls [.int x12, .int x11, .int x10, .ref q9]) := by
      intro q9 x10 x11 x12 S13 H locs ls hf hR hS hE ok_this ok_q9 hl
      rw [ej25_8] at hf
      obtain ⟨x17, S14, hc15, hf⟩ := cl_of hf
      refine cl_RX11_228 (As := [.int x10, .int x11, .int x12]) (rest := []) hC hR hS (c_X11_figure l G n q9 x10 x11 x12 S13 x17 S14 hc15 ok_q9) ok_q9 rfl ⟨Nat.le_of_ble_eq_true rfl, Nat.le_of_ble_eq_true rfl⟩ hl.1 rfl (Nat.le_of_ble_eq_true rfl) dX11_drawnBy_25 (Nat.zero_le _) (Nat.zero_le _) (fun H locs hR hS hE16 => ?_)
      have ok_this := hE16 _ _ ok_this
      have ok_q9 := hE16 _ _ ok_q9
      have hE := hE.tr hE16
      refine lv_istore_n (lv' := [(3, .int x17), (0, .ref this), (1, .int a1)]) hx hb dX11_drawnBy_28 rfl hl (by decide) rfl (fun ls hl => ?_)
      refine lv_iload_n hx hb dX11_drawnBy_29 rfl (lv_at hl 0 rfl) ?_
      obtain ⟨j62_19, ej62_19, hf⟩ := jn_of2 hf
      have hj62_18 : ∀ (x20 : Int32) (S21 : MS) (H : Heap) (locs : List Loc) (ls : Array Slot), j62_19 x20 S21 = some (ro, So) → Rp G S21 H → va_S (gA G) s.heap H locs → Ex S S21 → Ok S21 this 11 → lv_has ls 4 [(0, .ref this), (1, .int a1), (3, .int x20)] → W p l e rX11_drawnBy s m args below meth c H locs 0 0 (MQ below (Qn G S (some (.int ro)) So) args s 0 0 (gA G)) (F0 m 62 ls []) := by
        intro x20 S21 H locs ls hf hR hS hE ok_this hl
        rw [ej62_19] at hf
        refine lv_iload_n hx hb dX11_drawnBy_62 rfl (lv_at hl 2 rfl) ?_
        obtain ⟨j77_23, ej77_23, hf⟩ := jn_of2 hf
        have hj77_22 : ∀ (x24 : Int32) (S25 : MS) (H : Heap) (locs : List Loc) (ls : Array Slot), j77_23 x24 S25 = some (ro, So) → Rp G S25 H → va_S (gA G) s.heap H locs → Ex S S25 → Ok S25 this 11 → lv_has ls 4 [(0, .ref this), (1, .int a1), (3, .int x24)] → W p l e rX11_drawnBy s m args below meth c H locs 0 0 (MQ below (Qn G S (some (.int ro)) So) args s 0 0 (gA G)) (F0 m 77 ls []) := by
          intro x24 S25 H locs ls hf hR hS hE ok_this hl
          rw [ej77_23] at hf
          refine lv_iload_n hx hb dX11_drawnBy_77 rfl (lv_at hl 2 rfl) ?_
          obtain ⟨j100_27, ej100_27, hf⟩ := jn_of2 hf
          have hj100_26 : ∀ (x28 : Int32) (S29 : MS) (H : Heap) (locs : List Loc) (ls : Array Slot), j100_27 x28 S29 = some (ro, So) → Rp G S29 H → va_S (gA G) s.heap H locs → Ex S S29 → Ok S29 this 11 → lv_has ls 4 [(0, .ref this), (1, .int a1), (3, .int x28)] → W p l e rX11_drawnBy s m args below meth c H locs 0 0 (MQ below (Qn G S (some (.int ro)) So) args s 0 0 (gA G)) (F0 m 100 ls []) := by
            intro x28 S29 H locs ls hf hR hS hE ok_this hl
            rw [ej100_27] at hf
            refine lv_iload_n hx hb dX11_drawnBy_100 rfl (lv_at hl 2 rfl) ?_
            refine lv_if_ne (tgt := 116) hx hb dX11_drawnBy_101 (by decide) (fun hc => ?_) (fun hc => ?_)
            · replace hf := if_f hf hc
              refine lv_iload_n hx hb dX11_drawnBy_116 rfl (lv_at hl 2 rfl) ?_
              exact r_iret hC hR hS hE hf dX11_drawnBy_117
            · replace hf := if_t hf hc
              refine lv_aload_n hx hb dX11_drawnBy_104 rfl (lv_at hl 0 rfl) ?_
              refine lv_iload_n hx hb dX11_drawnBy_105 rfl (lv_at hl 1 rfl) ?_
              refine lv_iconst (v := 3) hx hb dX11_drawnBy_106 (by decide) ?_
              refine lv_iadd hx hb dX11_drawnBy_107 ?_
              refine lv_iconst (v := 0) hx hb dX11_drawnBy_108 (by decide) ?_
              refine lv_iconst (v := 5) hx hb dX11_drawnBy_109 (by decide) ?_
              obtain ⟨x33, S30, hc31, hf⟩ := cl_of hf
              refine cl_RX11_228 (As := [.int (a1 + (3 : Int32)), .int (0 : Int32), .int (5 : Int32)]) (rest := []) hC hR hS (c_X11_figure l G n this (a1 + (3 : Int32)) (0 : Int32) (5 : Int32) S29 x33 S30 hc31 ok_this) ok_this rfl ⟨Nat.le_of_ble_eq_true rfl, Nat.le_of_ble_eq_true rfl⟩ hl.1 rfl (Nat.le_of_ble_eq_true rfl) dX11_drawnBy_110 (Nat.zero_le _) (Nat.zero_le _) (fun H locs hR hS hE32 => ?_)
              have ok_this := hE32 _ _ ok_this
              have hE := hE.tr hE32
              refine lv_goto (tgt := 117) hx hb dX11_drawnBy_113 (by decide) ?_
              exact r_iret hC hR hS hE hf dX11_drawnBy_117
          refine lv_if_ne (tgt := 100) hx hb dX11_drawnBy_78 (by decide) (fun hc => ?_) (fun hc => ?_)
          · replace hf := if_f hf hc
            exact hj100_26 x24 S25 _ _ _ hf hR hS hE ok_this (lv_sub hl [0, 1, 2] rfl)
          · replace hf := if_t hf hc
            refine lv_aload_n hx hb dX11_drawnBy_81 rfl (lv_at hl 0 rfl) ?_
            refine lv_aload_n hx hb dX11_drawnBy_82 rfl (lv_at hl 0 rfl) ?_
            refine gf_RX11_111 hC hR ok_this dX11_drawnBy_83 ?_
            refine lv_bipush (v := 44) hx hb dX11_drawnBy_86 (by decide) ?_
            obtain ⟨j96_35, ej96_35, hf⟩ := jn_of3 hf
            have hj96_34 : ∀ (q36 : Nat) (x37 : Int32) (S38 : MS) (H : Heap) (locs : List Loc) (ls : Array Slot), j96_35 q36 x37 S38 = some (ro, So) → Rp G S38 H → va_S (gA G) s.heap H locs → Ex S S38 → Ok S38 this 11 → Ok S38 q36 11 → lv_has ls 4 [(0, .ref this), (1, .int a1)] → W p l e rX11_drawnBy s m args below meth c H locs 0 0 (MQ below (Qn G S (some (.int ro)) So) args s 0 0 (gA G)) (F0 m 96 ls [.int x37, .ref q36]) := by
              intro q36 x37 S38 H locs ls hf hR hS hE ok_this ok_q36 hl
              rw [ej96_35] at hf
              obtain ⟨x42, S39, hc40, hf⟩ := cl_of hf
              refine cl_RX11_234 (As := [.int x37]) (rest := []) hC hR hS (c_X11_expects l G n q36 x37 S38 x42 S39 hc40 ok_q36) ok_q36 rfl ⟨Nat.le_of_ble_eq_true rfl, Nat.le_of_ble_eq_true rfl⟩ hl.1 rfl (Nat.le_of_ble_eq_true rfl) dX11_drawnBy_96 (Nat.zero_le _) (Nat.zero_le _) (fun H locs hR hS hE41 => ?_)
              have ok_this := hE41 _ _ ok_this
              have ok_q36 := hE41 _ _ ok_q36
              have hE := hE.tr hE41
              refine lv_istore_n (lv' := [(3, .int x42), (0, .ref this), (1, .int a1)]) hx hb dX11_drawnBy_99 rfl hl (by decide) rfl (fun ls hl => ?_)
              exact hj100_26 x42 S39 _ _ _ hf hR hS hE ok_this (lv_sub hl [1, 2, 0] rfl)
            refine lv_icmp_ne (tgt := 95) hx hb dX11_drawnBy_88 (by decide) (fun hc => ?_) (fun hc => ?_)
            · replace hf := if_f hf hc
              refine lv_iconst (v := 0) hx hb dX11_drawnBy_95 (by decide) ?_
              exact hj96_34 this (0 : Int32) S25 _ _ _ hf hR hS hE ok_this ok_this (lv_sub hl [0, 1] rfl)
            · replace hf := if_t hf hc
              refine lv_iconst (v := 1) hx hb dX11_drawnBy_91 (by decide) ?_
              refine lv_goto (tgt := 96) hx hb dX11_drawnBy_92 (by decide) ?_
              exact hj96_34 this (1 : Int32) S25 _ _ _ hf hR hS hE ok_this ok_this (lv_sub hl [0, 1] rfl)
        refine lv_if_ne (tgt := 77) hx hb dX11_drawnBy_63 (by decide) (fun hc => ?_) (fun hc => ?_)
        · replace hf := if_f hf hc
          exact hj77_22 x20 S21 _ _ _ hf hR hS hE ok_this (lv_sub hl [0, 1, 2] rfl)
        · replace hf := if_t hf hc
          refine lv_aload_n hx hb dX11_drawnBy_66 rfl (lv_at hl 0 rfl) ?_
          refine lv_iload_n hx hb dX11_drawnBy_67 rfl (lv_at hl 1 rfl) ?_
          refine lv_iconst (v := 2) hx hb dX11_drawnBy_68 (by decide) ?_
          refine lv_iadd hx hb dX11_drawnBy_69 ?_
          refine lv_iconst (v := 0) hx hb dX11_drawnBy_70 (by decide) ?_
          refine lv_bipush (v := 7) hx hb dX11_drawnBy_71 (by decide) ?_
          obtain ⟨x51, S48, hc49, hf⟩ := cl_of hf
          refine cl_RX11_228 (As := [.int (a1 + (2 : Int32)), .int (0 : Int32), .int (7 : Int32)]) (rest := []) hC hR hS (c_X11_figure l G n this (a1 + (2 : Int32)) (0 : Int32) (7 : Int32) S21 x51 S48 hc49 ok_this) ok_this rfl ⟨Nat.le_of_ble_eq_true rfl, Nat.le_of_ble_eq_true rfl⟩ hl.1 rfl (Nat.le_of_ble_eq_true rfl) dX11_drawnBy_73 (Nat.zero_le _) (Nat.zero_le _) (fun H locs hR hS hE50 => ?_)
          have ok_this := hE50 _ _ ok_this
          have hE := hE.tr hE50
          refine lv_istore_n (lv' := [(3, .int x51), (0, .ref this), (1, .int a1)]) hx hb dX11_drawnBy_76 rfl hl (by decide) rfl (fun ls hl => ?_)
          exact hj77_22 x51 S48 _ _ _ hf hR hS hE ok_this (lv_sub hl [1, 2, 0] rfl)
      refine lv_if_ne (tgt := 62) hx hb dX11_drawnBy_30 (by decide) (fun hc => ?_) (fun hc => ?_)
      · replace hf := if_f hf hc
        exact hj62_18 x17 S14 _ _ _ hf hR hS hE ok_this (lv_sub hl [1, 2, 0] rfl)
      · replace hf := if_t hf hc
        refine lv_aload_n hx hb dX11_drawnBy_33 rfl (lv_at hl 1 rfl) ?_
        refine lv_aload_n hx hb dX11_drawnBy_34 rfl (lv_at hl 1 rfl) ?_
        refine gf_RX11_111 hC hR ok_this dX11_drawnBy_35 ?_
        refine lv_iconst (v := 2) hx hb dX11_drawnBy_38 (by decide) ?_
        obtain ⟨j58_55, ej58_55, hf⟩ := jn_of3 hf
        have hj58_54 : ∀ (q56 : Nat) (x57 : Int32) (S58 : MS) (H : Heap) (locs : List Loc) (ls : Array Slot), j58_55 q56 x57 S58 = some (ro, So) → Rp G S58 H → va_S (gA G) s.heap H locs → Ex S S58 → Ok S58 this 11 → Ok S58 q56 11 → lv_has ls 4 [(0, .ref this), (1, .int a1)] → W p l e rX11_drawnBy s m args below meth c H locs 0 0 (MQ below (Qn G S (some (.int ro)) So) args s 0 0 (gA G)) (F0 m 58 ls [.int x57, .ref q56]) := by
          intro q56 x57 S58 H locs ls hf hR hS hE ok_this ok_q56 hl
          rw [ej58_55] at hf
          obtain ⟨x62, S59, hc60, hf⟩ := cl_of hf
          refine cl_RX11_234 (As := [.int x57]) (rest := []) hC hR hS (c_X11_expects l G n q56 x57 S58 x62 S59 hc60 ok_q56) ok_q56 rfl ⟨Nat.le_of_ble_eq_true rfl, Nat.le_of_ble_eq_true rfl⟩ hl.1 rfl (Nat.le_of_ble_eq_true rfl) dX11_drawnBy_58 (Nat.zero_le _) (Nat.zero_le _) (fun H locs hR hS hE61 => ?_)
          have ok_this := hE61 _ _ ok_this
          have ok_q56 := hE61 _ _ ok_q56
          have hE := hE.tr hE61
          refine lv_istore_n (lv' := [(3, .int x62), (0, .ref this), (1, .int a1)]) hx hb dX11_drawnBy_61 rfl hl (by decide) rfl (fun ls hl => ?_)
          exact hj62_18 x62 S59 _ _ _ hf hR hS hE ok_this (lv_sub hl [1, 2, 0] rfl)
        obtain ⟨j57_64, ej57_64, hf⟩ := jn_of2 hf
        have hj57_63 : ∀ (q65 : Nat) (S66 : MS) (H : Heap) (locs : List Loc) (ls : Array Slot), j57_64 q65 S66 = some (ro, So) → Rp G S66 H → va_S (gA G) s.heap H locs → Ex S S66 → Ok S66 this 11 → Ok S66 q65 11 → lv_has ls 4 [(0, .ref this), (1, .int a1)] → W p l e rX11_drawnBy s m args below meth c H locs 0 0 (MQ below (Qn G S (some (.int ro)) So) args s 0 0 (gA G)) (F0 m 57 ls [.ref q65]) := by
          intro q65 S66 H locs ls hf hR hS hE ok_this ok_q65 hl
          rw [ej57_64] at hf
          refine lv_iconst (v := 0) hx hb dX11_drawnBy_57 (by decide) ?_
          exact hj58_54 q65 (0 : Int32) S66 _ _ _ hf hR hS hE ok_this ok_q65 (lv_sub hl [0, 1] rfl)
        refine lv_icmp_ne (tgt := 57) hx hb dX11_drawnBy_39 (by decide) (fun hc => ?_) (fun hc => ?_)
        · replace hf := if_f hf hc
          exact hj57_63 this S14 _ _ _ hf hR hS hE ok_this ok_this (lv_sub hl [1, 2] rfl)
        · replace hf := if_t hf hc
          refine lv_aload_n hx hb dX11_drawnBy_42 rfl (lv_at hl 1 rfl) ?_
          refine gf_RX11_124 hC hR ok_this dX11_drawnBy_43 ?_
          refine lv_ldc2 (v := 24948) hx hb hC.ow (hC.ts _ (bg23 _ (List.mem_of_getElem? (i := 22) rfl))) dX11_drawnBy_46 ?_
          refine W.lcmp hx hb dX11_drawnBy_49 ?_
          refine lv_if_ne (tgt := 57) hx hb dX11_drawnBy_50 (by decide) (fun hc => ?_) (fun hc => ?_)
          · replace hf := if_f hf hc
            exact hj57_63 this S14 _ _ _ hf hR hS hE ok_this ok_this (lv_sub hl [1, 2] rfl)
          · replace hf := if_t hf hc
            refine lv_iconst (v := 1) hx hb dX11_drawnBy_53 (by decide) ?_
            refine lv_goto (tgt := 58) hx hb dX11_drawnBy_54 (by decide) ?_
            exact hj58_54 this (1 : Int32) S14 _ _ _ hf hR hS hE ok_this ok_this (lv_sub hl [1, 2] rfl)
    refine lv_icmp_ne (tgt := 24) hx hb dX11_drawnBy_16 (by decide) (fun hc => ?_) (fun hc => ?_)
    · replace hf := if_f hf hc
      refine lv_iconst (v := 5) hx hb dX11_drawnBy_24 (by decide) ?_
      exact hj25_7 q3 x4 x5 (5 : Int32) S6 _ _ _ hf hR hS hE ok_this ok_q3 (lv_sub hl [0, 1] rfl)
    · replace hf := if_t hf hc
      refine lv_bipush (v := 99) hx hb dX11_drawnBy_19 (by decide) ?_
      refine lv_goto (tgt := 25) hx hb dX11_drawnBy_21 (by decide) ?_
      exact hj25_7 q3 x4 x5 (99 : Int32) S6 _ _ _ hf hR hS hE ok_this ok_q3 (lv_sub hl [0, 1] rfl)
  refine lv_icmp_ne (tgt := 13) hx hb dX11_drawnBy_6 (by decide) (fun hc => ?_) (fun hc => ?_)
  · replace hf := if_f hf hc
    refine lv_iconst (v := 0) hx hb dX11_drawnBy_13 (by decide) ?_
    exact hj14_1 this (a1 + (1 : Int32)) (0 : Int32) S _ _ _ hf hR hS hE ok_this ok_this (lv_sub hl [0, 1, 2] rfl)
  · replace hf := if_t hf hc
    refine lv_iconst (v := 1) hx hb dX11_drawnBy_9 (by decide) ?_
    refine lv_goto (tgt := 14) hx hb dX11_drawnBy_10 (by decide) ?_
    exact hj14_1 this (a1 + (1 : Int32)) (1 : Int32) S _ _ _ hf hR hS hE ok_this ok_this (lv_sub hl [0, 1, 2] rfl)
abbrev rX11_clause : Room := { frames := 6, cells := 0, slots := 0, locals := 136 }
def f_X11_clause (n : Nat) (this : Nat) (S : MS) : Option (Int32 × MS) :=
  cl (f_X11_sortOf n this S) fun x4 S1 => (if 0 ≤ x4 then jn (fun (S7 : MS) => gR S7 (mR S7 this 5) 12 fun q8 => ck (inb (mI S7 this 15) (mN S7 q8)) (bd (mI S7 q8 (mI S7 this 15).toNatClampNeg) fun x11 => (if x11 = (20 : Int32) then some ((6 : Int32), S7) else jn (fun (S14 : MS) => bd (sI S14 this 23 x4) fun S15 => cv (f_X11_nextToken n this S15) fun S17 => bd (((mI S17 this 15) + (1 : Int32)) + ((4 : Int32) * x11)) fun x20 => gR S17 (mR S17 this 5) 12 fun q21 => ck (inb x20 (mN S17 q21)) (bd (sI S17 q21 x20.toNatClampNeg x4) fun S24 => bd (mI S24 this 17) fun x26 => jn (fun (x29 : Int32) (S30 : MS) => (if x29 = 0 then jn (fun (S33 : MS) => gR S33 (mR S33 this 5) 12 fun q34 => ck (inb (mI S33 this 15) (mN S33 q34)) (ck (inb (mI S33 this 15) (mN S33 q34)) (bd (sI S33 q34 (mI S33 this 15).toNatClampNeg ((mI S33 q34 (mI S33 this 15).toNatClampNeg) + (1 : Int32))) fun S38 => (if (mI S38 this 12) = (59 : Int32) then cv (f_X11_nextToken n this S38) fun S40 => some ((0 : Int32), S40) else some ((1 : Int32), S38))))) fun j164_32 => (if (4 : Int32) ≤ x4 then j164_32 S30 else gR S30 (mR S30 this 5) 12 fun q43 => ck (inb (x20 + (1 : Int32)) (mN S30 q43)) (bd (sI S30 q43 (x20 + (1 : Int32)).toNatClampNeg x26) fun S46 => gR S46 (mR S46 this 5) 12 fun q48 => ck (inb (x20 + (2 : Int32)) (mN S46 q48)) (bd (sI S46 q48 (x20 + (2 : Int32)).toNatClampNeg (mI S46 this 17)) fun S51 => j164_32 S51))) else some (x29, S30))) fun j127_28 => (if x4 < (4 : Int32) then jn (fun (q56 : Nat) (x57 : Int32) (S58 : MS) => cl (f_X11_parsed n q56 x57 S58) fun x62 S59 => j127_28 x62 S59) fun j124_55 => (if x4 = (3 : Int32) then j124_55 this (1 : Int32) S24 else j124_55 this (0 : Int32) S24) else cl (f_X11_drawnBy n this x20 x4 S24) fun x69 S66 => j127_28 x69 S66))) fun j66_13 => (if (3 : Int32) ≤ x4 then j66_13 S7 else bd (sI S7 this 24 ((mI S7 this 24) ||| ((1 : Int32) <<< (x4 &&& 31)))) fun S72 => j66_13 S72)))) fun j30_6 => (if (3 : Int32) ≤ x4 then j30_6 S1 else (if (((mI S1 this 24) >>> (x4 &&& 31)) &&& (1 : Int32)) = (1 : Int32) then some ((4 : Int32), S1) else j30_6 S1)) else some ((1 : Int32), S1))
set_option maxRecDepth 100000 in
set_option maxHeartbeats 4000000 in
theorem c_X11_clause (l : Launch) (G : Gx) (n : Nat) (this : Nat) (S : MS) (ro : Int32) (So : MS) (hf : f_X11_clause n this S = some (ro, So)) (ok_this : Ok S this 11) : Cn G l yX11_clause cX11_clause 6 (some .int) rX11_clause [.ref this] S (some (.int ro)) So := by
  refine Cn.of (by decide) (Nat.le_of_ble_eq_true rfl) ?_
  intro p e s m args below meth c hC hname hR ls hl
  have hC : Cx G RX11 cX11_clause 6 (some .int) p s m args meth c := hC
  have hl : lv_has ls 6 [(0, .ref this)] := hl
  have hx := hC.x
  have hb := hC.b
  have hS : va_S (gA G) s.heap s.heap [] := va_S.rf
  have hE : Ex S S := Ex.rf S
  unfold f_X11_clause at hf
  refine lv_aload_n hx hb dX11_clause_0 rfl (lv_at hl 0 rfl) ?_
  obtain ⟨x4, S1, hc2, hf⟩ := cl_of hf
  refine cl_RX11_237 (As := []) (rest := []) hC hR hS (c_X11_sortOf l G n this S x4 S1 hc2 ok_this) ok_this rfl ⟨Nat.le_of_ble_eq_true rfl, Nat.le_of_ble_eq_true rfl⟩ hl.1 rfl (Nat.le_of_ble_eq_true rfl) dX11_clause_1 (Nat.zero_le _) (Nat.zero_le _) (fun H locs hR hS hE3 => ?_)
  have ok_this := hE3 _ _ ok_this
  have hE := hE.tr hE3
  refine lv_istore_n (lv' := [(1, .int x4), (0, .ref this)]) hx hb dX11_clause_4 rfl hl (by decide) rfl (fun ls hl => ?_)
  refine lv_iload_n hx hb dX11_clause_5 rfl (lv_at hl 0 rfl) ?_
  refine lv_if_ge (tgt := 11) hx hb dX11_clause_6 (by decide) (fun hc => ?_) (fun hc => ?_)
  · replace hf := if_t hf hc
    refine lv_iload_n hx hb dX11_clause_11 rfl (lv_at hl 0 rfl) ?_
    refine lv_iconst (v := 3) hx hb dX11_clause_12 (by decide) ?_
    obtain ⟨j30_6, ej30_6, hf⟩ := jn_of1 hf
    have hj30_5 : ∀ (S7 : MS) (H : Heap) (locs : List Loc) (ls : Array Slot), j30_6 S7 = some (ro, So) → Rp G S7 H → va_S (gA G) s.heap H locs → Ex S S7 → Ok S7 this 11 → lv_has ls 6 [(0, .ref this), (1, .int x4)] → W p l e rX11_clause s m args below meth c H locs 0 0 (MQ below (Qn G S (some (.int ro)) So) args s 0 0 (gA G)) (F0 m 30 ls []) := by
      intro S7 H locs ls hf hR hS hE ok_this hl
      rw [ej30_6] at hf
      refine lv_aload_n hx hb dX11_clause_30 rfl (lv_at hl 0 rfl) ?_
      obtain ⟨q8, hq9, ok_q8, hf⟩ := gR_of hf
      refine gf_RX11_13 hC hR ok_this hq9 dX11_clause_31 ?_
      refine lv_aload_n hx hb dX11_clause_34 rfl (lv_at hl 0 rfl) ?_
      refine gf_RX11_136 hC hR ok_this dX11_clause_35 ?_
      obtain ⟨hi10, hf⟩ := ck_of hf
      refine r_iald hC hR ok_q8 hi10 dX11_clause_38 ?_
      refine bdi hf (fun x11 hf => ?_)
      refine lv_istore_n (lv' := [(2, .int x11), (0, .ref this), (1, .int x4)]) hx hb dX11_clause_39 rfl hl (by decide) rfl (fun ls hl => ?_)
      refine lv_iload_n hx hb dX11_clause_40 rfl (lv_at hl 0 rfl) ?_
      refine lv_bipush (v := 20) hx hb dX11_clause_41 (by decide) ?_
      refine lv_icmp_ne (tgt := 49) hx hb dX11_clause_43 (by decide) (fun hc => ?_) (fun hc => ?_)
      · replace hf := if_f hf hc
        refine lv_iload_n hx hb dX11_clause_49 rfl (lv_at hl 2 rfl) ?_
        refine lv_iconst (v := 3) hx hb dX11_clause_50 (by decide) ?_
        obtain ⟨j66_13, ej66_13, hf⟩ := jn_of1 hf
        have hj66_12 : ∀ (S14 : MS) (H : Heap) (locs : List Loc) (ls : Array Slot), j66_13 S14 = some (ro, So) → Rp G S14 H → va_S (gA G) s.heap H locs → Ex S S14 → Ok S14 this 11 → lv_has ls 6 [(0, .ref this), (1, .int x4), (2, .int x11)] → W p l e rX11_clause s m args below meth c H locs 0 0 (MQ below (Qn G S (some (.int ro)) So) args s 0 0 (gA G)) (F0 m 66 ls []) := by
          intro S14 H locs ls hf hR hS hE ok_this hl
          rw [ej66_13] at hf
          refine lv_aload_n hx hb dX11_clause_66 rfl (lv_at hl 0 rfl) ?_
          refine lv_iload_n hx hb dX11_clause_67 rfl (lv_at hl 1 rfl) ?_
          refine pf_RX11_225 hC hR hS ok_this dX11_clause_68 hf (fun S15 H locs hf hR hS hE16 => ?_)
          have ok_this := hE16 _ _ ok_this
          have hE := hE.tr hE16
          refine lv_aload_n hx hb dX11_clause_71 rfl (lv_at hl 0 rfl) ?_
          obtain ⟨S17, hc18, hf⟩ := cv_of hf
          refine cl_RX11_165 (As := []) (rest := []) hC hR hS (c_X11_nextToken l G n this S15 S17 hc18 ok_this) ok_this rfl ⟨Nat.le_of_ble_eq_true rfl, Nat.le_of_ble_eq_true rfl⟩ hl.1 rfl (Nat.le_of_ble_eq_true rfl) dX11_clause_72 (Nat.zero_le _) (Nat.zero_le _) (fun H locs hR hS hE19 => ?_)
          have ok_this := hE19 _ _ ok_this
          have hE := hE.tr hE19
          refine lv_aload_n hx hb dX11_clause_75 rfl (lv_at hl 0 rfl) ?_
          refine gf_RX11_136 hC hR ok_this dX11_clause_76 ?_
          refine lv_iconst (v := 1) hx hb dX11_clause_79 (by decide) ?_
          refine lv_iadd hx hb dX11_clause_80 ?_
          refine lv_iconst (v := 4) hx hb dX11_clause_81 (by decide) ?_
          refine lv_iload_n hx hb dX11_clause_82 rfl (lv_at hl 2 rfl) ?_
          refine lv_imul hx hb dX11_clause_83 ?_
          refine lv_iadd hx hb dX11_clause_84 ?_
          refine bdi hf (fun x20 hf => ?_)
          refine lv_istore_n (lv' := [(3, .int x20), (0, .ref this), (1, .int x4), (2, .int x11)]) hx hb dX11_clause_85 rfl hl (by decide) rfl (fun ls hl => ?_)
          refine lv_aload_n hx hb dX11_clause_86 rfl (lv_at hl 1 rfl) ?_
          obtain ⟨q21, hq22, ok_q21, hf⟩ := gR_of hf
          refine gf_RX11_13 hC hR ok_this hq22 dX11_clause_87 ?_
          refine lv_iload_n hx hb dX11_clause_90 rfl (lv_at hl 0 rfl) ?_
          refine lv_iload_n hx hb dX11_clause_91 rfl (lv_at hl 2 rfl) ?_
          obtain ⟨hi23, hf⟩ := ck_of hf
          refine rB_iast hC hR hS ok_q21 hi23 dX11_clause_92 hf (fun S24 H locs hf hR hS hE25 => ?_)
          have ok_this := hE25 _ _ ok_this
          have ok_q21 := hE25 _ _ ok_q21
          have hE := hE.tr hE25
          refine lv_aload_n hx hb dX11_clause_93 rfl (lv_at hl 1 rfl) ?_
          refine gf_RX11_139 hC hR ok_this dX11_clause_94 ?_
          refine bdi hf (fun x26 hf => ?_)
          refine lv_istore (lv' := [(4, .int x26), (3, .int x20), (0, .ref this), (1, .int x4), (2, .int x11)]) hx hb dX11_clause_97 hl (by decide) rfl (fun ls hl => ?_)
          refine lv_iload_n hx hb dX11_clause_99 rfl (lv_at hl 3 rfl) ?_
          refine lv_iconst (v := 4) hx hb dX11_clause_100 (by decide) ?_
          obtain ⟨j127_28, ej127_28, hf⟩ := jn_of2 hf
          have hj127_27 : ∀ (x29 : Int32) (S30 : MS) (H : Heap) (locs : List Loc) (ls : Array Slot), j127_28 x29 S30 = some (ro, So) → Rp G S30 H → va_S (gA G) s.heap H locs → Ex S S30 → Ok S30 this 11 → lv_has ls 6 [(0, .ref this), (1, .int x4), (3, .int x20), (4, .int x26)] → W p l e rX11_clause s m args below meth c H locs 0 0 (MQ below (Qn G S (some (.int ro)) So) args s 0 0 (gA G)) (F0 m 127 ls [.int x29]) := by
            intro x29 S30 H locs ls hf hR hS hE ok_this hl
            rw [ej127_28] at hf
            refine lv_istore (lv' := [(5, .int x29), (0, .ref this), (1, .int x4), (3, .int x20), (4, .int x26)]) hx hb dX11_clause_127 hl (by decide) rfl (fun ls hl => ?_)
            refine lv_iload hx hb dX11_clause_129 (lv_at hl 0 rfl) ?_
            refine lv_if_eq (tgt := 137) hx hb dX11_clause_131 (by decide) (fun hc => ?_) (fun hc => ?_)
            · replace hf := if_t hf hc
              refine lv_iload_n hx hb dX11_clause_137 rfl (lv_at hl 2 rfl) ?_
              refine lv_iconst (v := 4) hx hb dX11_clause_138 (by decide) ?_
              obtain ⟨j164_32, ej164_32, hf⟩ := jn_of1 hf
              have hj164_31 : ∀ (S33 : MS) (H : Heap) (locs : List Loc) (ls : Array Slot), j164_32 S33 = some (ro, So) → Rp G S33 H → va_S (gA G) s.heap H locs → Ex S S33 → Ok S33 this 11 → lv_has ls 6 [(0, .ref this)] → W p l e rX11_clause s m args below meth c H locs 0 0 (MQ below (Qn G S (some (.int ro)) So) args s 0 0 (gA G)) (F0 m 164 ls []) := by
                intro S33 H locs ls hf hR hS hE ok_this hl
                rw [ej164_32] at hf
                refine lv_aload_n hx hb dX11_clause_164 rfl (lv_at hl 0 rfl) ?_
                obtain ⟨q34, hq35, ok_q34, hf⟩ := gR_of hf
                refine gf_RX11_13 hC hR ok_this hq35 dX11_clause_165 ?_
                refine lv_aload_n hx hb dX11_clause_168 rfl (lv_at hl 0 rfl) ?_
                refine gf_RX11_136 hC hR ok_this dX11_clause_169 ?_
                refine lv_dup2_11 hx hb dX11_clause_172 rfl rfl ?_
                obtain ⟨hi36, hf⟩ := ck_of hf
                refine r_iald hC hR ok_q34 hi36 dX11_clause_173 ?_
                refine lv_iconst (v := 1) hx hb dX11_clause_174 (by decide) ?_
                refine lv_iadd hx hb dX11_clause_175 ?_
                obtain ⟨hi37, hf⟩ := ck_of hf
                refine rB_iast hC hR hS ok_q34 hi37 dX11_clause_176 hf (fun S38 H locs hf hR hS hE39 => ?_)
                have ok_this := hE39 _ _ ok_this
                have ok_q34 := hE39 _ _ ok_q34
                have hE := hE.tr hE39
                refine lv_aload_n hx hb dX11_clause_177 rfl (lv_at hl 0 rfl) ?_
                refine gf_RX11_111 hC hR ok_this dX11_clause_178 ?_
                refine lv_bipush (v := 59) hx hb dX11_clause_181 (by decide) ?_
                refine lv_icmp_eq (tgt := 188) hx hb dX11_clause_183 (by decide) (fun hc => ?_) (fun hc => ?_)
                · replace hf := if_t hf hc
                  refine lv_aload_n hx hb dX11_clause_188 rfl (lv_at hl 0 rfl) ?_
                  obtain ⟨S40, hc41, hf⟩ := cv_of hf
                  refine cl_RX11_165 (As := []) (rest := []) hC hR hS (c_X11_nextToken l G n this S38 S40 hc41 ok_this) ok_this rfl ⟨Nat.le_of_ble_eq_true rfl, Nat.le_of_ble_eq_true rfl⟩ hl.1 rfl (Nat.le_of_ble_eq_true rfl) dX11_clause_189 (Nat.zero_le _) (Nat.zero_le _) (fun H locs hR hS hE42 => ?_)
                  have ok_this := hE42 _ _ ok_this
                  have ok_q34 := hE42 _ _ ok_q34
                  have hE := hE.tr hE42
                  refine lv_iconst (v := 0) hx hb dX11_clause_192 (by decide) ?_
                  exact r_iret hC hR hS hE hf dX11_clause_193
                · replace hf := if_f hf hc
                  refine lv_iconst (v := 1) hx hb dX11_clause_186 (by decide) ?_
                  exact r_iret hC hR hS hE hf dX11_clause_187
              refine lv_icmp_ge (tgt := 164) hx hb dX11_clause_139 (by decide) (fun hc => ?_) (fun hc => ?_)
              · replace hf := if_t hf hc
                exact hj164_31 S30 _ _ _ hf hR hS hE ok_this (lv_sub hl [1] rfl)
              · replace hf := if_f hf hc
                refine lv_aload_n hx hb dX11_clause_142 rfl (lv_at hl 1 rfl) ?_
                obtain ⟨q43, hq44, ok_q43, hf⟩ := gR_of hf
                refine gf_RX11_13 hC hR ok_this hq44 dX11_clause_143 ?_
                refine lv_iload_n hx hb dX11_clause_146 rfl (lv_at hl 3 rfl) ?_
                refine lv_iconst (v := 1) hx hb dX11_clause_147 (by decide) ?_
                refine lv_iadd hx hb dX11_clause_148 ?_
                refine lv_iload hx hb dX11_clause_149 (lv_at hl 4 rfl) ?_
                obtain ⟨hi45, hf⟩ := ck_of hf
                refine rB_iast hC hR hS ok_q43 hi45 dX11_clause_151 hf (fun S46 H locs hf hR hS hE47 => ?_)
                have ok_this := hE47 _ _ ok_this
                have ok_q43 := hE47 _ _ ok_q43
                have hE := hE.tr hE47
                refine lv_aload_n hx hb dX11_clause_152 rfl (lv_at hl 1 rfl) ?_
                obtain ⟨q48, hq49, ok_q48, hf⟩ := gR_of hf
                refine gf_RX11_13 hC hR ok_this hq49 dX11_clause_153 ?_
                refine lv_iload_n hx hb dX11_clause_156 rfl (lv_at hl 3 rfl) ?_
                refine lv_iconst (v := 2) hx hb dX11_clause_157 (by decide) ?_
                refine lv_iadd hx hb dX11_clause_158 ?_
                refine lv_aload_n hx hb dX11_clause_159 rfl (lv_at hl 1 rfl) ?_
                refine gf_RX11_139 hC hR ok_this dX11_clause_160 ?_
                obtain ⟨hi50, hf⟩ := ck_of hf
                refine rB_iast hC hR hS ok_q48 hi50 dX11_clause_163 hf (fun S51 H locs hf hR hS hE52 => ?_)
                have ok_this := hE52 _ _ ok_this
                have ok_q43 := hE52 _ _ ok_q43
                have ok_q48 := hE52 _ _ ok_q48
                have hE := hE.tr hE52
                exact hj164_31 S51 _ _ _ hf hR hS hE ok_this (lv_sub hl [1] rfl)
            · replace hf := if_f hf hc
              refine lv_iload hx hb dX11_clause_134 (lv_at hl 0 rfl) ?_
              exact r_iret hC hR hS hE hf dX11_clause_136
          refine lv_icmp_lt (tgt := 113) hx hb dX11_clause_101 (by decide) (fun hc => ?_) (fun hc => ?_)
          · replace hf := if_t hf hc
            refine lv_aload_n hx hb dX11_clause_113 rfl (lv_at hl 2 rfl) ?_
            refine lv_iload_n hx hb dX11_clause_114 rfl (lv_at hl 3 rfl) ?_
            refine lv_iconst (v := 3) hx hb dX11_clause_115 (by decide) ?_
            obtain ⟨j124_55, ej124_55, hf⟩ := jn_of3 hf
            have hj124_54 : ∀ (q56 : Nat) (x57 : Int32) (S58 : MS) (H : Heap) (locs : List Loc) (ls : Array Slot), j124_55 q56 x57 S58 = some (ro, So) → Rp G S58 H → va_S (gA G) s.heap H locs → Ex S S58 → Ok S58 this 11 → Ok S58 q56 11 → lv_has ls 6 [(0, .ref this), (1, .int x4), (3, .int x20), (4, .int x26)] → W p l e rX11_clause s m args below meth c H locs 0 0 (MQ below (Qn G S (some (.int ro)) So) args s 0 0 (gA G)) (F0 m 124 ls [.int x57, .ref q56]) := by
              intro q56 x57 S58 H locs ls hf hR hS hE ok_this ok_q56 hl
              rw [ej124_55] at hf
              obtain ⟨x62, S59, hc60, hf⟩ := cl_of hf
              refine cl_RX11_247 (As := [.int x57]) (rest := []) hC hR hS (c_X11_parsed l G n q56 x57 S58 x62 S59 hc60 ok_q56) ok_q56 rfl ⟨Nat.le_of_ble_eq_true rfl, Nat.le_of_ble_eq_true rfl⟩ hl.1 rfl (Nat.le_of_ble_eq_true rfl) dX11_clause_124 (Nat.zero_le _) (Nat.zero_le _) (fun H locs hR hS hE61 => ?_)
              have ok_this := hE61 _ _ ok_this
              have ok_q56 := hE61 _ _ ok_q56
              have hE := hE.tr hE61
              exact hj127_27 x62 S59 _ _ _ hf hR hS hE ok_this (lv_sub hl [0, 1, 2, 3] rfl)
            refine lv_icmp_ne (tgt := 123) hx hb dX11_clause_116 (by decide) (fun hc => ?_) (fun hc => ?_)
            · replace hf := if_f hf hc
              refine lv_iconst (v := 0) hx hb dX11_clause_123 (by decide) ?_
              exact hj124_54 this (0 : Int32) S24 _ _ _ hf hR hS hE ok_this ok_this (lv_sub hl [2, 3, 1, 0] rfl)
            · replace hf := if_t hf hc
              refine lv_iconst (v := 1) hx hb dX11_clause_119 (by decide) ?_
              refine lv_goto (tgt := 124) hx hb dX11_clause_120 (by decide) ?_
              exact hj124_54 this (1 : Int32) S24 _ _ _ hf hR hS hE ok_this ok_this (lv_sub hl [2, 3, 1, 0] rfl)
          · replace hf := if_f hf hc
            refine lv_aload_n hx hb dX11_clause_104 rfl (lv_at hl 2 rfl) ?_
            refine lv_iload_n hx hb dX11_clause_105 rfl (lv_at hl 1 rfl) ?_
            refine lv_iload_n hx hb dX11_clause_106 rfl (lv_at hl 3 rfl) ?_
            obtain ⟨x69, S66, hc67, hf⟩ := cl_of hf
            refine cl_RX11_243 (As := [.int x20, .int x4]) (rest := []) hC hR hS (c_X11_drawnBy l G n this x20 x4 S24 x69 S66 hc67 ok_this) ok_this rfl ⟨Nat.le_of_ble_eq_true rfl, Nat.le_of_ble_eq_true rfl⟩ hl.1 rfl (Nat.le_of_ble_eq_true rfl) dX11_clause_107 (Nat.zero_le _) (Nat.zero_le _) (fun H locs hR hS hE68 => ?_)
            have ok_this := hE68 _ _ ok_this
            have ok_q21 := hE68 _ _ ok_q21
            have hE := hE.tr hE68
            refine lv_goto (tgt := 127) hx hb dX11_clause_110 (by decide) ?_
            exact hj127_27 x69 S66 _ _ _ hf hR hS hE ok_this (lv_sub hl [2, 3, 1, 0] rfl)
        refine lv_icmp_ge (tgt := 66) hx hb dX11_clause_51 (by decide) (fun hc => ?_) (fun hc => ?_)
        · replace hf := if_t hf hc
          exact hj66_12 S7 _ _ _ hf hR hS hE ok_this (lv_sub hl [1, 2, 0] rfl)
        · replace hf := if_f hf hc
          refine lv_aload_n hx hb dX11_clause_54 rfl (lv_at hl 1 rfl) ?_
          refine lv_dup hx hb dX11_clause_55 rfl ?_
          refine gf_RX11_240 hC hR ok_this dX11_clause_56 ?_
          refine lv_iconst (v := 1) hx hb dX11_clause_59 (by decide) ?_
          refine lv_iload_n hx hb dX11_clause_60 rfl (lv_at hl 2 rfl) ?_
          refine lv_ishl hx hb dX11_clause_61 ?_
          refine lv_ior hx hb dX11_clause_62 ?_
          refine pf_RX11_240 hC hR hS ok_this dX11_clause_63 hf (fun S72 H locs hf hR hS hE73 => ?_)
          have ok_this := hE73 _ _ ok_this
          have ok_q8 := hE73 _ _ ok_q8
          have hE := hE.tr hE73
          exact hj66_12 S72 _ _ _ hf hR hS hE ok_this (lv_sub hl [1, 2, 0] rfl)
      · replace hf := if_t hf hc
        refine lv_bipush (v := 6) hx hb dX11_clause_46 (by decide) ?_
        exact r_iret hC hR hS hE hf dX11_clause_48
    refine lv_icmp_ge (tgt := 30) hx hb dX11_clause_13 (by decide) (fun hc => ?_) (fun hc => ?_)
    · replace hf := if_t hf hc
      exact hj30_5 S1 _ _ _ hf hR hS hE ok_this (lv_sub hl [1, 0] rfl)
    · replace hf := if_f hf hc
      refine lv_aload_n hx hb dX11_clause_16 rfl (lv_at hl 1 rfl) ?_
      refine gf_RX11_240 hC hR ok_this dX11_clause_17 ?_
      refine lv_iload_n hx hb dX11_clause_20 rfl (lv_at hl 0 rfl) ?_
      refine lv_ishr hx hb dX11_clause_21 ?_
      refine lv_iconst (v := 1) hx hb dX11_clause_22 (by decide) ?_
      refine lv_iand hx hb dX11_clause_23 ?_
      refine lv_iconst (v := 1) hx hb dX11_clause_24 (by decide) ?_
      refine lv_icmp_ne (tgt := 30) hx hb dX11_clause_25 (by decide) (fun hc => ?_) (fun hc => ?_)
      · replace hf := if_f hf hc
        exact hj30_5 S1 _ _ _ hf hR hS hE ok_this (lv_sub hl [1, 0] rfl)
      · replace hf := if_t hf hc
        refine lv_iconst (v := 4) hx hb dX11_clause_28 (by decide) ?_
        exact r_iret hC hR hS hE hf dX11_clause_29
  · replace hf := if_f hf hc
    refine lv_iconst (v := 1) hx hb dX11_clause_9 (by decide) ?_
    exact r_iret hC hR hS hE hf dX11_clause_10
abbrev rX11_readText : Room := { frames := 7, cells := 0, slots := 0, locals := 161 }
def f_X11_readText_L48 (n : Nat) (this : Nat) : Nat → MS → Option (Int32 × MS)
  | 0, _ => none
  | k + 1, S24 => jn (f_X11_readText_L48 n this k) fun rec48_23 => (if (mI S24 this 12) = 0 then some ((0 : Int32), S24) else cl (f_X11_clause n this S24) fun x28 S25 => (if x28 = 0 then rec48_23 S25 else some (x28, S25)))
def f_X11_readText (n : Nat) (this : Nat) (S : MS) : Option (Int32 × MS) :=
  gR S (mR S this 0) 12 fun q1 => ck (inb (3 : Int32) (mN S q1)) (bd (sI S this 15 ((700 : Int32) * (mI S q1 (3 : Int32).toNatClampNeg))) fun S4 => gR S4 (mR S4 this 5) 12 fun q6 => ck (inb (mI S4 this 15) (mN S4 q6)) (bd (sI S4 q6 (mI S4 this 15).toNatClampNeg (0 : Int32)) fun S9 => bd (sI S9 this 17 (0 : Int32)) fun S11 => bd (sI S11 this 21 (0 : Int32)) fun S13 => bd (sI S13 this 24 (0 : Int32)) fun S15 => bd (sI S15 this 10 (0 : Int32)) fun S17 => cv (f_X11_nextToken n this S17) fun S19 => f_X11_readText_L48 n this n S19))
set_option maxRecDepth 100000 in
set_option maxHeartbeats 4000000 in
theorem c_X11_readText (l : Launch) (G : Gx) (n : Nat) (this : Nat) (S : MS) (ro : Int32) (So : MS) (hf : f_X11_readText n this S = some (ro, So)) (ok_this : Ok S this 11) : Cn G l yX11_readText cX11_readText 2 (some .int) rX11_readText [.ref this] S (some (.int ro)) So := by
  refine Cn.of (by decide) (Nat.le_of_ble_eq_true rfl) ?_
  intro p e s m args below meth c hC hname hR ls hl
  have hC : Cx G RX11 cX11_readText 2 (some .int) p s m args meth c := hC
  have hl : lv_has ls 2 [(0, .ref this)] := hl
  have hx := hC.x
  have hb := hC.b
  have hS : va_S (gA G) s.heap s.heap [] := va_S.rf
  have hE : Ex S S := Ex.rf S
  unfold f_X11_readText at hf
  refine lv_aload_n hx hb dX11_readText_0 rfl (lv_at hl 0 rfl) ?_
  refine lv_sipush (v := 700) hx hb dX11_readText_1 (by decide) ?_
  refine lv_aload_n hx hb dX11_readText_4 rfl (lv_at hl 0 rfl) ?_
  obtain ⟨q1, hq2, ok_q1, hf⟩ := gR_of hf
  refine gf_RX11_7 hC hR ok_this hq2 dX11_readText_5 ?_
  refine lv_iconst (v := 3) hx hb dX11_readText_8 (by decide) ?_
  obtain ⟨hi3, hf⟩ := ck_of hf
  refine r_iald hC hR ok_q1 hi3 dX11_readText_9 ?_
  refine lv_imul hx hb dX11_readText_10 ?_
  refine pf_RX11_136 hC hR hS ok_this dX11_readText_11 hf (fun S4 H locs hf hR hS hE5 => ?_)
  have ok_this := hE5 _ _ ok_this
  have ok_q1 := hE5 _ _ ok_q1
  have hE := hE.tr hE5
  refine lv_aload_n hx hb dX11_readText_14 rfl (lv_at hl 0 rfl) ?_
  obtain ⟨q6, hq7, ok_q6, hf⟩ := gR_of hf
  refine gf_RX11_13 hC hR ok_this hq7 dX11_readText_15 ?_
  refine lv_aload_n hx hb dX11_readText_18 rfl (lv_at hl 0 rfl) ?_
  refine gf_RX11_136 hC hR ok_this dX11_readText_19 ?_
  refine lv_iconst (v := 0) hx hb dX11_readText_22 (by decide) ?_
  obtain ⟨hi8, hf⟩ := ck_of hf
  refine rB_iast hC hR hS ok_q6 hi8 dX11_readText_23 hf (fun S9 H locs hf hR hS hE10 => ?_)
  have ok_this := hE10 _ _ ok_this
  have ok_q1 := hE10 _ _ ok_q1
  have ok_q6 := hE10 _ _ ok_q6
  have hE := hE.tr hE10
  refine lv_aload_n hx hb dX11_readText_24 rfl (lv_at hl 0 rfl) ?_
  refine lv_iconst (v := 0) hx hb dX11_readText_25 (by decide) ?_
  refine pf_RX11_139 hC hR hS ok_this dX11_readText_26 hf (fun S11 H locs hf hR hS hE12 => ?_)
  have ok_this := hE12 _ _ ok_this
  have ok_q1 := hE12 _ _ ok_q1
  have ok_q6 := hE12 _ _ ok_q6
  have hE := hE.tr hE12
  refine lv_aload_n hx hb dX11_readText_29 rfl (lv_at hl 0 rfl) ?_
  refine lv_iconst (v := 0) hx hb dX11_readText_30 (by decide) ?_
  refine pf_RX11_151 hC hR hS ok_this dX11_readText_31 hf (fun S13 H locs hf hR hS hE14 => ?_)
  have ok_this := hE14 _ _ ok_this
  have ok_q1 := hE14 _ _ ok_q1
  have ok_q6 := hE14 _ _ ok_q6
  have hE := hE.tr hE14
  refine lv_aload_n hx hb dX11_readText_34 rfl (lv_at hl 0 rfl) ?_
  refine lv_iconst (v := 0) hx hb dX11_readText_35 (by decide) ?_
  refine pf_RX11_240 hC hR hS ok_this dX11_readText_36 hf (fun S15 H locs hf hR hS hE16 => ?_)
  have ok_this := hE16 _ _ ok_this
  have ok_q1 := hE16 _ _ ok_q1
  have ok_q6 := hE16 _ _ ok_q6
  have hE := hE.tr hE16
  refine lv_aload_n hx hb dX11_readText_39 rfl (lv_at hl 0 rfl) ?_
  refine lv_iconst (v := 0) hx hb dX11_readText_40 (by decide) ?_
  refine pf_RX11_101 hC hR hS ok_this dX11_readText_41 hf (fun S17 H locs hf hR hS hE18 => ?_)
  have ok_this := hE18 _ _ ok_this
  have ok_q1 := hE18 _ _ ok_q1
  have ok_q6 := hE18 _ _ ok_q6
  have hE := hE.tr hE18
  refine lv_aload_n hx hb dX11_readText_44 rfl (lv_at hl 0 rfl) ?_
  obtain ⟨S19, hc20, hf⟩ := cv_of hf
  refine cl_RX11_165 (As := []) (rest := []) hC hR hS (c_X11_nextToken l G n this S17 S19 hc20 ok_this) ok_this rfl ⟨Nat.le_of_ble_eq_true rfl, Nat.le_of_ble_eq_true rfl⟩ hl.1 rfl (Nat.le_of_ble_eq_true rfl) dX11_readText_45 (Nat.zero_le _) (Nat.zero_le _) (fun H locs hR hS hE21 => ?_)
  have ok_this := hE21 _ _ ok_this
  have ok_q1 := hE21 _ _ ok_q1
  have ok_q6 := hE21 _ _ ok_q6
  have hE := hE.tr hE21
  have hh29 : ∀ k : Nat, ∀ (S24 : MS) (H : Heap) (locs : List Loc) (ls : Array Slot), f_X11_readText_L48 n this k S24 = some (ro, So) → Rp G S24 H → va_S (gA G) s.heap H locs → Ex S S24 → Ok S24 this 11 → lv_has ls 2 [(0, .ref this)] → W p l e rX11_readText s m args below meth c H locs 0 0 (MQ below (Qn G S (some (.int ro)) So) args s 0 0 (gA G)) (F0 m 48 ls []) := by
    intro k
    induction k with
    | zero =>
      intro S24 H locs ls hf hR hS hE ok_this hl
      exact absurd hf (by rw [f_X11_readText_L48]; exact fun h => by cases h)
    | succ k ih =>
      intro S24 H locs ls hf hR hS hE ok_this hl
      rw [f_X11_readText_L48] at hf
      obtain ⟨rec48_23, erec48_23, hf⟩ := jn_of1 hf
      have hL48_22 : ∀ (S24 : MS) (H : Heap) (locs : List Loc) (ls : Array Slot), rec48_23 S24 = some (ro, So) → Rp G S24 H → va_S (gA G) s.heap H locs → Ex S S24 → Ok S24 this 11 → lv_has ls 2 [(0, .ref this)] → W p l e rX11_readText s m args below meth c H locs 0 0 (MQ below (Qn G S (some (.int ro)) So) args s 0 0 (gA G)) (F0 m 48 ls []) := by
        intro S24 H locs ls hf hR hS hE ok_this hl
        rw [erec48_23] at hf
        exact ih S24 _ _ _ hf hR hS hE ok_this hl
      refine lv_aload_n hx hb dX11_readText_48 rfl (lv_at hl 0 rfl) ?_
      refine gf_RX11_111 hC hR ok_this dX11_readText_49 ?_
      refine lv_if_eq (tgt := 69) hx hb dX11_readText_52 (by decide) (fun hc => ?_) (fun hc => ?_)
      · replace hf := if_t hf hc
        refine lv_iconst (v := 0) hx hb dX11_readText_69 (by decide) ?_
        exact r_iret hC hR hS hE hf dX11_readText_70
      · replace hf := if_f hf hc
        refine lv_aload_n hx hb dX11_readText_55 rfl (lv_at hl 0 rfl) ?_
        obtain ⟨x28, S25, hc26, hf⟩ := cl_of hf
        refine cl_RX11_250 (As := []) (rest := []) hC hR hS (c_X11_clause l G n this S24 x28 S25 hc26 ok_this) ok_this rfl ⟨Nat.le_of_ble_eq_true rfl, Nat.le_of_ble_eq_true rfl⟩ hl.1 rfl (Nat.le_of_ble_eq_true rfl) dX11_readText_56 (Nat.zero_le _) (Nat.zero_le _) (fun H locs hR hS hE27 => ?_)
        have ok_this := hE27 _ _ ok_this
        have hE := hE.tr hE27
        refine lv_istore_n (lv' := [(1, .int x28), (0, .ref this)]) hx hb dX11_readText_59 rfl hl (by decide) rfl (fun ls hl => ?_)
        refine lv_iload_n hx hb dX11_readText_60 rfl (lv_at hl 0 rfl) ?_
        refine lv_if_eq (tgt := 66) hx hb dX11_readText_61 (by decide) (fun hc => ?_) (fun hc => ?_)
        · replace hf := if_t hf hc
          refine lv_goto (tgt := 48) hx hb dX11_readText_66 (by decide) ?_
          exact hL48_22 S25 _ _ _ hf hR hS hE ok_this (lv_sub hl [1] rfl)
        · replace hf := if_f hf hc
          refine lv_iload_n hx hb dX11_readText_64 rfl (lv_at hl 0 rfl) ?_
          exact r_iret hC hR hS hE hf dX11_readText_65
  exact hh29 n S19 _ _ _ hf hR hS hE ok_this (lv_sub hl [0] rfl)
abbrev rX11_text : Room := { frames := 8, cells := 0, slots := 0, locals := 182 }
def f_X11_text (n : Nat) (this : Nat) (S : MS) : Option (Int32 × MS) :=
  gR S (mR S this 0) 12 fun q1 => ck (inb (3 : Int32) (mN S q1)) ((if (mI S q1 (3 : Int32).toNatClampNeg) = (4 : Int32) then some ((-1 : Int32), S) else cl (f_X11_readText n this S) fun x7 S4 => bd (sI S4 this 8 x7) fun S8 => jn (fun (q12 : Nat) (x13 : Int32) (S14 : MS) => bd (sI S14 q12 9 x13) fun S15 => bd (sI S15 this 7 (0 : Int32)) fun S17 => (if (mI S17 this 8) = 0 then gR S17 (mR S17 this 0) 12 fun q19 => ck (inb (3 : Int32) (mN S17 q19)) (ck (inb (3 : Int32) (mN S17 q19)) (bd (sI S17 q19 (3 : Int32).toNatClampNeg ((mI S17 q19 (3 : Int32).toNatClampNeg) + (1 : Int32))) fun S23 => gR S23 (mR S23 this 0) 12 fun q25 => ck (inb (3 : Int32) (mN S23 q25)) (some (((mI S23 q25 (3 : Int32).toNatClampNeg) - (1 : Int32)), S23)))) else some ((-1 : Int32), S17))) fun j36_11 => (if (mI S8 this 8) = 0 then j36_11 this (-1 : Int32) S8 else j36_11 this (mI S8 this 11) S8)))
set_option maxRecDepth 100000 in
set_option maxHeartbeats 4000000 in
theorem c_X11_text (l : Launch) (G : Gx) (n : Nat) (this : Nat) (S : MS) (ro : Int32) (So : MS) (hf : f_X11_text n this S = some (ro, So)) (ok_this : Ok S this 11) : Cn G l yX11_text cX11_text 1 (some .int) rX11_text [.ref this] S (some (.int ro)) So := by
  refine Cn.of (by decide) (Nat.le_of_ble_eq_true rfl) ?_
  intro p e s m args below meth c hC hname hR ls hl
  have hC : Cx G RX11 cX11_text 1 (some .int) p s m args meth c := hC
  have hl : lv_has ls 1 [(0, .ref this)] := hl
  have hx := hC.x
  have hb := hC.b
  have hS : va_S (gA G) s.heap s.heap [] := va_S.rf
  have hE : Ex S S := Ex.rf S
  unfold f_X11_text at hf
  refine lv_aload_n hx hb dX11_text_0 rfl (lv_at hl 0 rfl) ?_
  obtain ⟨q1, hq2, ok_q1, hf⟩ := gR_of hf
  refine gf_RX11_7 hC hR ok_this hq2 dX11_text_1 ?_
  refine lv_iconst (v := 3) hx hb dX11_text_4 (by decide) ?_
  obtain ⟨hi3, hf⟩ := ck_of hf
  refine r_iald hC hR ok_q1 hi3 dX11_text_5 ?_
  refine lv_iconst (v := 4) hx hb dX11_text_6 (by decide) ?_
  refine lv_icmp_ne (tgt := 12) hx hb dX11_text_7 (by decide) (fun hc => ?_) (fun hc => ?_)
  · replace hf := if_f hf hc
    refine lv_aload_n hx hb dX11_text_12 rfl (lv_at hl 0 rfl) ?_
    refine lv_aload_n hx hb dX11_text_13 rfl (lv_at hl 0 rfl) ?_
    obtain ⟨x7, S4, hc5, hf⟩ := cl_of hf
    refine cl_RX11_253 (As := []) (rest := [.ref this]) hC hR hS (c_X11_readText l G n this S x7 S4 hc5 ok_this) ok_this rfl ⟨Nat.le_of_ble_eq_true rfl, Nat.le_of_ble_eq_true rfl⟩ hl.1 rfl (Nat.le_of_ble_eq_true rfl) dX11_text_14 (Nat.zero_le _) (Nat.zero_le _) (fun H locs hR hS hE6 => ?_)
    have ok_this := hE6 _ _ ok_this
    have ok_q1 := hE6 _ _ ok_q1
    have hE := hE.tr hE6
    refine pf_RX11_19 hC hR hS ok_this dX11_text_17 hf (fun S8 H locs hf hR hS hE9 => ?_)
    have ok_this := hE9 _ _ ok_this
    have ok_q1 := hE9 _ _ ok_q1
    have hE := hE.tr hE9
    refine lv_aload_n hx hb dX11_text_20 rfl (lv_at hl 0 rfl) ?_
    refine lv_aload_n hx hb dX11_text_21 rfl (lv_at hl 0 rfl) ?_
    refine gf_RX11_19 hC hR ok_this dX11_text_22 ?_
    obtain ⟨j36_11, ej36_11, hf⟩ := jn_of3 hf
    have hj36_10 : ∀ (q12 : Nat) (x13 : Int32) (S14 : MS) (H : Heap) (locs : List Loc) (ls : Array Slot), j36_11 q12 x13 S14 = some (ro, So) → Rp G S14 H → va_S (gA G) s.heap H locs → Ex S S14 → Ok S14 this 11 → Ok S14 q12 11 → lv_has ls 1 [(0, .ref this)] → W p l e rX11_text s m args below meth c H locs 0 0 (MQ below (Qn G S (some (.int ro)) So) args s 0 0 (gA G)) (F0 m 36 ls [.int x13, .ref q12]) := by
      intro q12 x13 S14 H locs ls hf hR hS hE ok_this ok_q12 hl
      rw [ej36_11] at hf
      refine pf_RX11_23 hC hR hS ok_q12 dX11_text_36 hf (fun S15 H locs hf hR hS hE16 => ?_)
      have ok_this := hE16 _ _ ok_this
      have ok_q12 := hE16 _ _ ok_q12
      have hE := hE.tr hE16
      refine lv_aload_n hx hb dX11_text_39 rfl (lv_at hl 0 rfl) ?_
      refine lv_iconst (v := 0) hx hb dX11_text_40 (by decide) ?_
      refine pf_RX11_94 hC hR hS ok_this dX11_text_41 hf (fun S17 H locs hf hR hS hE18 => ?_)
      have ok_this := hE18 _ _ ok_this
      have ok_q12 := hE18 _ _ ok_q12
      have hE := hE.tr hE18
      refine lv_aload_n hx hb dX11_text_44 rfl (lv_at hl 0 rfl) ?_
      refine gf_RX11_19 hC hR ok_this dX11_text_45 ?_
      refine lv_if_eq (tgt := 53) hx hb dX11_text_48 (by decide) (fun hc => ?_) (fun hc => ?_)
      · replace hf := if_t hf hc
        refine lv_aload_n hx hb dX11_text_53 rfl (lv_at hl 0 rfl) ?_
        obtain ⟨q19, hq20, ok_q19, hf⟩ := gR_of hf
        refine gf_RX11_7 hC hR ok_this hq20 dX11_text_54 ?_
        refine lv_iconst (v := 3) hx hb dX11_text_57 (by decide) ?_
        refine lv_dup2_11 hx hb dX11_text_58 rfl rfl ?_
        obtain ⟨hi21, hf⟩ := ck_of hf
        refine r_iald hC hR ok_q19 hi21 dX11_text_59 ?_
        refine lv_iconst (v := 1) hx hb dX11_text_60 (by decide) ?_
        refine lv_iadd hx hb dX11_text_61 ?_
        obtain ⟨hi22, hf⟩ := ck_of hf
        refine rB_iast hC hR hS ok_q19 hi22 dX11_text_62 hf (fun S23 H locs hf hR hS hE24 => ?_)
        have ok_this := hE24 _ _ ok_this
        have ok_q12 := hE24 _ _ ok_q12
        have ok_q19 := hE24 _ _ ok_q19
        have hE := hE.tr hE24
        refine lv_aload_n hx hb dX11_text_63 rfl (lv_at hl 0 rfl) ?_
        obtain ⟨q25, hq26, ok_q25, hf⟩ := gR_of hf
        refine gf_RX11_7 hC hR ok_this hq26 dX11_text_64 ?_
        refine lv_iconst (v := 3) hx hb dX11_text_67 (by decide) ?_
        obtain ⟨hi27, hf⟩ := ck_of hf
        refine r_iald hC hR ok_q25 hi27 dX11_text_68 ?_
        refine lv_iconst (v := 1) hx hb dX11_text_69 (by decide) ?_
        refine lv_isub hx hb dX11_text_70 ?_
        exact r_iret hC hR hS hE hf dX11_text_71
      · replace hf := if_f hf hc
        refine lv_iconst (v := -1) hx hb dX11_text_51 (by decide) ?_
        exact r_iret hC hR hS hE hf dX11_text_52
    refine lv_if_ne (tgt := 32) hx hb dX11_text_25 (by decide) (fun hc => ?_) (fun hc => ?_)
    · replace hf := if_f hf hc
      refine lv_aload_n hx hb dX11_text_32 rfl (lv_at hl 0 rfl) ?_
      refine gf_RX11_108 hC hR ok_this dX11_text_33 ?_
      exact hj36_10 this (mI S8 this 11) S8 _ _ _ hf hR hS hE ok_this ok_this (lv_sub hl [0] rfl)
    · replace hf := if_t hf hc
      refine lv_iconst (v := -1) hx hb dX11_text_28 (by decide) ?_
      refine lv_goto (tgt := 36) hx hb dX11_text_29 (by decide) ?_
      exact hj36_10 this (-1 : Int32) S8 _ _ _ hf hR hS hE ok_this ok_this (lv_sub hl [0] rfl)
  · replace hf := if_t hf hc
    refine lv_iconst (v := -1) hx hb dX11_text_10 (by decide) ?_
    exact r_iret hC hR hS hE hf dX11_text_11
abbrev rX11_fault : Room := { frames := 0, cells := 0, slots := 0, locals := 0 }
def f_X11_fault (_n : Nat) (this : Nat) (a1 : Int32) (S : MS) : Option (Int32 × MS) :=
  (if a1 = 0 then some ((mI S this 8), S) else (if a1 = (1 : Int32) then some ((mI S this 9), S) else some ((-1 : Int32), S)))
set_option maxRecDepth 100000 in
set_option maxHeartbeats 4000000 in
theorem c_X11_fault (l : Launch) (G : Gx) (n : Nat) (this : Nat) (a1 : Int32) (S : MS) (ro : Int32) (So : MS) (hf : f_X11_fault n this a1 S = some (ro, So)) (ok_this : Ok S this 11) : Cn G l yX11_fault cX11_fault 2 (some .int) rX11_fault [.ref this, .int a1] S (some (.int ro)) So := by
  refine Cn.of (by decide) (Nat.le_of_ble_eq_true rfl) ?_
  intro p e s m args below meth c hC hname hR ls hl
  have hC : Cx G RX11 cX11_fault 2 (some .int) p s m args meth c := hC
  have hl : lv_has ls 2 [(0, .ref this), (1, .int a1)] := hl
  have hx := hC.x
  have hb := hC.b
  have hS : va_S (gA G) s.heap s.heap [] := va_S.rf
  have hE : Ex S S := Ex.rf S
  unfold f_X11_fault at hf
  refine lv_iload_n hx hb dX11_fault_0 rfl (lv_at hl 1 rfl) ?_
  refine lv_if_ne (tgt := 11) hx hb dX11_fault_1 (by decide) (fun hc => ?_) (fun hc => ?_)
  · replace hf := if_f hf hc
    refine lv_iload_n hx hb dX11_fault_11 rfl (lv_at hl 1 rfl) ?_
    refine lv_iconst (v := 1) hx hb dX11_fault_12 (by decide) ?_
    refine lv_icmp_ne (tgt := 23) hx hb dX11_fault_13 (by decide) (fun hc => ?_) (fun hc => ?_)
    · replace hf := if_f hf hc
      refine lv_iconst (v := -1) hx hb dX11_fault_23 (by decide) ?_
      exact r_iret hC hR hS hE hf dX11_fault_24
    · replace hf := if_t hf hc
      refine lv_aload_n hx hb dX11_fault_16 rfl (lv_at hl 0 rfl) ?_
      refine gf_RX11_23 hC hR ok_this dX11_fault_17 ?_
      refine lv_goto (tgt := 24) hx hb dX11_fault_20 (by decide) ?_
      exact r_iret hC hR hS hE hf dX11_fault_24
  · replace hf := if_t hf hc
    refine lv_aload_n hx hb dX11_fault_4 rfl (lv_at hl 0 rfl) ?_
    refine gf_RX11_19 hC hR ok_this dX11_fault_5 ?_
    refine lv_goto (tgt := 24) hx hb dX11_fault_8 (by decide) ?_
    exact r_iret hC hR hS hE hf dX11_fault_24
abbrev rX11_by : Room := { frames := 1, cells := 0, slots := 0, locals := 22 }
def f_X11_by (n : Nat) (this : Nat) (a1 : Int32) (S : MS) : Option (Int32 × MS) :=
  gR S (mR S this 0) 12 fun q1 => ck (inb (3 : Int32) (mN S q1)) (cl (f_X11_isIn n a1 (-1 : Int32) ((mI S q1 (3 : Int32).toNatClampNeg) - (1 : Int32)) S) fun x7 S4 => (if x7 = 0 then zb (0 : Int32) (some ((0 : Int32), S4)) else gR S4 (mR S4 this 0) 12 fun q8 => ck (inb (4 : Int32) (mN S4 q8)) (bd (sI S4 q8 (4 : Int32).toNatClampNeg a1) fun S11 => zb (1 : Int32) (some ((1 : Int32), S11)))))
set_option maxRecDepth 100000 in
set_option maxHeartbeats 4000000 in
theorem c_X11_by (l : Launch) (G : Gx) (n : Nat) (this : Nat) (a1 : Int32) (S : MS) (ro : Int32) (So : MS) (hf : f_X11_by n this a1 S = some (ro, So)) (ok_this : Ok S this 11) : Cn G l yX11_by cX11_by 2 (some .boolean) rX11_by [.ref this, .int a1] S (some (.int ro)) So := by
  refine Cn.of (by decide) (Nat.le_of_ble_eq_true rfl) ?_
  intro p e s m args below meth c hC hname hR ls hl
  have hC : Cx G RX11 cX11_by 2 (some .boolean) p s m args meth c := hC
  have hl : lv_has ls 2 [(0, .ref this), (1, .int a1)] := hl
  have hx := hC.x
  have hb := hC.b
  have hS : va_S (gA G) s.heap s.heap [] := va_S.rf
  have hE : Ex S S := Ex.rf S
  unfold f_X11_by at hf
  refine lv_iload_n hx hb dX11_by_0 rfl (lv_at hl 1 rfl) ?_
  refine lv_iconst (v := -1) hx hb dX11_by_1 (by decide) ?_
  refine lv_aload_n hx hb dX11_by_2 rfl (lv_at hl 0 rfl) ?_
  obtain ⟨q1, hq2, ok_q1, hf⟩ := gR_of hf
  refine gf_RX11_7 hC hR ok_this hq2 dX11_by_3 ?_
  refine lv_iconst (v := 3) hx hb dX11_by_6 (by decide) ?_
  obtain ⟨hi3, hf⟩ := ck_of hf
  refine r_iald hC hR ok_q1 hi3 dX11_by_7 ?_
  refine lv_iconst (v := 1) hx hb dX11_by_8 (by decide) ?_
  refine lv_isub hx hb dX11_by_9 ?_
  obtain ⟨x7, S4, hc5, hf⟩ := cl_of hf
  refine cl_RX11_71 (As := [.int a1, .int (-1 : Int32), .int ((mI S q1 (3 : Int32).toNatClampNeg) - (1 : Int32))]) (rest := []) hC hR hS (c_X11_isIn l G n a1 (-1 : Int32) ((mI S q1 (3 : Int32).toNatClampNeg) - (1 : Int32)) S x7 S4 hc5 ) rfl ⟨Nat.le_of_ble_eq_true rfl, Nat.le_of_ble_eq_true rfl⟩ hl.1 rfl (Nat.le_of_ble_eq_true rfl) dX11_by_10 (Nat.zero_le _) (Nat.zero_le _) (fun H locs hR hS hE6 => ?_)
  have ok_this := hE6 _ _ ok_this
  have ok_q1 := hE6 _ _ ok_q1
  have hE := hE.tr hE6
  refine lv_if_ne (tgt := 18) hx hb dX11_by_13 (by decide) (fun hc => ?_) (fun hc => ?_)
  · replace hf := if_f hf hc
    refine lv_aload_n hx hb dX11_by_18 rfl (lv_at hl 0 rfl) ?_
    obtain ⟨q8, hq9, ok_q8, hf⟩ := gR_of hf
    refine gf_RX11_7 hC hR ok_this hq9 dX11_by_19 ?_
    refine lv_iconst (v := 4) hx hb dX11_by_22 (by decide) ?_
    refine lv_iload_n hx hb dX11_by_23 rfl (lv_at hl 1 rfl) ?_
    obtain ⟨hi10, hf⟩ := ck_of hf
    refine rB_iast hC hR hS ok_q8 hi10 dX11_by_24 hf (fun S11 H locs hf hR hS hE12 => ?_)
    have ok_this := hE12 _ _ ok_this
    have ok_q1 := hE12 _ _ ok_q1
    have ok_q8 := hE12 _ _ ok_q8
    have hE := hE.tr hE12
    refine lv_iconst (v := 1) hx hb dX11_by_25 (by decide) ?_
    exact r_zret hC hR hS hE hf dX11_by_26
  · replace hf := if_t hf hc
    refine lv_iconst (v := 0) hx hb dX11_by_16 (by decide) ?_
    exact r_zret hC hR hS hE hf dX11_by_17
abbrev rX11_isDone : Room := { frames := 3, cells := 0, slots := 0, locals := 66 }
def f_X11_isDone (n : Nat) (this : Nat) (a1 : Int32) (S : MS) : Option (Int32 × MS) :=
  gR S (mR S this 5) 12 fun q1 => ck (inb a1 (mN S q1)) ((if (4 : Int32) ≤ (mI S q1 a1.toNatClampNeg) then gR S (mR S this 5) 12 fun q4 => ck (inb (a1 + (2 : Int32)) (mN S q4)) ((if (mI S this 1) ≤ (mI S q4 (a1 + (2 : Int32)).toNatClampNeg) then zb (0 : Int32) (some ((0 : Int32), S)) else gR S (mR S this 5) 12 fun q7 => ck (inb (a1 + (3 : Int32)) (mN S q7)) ((if (mI S q7 (a1 + (3 : Int32)).toNatClampNeg) < (mI S this 2) then gR S (mR S this 5) 12 fun q10 => ck (inb (a1 + (2 : Int32)) (mN S q10)) (gR S (mR S this 5) 12 fun q13 => ck (inb (a1 + (3 : Int32)) (mN S q13)) (bd ((mI S q10 (a1 + (2 : Int32)).toNatClampNeg) + ((mI S this 1) * (mI S q13 (a1 + (3 : Int32)).toNatClampNeg))) fun x16 => gR S (mR S this 5) 12 fun q17 => ck (inb a1 (mN S q17)) ((if (mI S q17 a1.toNatClampNeg) = (4 : Int32) then gR S (mR S this 5) 12 fun q27 => ck (inb (a1 + (1 : Int32)) (mN S q27)) (cl (f_X11_bone n this x16 (mI S q27 (a1 + (1 : Int32)).toNatClampNeg) S) fun x33 S30 => (if x33 < 0 then zb (0 : Int32) (some ((0 : Int32), S30)) else zb (1 : Int32) (some ((1 : Int32), S30)))) else gR S (mR S this 5) 12 fun q20 => ck (inb (a1 + (1 : Int32)) (mN S q20)) (cl (f_X11_stake n this (mI S q20 (a1 + (1 : Int32)).toNatClampNeg) x16 S) fun x26 S23 => zb x26 (some (x26, S23))))))) else zb (0 : Int32) (some ((0 : Int32), S)))))) else zb (1 : Int32) (some ((1 : Int32), S))))
set_option maxRecDepth 100000 in
set_option maxHeartbeats 4000000 in
theorem c_X11_isDone (l : Launch) (G : Gx) (n : Nat) (this : Nat) (a1 : Int32) (S : MS) (ro : Int32) (So : MS) (hf : f_X11_isDone n this a1 S = some (ro, So)) (ok_this : Ok S this 11) : Cn G l yX11_isDone cX11_isDone 3 (some .boolean) rX11_isDone [.ref this, .int a1] S (some (.int ro)) So := by
  refine Cn.of (by decide) (Nat.le_of_ble_eq_true rfl) ?_
  intro p e s m args below meth c hC hname hR ls hl
  have hC : Cx G RX11 cX11_isDone 3 (some .boolean) p s m args meth c := hC
  have hl : lv_has ls 3 [(0, .ref this), (1, .int a1)] := hl
  have hx := hC.x
  have hb := hC.b
  have hS : va_S (gA G) s.heap s.heap [] := va_S.rf
  have hE : Ex S S := Ex.rf S
  unfold f_X11_isDone at hf
  refine lv_aload_n hx hb dX11_isDone_0 rfl (lv_at hl 0 rfl) ?_
  obtain ⟨q1, hq2, ok_q1, hf⟩ := gR_of hf
  refine gf_RX11_13 hC hR ok_this hq2 dX11_isDone_1 ?_
  refine lv_iload_n hx hb dX11_isDone_4 rfl (lv_at hl 1 rfl) ?_
  obtain ⟨hi3, hf⟩ := ck_of hf
  refine r_iald hC hR ok_q1 hi3 dX11_isDone_5 ?_
  refine lv_iconst (v := 4) hx hb dX11_isDone_6 (by decide) ?_
  refine lv_icmp_ge (tgt := 12) hx hb dX11_isDone_7 (by decide) (fun hc => ?_) (fun hc => ?_)
  · replace hf := if_t hf hc
    refine lv_aload_n hx hb dX11_isDone_12 rfl (lv_at hl 0 rfl) ?_
    obtain ⟨q4, hq5, ok_q4, hf⟩ := gR_of hf
    refine gf_RX11_13 hC hR ok_this hq5 dX11_isDone_13 ?_
    refine lv_iload_n hx hb dX11_isDone_16 rfl (lv_at hl 1 rfl) ?_
    refine lv_iconst (v := 2) hx hb dX11_isDone_17 (by decide) ?_
    refine lv_iadd hx hb dX11_isDone_18 ?_
    obtain ⟨hi6, hf⟩ := ck_of hf
    refine r_iald hC hR ok_q4 hi6 dX11_isDone_19 ?_
    refine lv_aload_n hx hb dX11_isDone_20 rfl (lv_at hl 0 rfl) ?_
    refine gf_RX11_58 hC hR ok_this dX11_isDone_21 ?_
    refine lv_icmp_ge (tgt := 42) hx hb dX11_isDone_24 (by decide) (fun hc => ?_) (fun hc => ?_)
    · replace hf := if_t hf hc
      refine lv_iconst (v := 0) hx hb dX11_isDone_42 (by decide) ?_
      exact r_zret hC hR hS hE hf dX11_isDone_43
    · replace hf := if_f hf hc
      refine lv_aload_n hx hb dX11_isDone_27 rfl (lv_at hl 0 rfl) ?_
      obtain ⟨q7, hq8, ok_q7, hf⟩ := gR_of hf
      refine gf_RX11_13 hC hR ok_this hq8 dX11_isDone_28 ?_
      refine lv_iload_n hx hb dX11_isDone_31 rfl (lv_at hl 1 rfl) ?_
      refine lv_iconst (v := 3) hx hb dX11_isDone_32 (by decide) ?_
      refine lv_iadd hx hb dX11_isDone_33 ?_
      obtain ⟨hi9, hf⟩ := ck_of hf
      refine r_iald hC hR ok_q7 hi9 dX11_isDone_34 ?_
      refine lv_aload_n hx hb dX11_isDone_35 rfl (lv_at hl 0 rfl) ?_
      refine gf_RX11_61 hC hR ok_this dX11_isDone_36 ?_
      refine lv_icmp_lt (tgt := 44) hx hb dX11_isDone_39 (by decide) (fun hc => ?_) (fun hc => ?_)
      · replace hf := if_t hf hc
        refine lv_aload_n hx hb dX11_isDone_44 rfl (lv_at hl 0 rfl) ?_
        obtain ⟨q10, hq11, ok_q10, hf⟩ := gR_of hf
        refine gf_RX11_13 hC hR ok_this hq11 dX11_isDone_45 ?_
        refine lv_iload_n hx hb dX11_isDone_48 rfl (lv_at hl 1 rfl) ?_
        refine lv_iconst (v := 2) hx hb dX11_isDone_49 (by decide) ?_
        refine lv_iadd hx hb dX11_isDone_50 ?_
        obtain ⟨hi12, hf⟩ := ck_of hf
        refine r_iald hC hR ok_q10 hi12 dX11_isDone_51 ?_
        refine lv_aload_n hx hb dX11_isDone_52 rfl (lv_at hl 0 rfl) ?_
        refine gf_RX11_58 hC hR ok_this dX11_isDone_53 ?_
        refine lv_aload_n hx hb dX11_isDone_56 rfl (lv_at hl 0 rfl) ?_
        obtain ⟨q13, hq14, ok_q13, hf⟩ := gR_of hf
        refine gf_RX11_13 hC hR ok_this hq14 dX11_isDone_57 ?_
        refine lv_iload_n hx hb dX11_isDone_60 rfl (lv_at hl 1 rfl) ?_
        refine lv_iconst (v := 3) hx hb dX11_isDone_61 (by decide) ?_
        refine lv_iadd hx hb dX11_isDone_62 ?_
        obtain ⟨hi15, hf⟩ := ck_of hf
        refine r_iald hC hR ok_q13 hi15 dX11_isDone_63 ?_
        refine lv_imul hx hb dX11_isDone_64 ?_
        refine lv_iadd hx hb dX11_isDone_65 ?_
        refine bdi hf (fun x16 hf => ?_)
        refine lv_istore_n (lv' := [(2, .int x16), (0, .ref this), (1, .int a1)]) hx hb dX11_isDone_66 rfl hl (by decide) rfl (fun ls hl => ?_)
        refine lv_aload_n hx hb dX11_isDone_67 rfl (lv_at hl 1 rfl) ?_
        obtain ⟨q17, hq18, ok_q17, hf⟩ := gR_of hf
        refine gf_RX11_13 hC hR ok_this hq18 dX11_isDone_68 ?_
        refine lv_iload_n hx hb dX11_isDone_71 rfl (lv_at hl 2 rfl) ?_
        obtain ⟨hi19, hf⟩ := ck_of hf
        refine r_iald hC hR ok_q17 hi19 dX11_isDone_72 ?_
        refine lv_iconst (v := 4) hx hb dX11_isDone_73 (by decide) ?_
        refine lv_icmp_ne (tgt := 101) hx hb dX11_isDone_74 (by decide) (fun hc => ?_) (fun hc => ?_)
        · replace hf := if_f hf hc
          refine lv_aload_n hx hb dX11_isDone_101 rfl (lv_at hl 1 rfl) ?_
          refine lv_aload_n hx hb dX11_isDone_102 rfl (lv_at hl 1 rfl) ?_
          obtain ⟨q20, hq21, ok_q20, hf⟩ := gR_of hf
          refine gf_RX11_13 hC hR ok_this hq21 dX11_isDone_103 ?_
          refine lv_iload_n hx hb dX11_isDone_106 rfl (lv_at hl 2 rfl) ?_
          refine lv_iconst (v := 1) hx hb dX11_isDone_107 (by decide) ?_
          refine lv_iadd hx hb dX11_isDone_108 ?_
          obtain ⟨hi22, hf⟩ := ck_of hf
          refine r_iald hC hR ok_q20 hi22 dX11_isDone_109 ?_
          refine lv_iload_n hx hb dX11_isDone_110 rfl (lv_at hl 0 rfl) ?_
          obtain ⟨x26, S23, hc24, hf⟩ := cl_of hf
          refine cl_RX11_259 (As := [.int (mI S q20 (a1 + (1 : Int32)).toNatClampNeg), .int x16]) (rest := []) hC hR hS (c_X11_stake l G n this (mI S q20 (a1 + (1 : Int32)).toNatClampNeg) x16 S x26 S23 hc24 ok_this) ok_this rfl ⟨Nat.le_of_ble_eq_true rfl, Nat.le_of_ble_eq_true rfl⟩ hl.1 rfl (Nat.le_of_ble_eq_true rfl) dX11_isDone_111 (Nat.zero_le _) (Nat.zero_le _) (fun H locs hR hS hE25 => ?_)
          have ok_this := hE25 _ _ ok_this
          have ok_q1 := hE25 _ _ ok_q1
          have ok_q4 := hE25 _ _ ok_q4
          have ok_q7 := hE25 _ _ ok_q7
          have ok_q10 := hE25 _ _ ok_q10
          have ok_q13 := hE25 _ _ ok_q13
          have ok_q17 := hE25 _ _ ok_q17
          have ok_q20 := hE25 _ _ ok_q20
          have hE := hE.tr hE25
          exact r_zret hC hR hS hE hf dX11_isDone_114
        · replace hf := if_t hf hc
          refine lv_aload_n hx hb dX11_isDone_77 rfl (lv_at hl 1 rfl) ?_
          refine lv_iload_n hx hb dX11_isDone_78 rfl (lv_at hl 0 rfl) ?_
          refine lv_aload_n hx hb dX11_isDone_79 rfl (lv_at hl 1 rfl) ?_
          obtain ⟨q27, hq28, ok_q27, hf⟩ := gR_of hf
          refine gf_RX11_13 hC hR ok_this hq28 dX11_isDone_80 ?_
          refine lv_iload_n hx hb dX11_isDone_83 rfl (lv_at hl 2 rfl) ?_
          refine lv_iconst (v := 1) hx hb dX11_isDone_84 (by decide) ?_
          refine lv_iadd hx hb dX11_isDone_85 ?_
          obtain ⟨hi29, hf⟩ := ck_of hf
          refine r_iald hC hR ok_q27 hi29 dX11_isDone_86 ?_
          obtain ⟨x33, S30, hc31, hf⟩ := cl_of hf
          refine cl_RX11_256 (As := [.int x16, .int (mI S q27 (a1 + (1 : Int32)).toNatClampNeg)]) (rest := []) hC hR hS (c_X11_bone l G n this x16 (mI S q27 (a1 + (1 : Int32)).toNatClampNeg) S x33 S30 hc31 ok_this) ok_this rfl ⟨Nat.le_of_ble_eq_true rfl, Nat.le_of_ble_eq_true rfl⟩ hl.1 rfl (Nat.le_of_ble_eq_true rfl) dX11_isDone_87 (Nat.zero_le _) (Nat.zero_le _) (fun H locs hR hS hE32 => ?_)
          have ok_this := hE32 _ _ ok_this
          have ok_q1 := hE32 _ _ ok_q1
          have ok_q4 := hE32 _ _ ok_q4
          have ok_q7 := hE32 _ _ ok_q7
          have ok_q10 := hE32 _ _ ok_q10
          have ok_q13 := hE32 _ _ ok_q13
          have ok_q17 := hE32 _ _ ok_q17
          have ok_q27 := hE32 _ _ ok_q27
          have hE := hE.tr hE32
          refine lv_if_lt (tgt := 97) hx hb dX11_isDone_90 (by decide) (fun hc => ?_) (fun hc => ?_)
          · replace hf := if_t hf hc
            refine lv_iconst (v := 0) hx hb dX11_isDone_97 (by decide) ?_
            refine lv_goto (tgt := 114) hx hb dX11_isDone_98 (by decide) ?_
            exact r_zret hC hR hS hE hf dX11_isDone_114
          · replace hf := if_f hf hc
            refine lv_iconst (v := 1) hx hb dX11_isDone_93 (by decide) ?_
            refine lv_goto (tgt := 114) hx hb dX11_isDone_94 (by decide) ?_
            exact r_zret hC hR hS hE hf dX11_isDone_114
      · replace hf := if_f hf hc
        refine lv_iconst (v := 0) hx hb dX11_isDone_42 (by decide) ?_
        exact r_zret hC hR hS hE hf dX11_isDone_43
  · replace hf := if_f hf hc
    refine lv_iconst (v := 1) hx hb dX11_isDone_10 (by decide) ?_
    exact r_zret hC hR hS hE hf dX11_isDone_11
abbrev rX11_draw : Room := { frames := 4, cells := 0, slots := 0, locals := 88 }
def f_X11_draw_L88 (n : Nat) (this : Nat) (a1 : Int32) : Nat → Int32 → MS → Option (Int32 × MS)
  | 0, _, _ => none
  | k + 1, x21, S22 => jn (f_X11_draw_L88 n this a1 k) fun rec88_20 => gR S22 (mR S22 this 5) 12 fun q23 => ck (inb ((700 : Int32) * a1) (mN S22 q23)) ((if (mI S22 q23 ((700 : Int32) * a1).toNatClampNeg) ≤ x21 then some ((-1 : Int32), S22) else cl (f_X11_isDone n this ((((700 : Int32) * a1) + (1 : Int32)) + ((4 : Int32) * x21)) S22) fun x29 S26 => (if x29 = 0 then some (x21, S26) else bd (x21 + (1 : Int32)) fun x30 => rec88_20 x30 S26)))
def f_X11_draw_L52 (n : Nat) (this : Nat) (a1 : Int32) (j86_17 : MS → Option (Int32 × MS)) : Nat → Int32 → MS → Option (Int32 × MS)
  | 0, _, _ => none
  | k + 1, x34, S35 => jn (f_X11_draw_L52 n this a1 j86_17 k) fun rec52_33 => (if (48 : Int32) ≤ x34 then j86_17 S35 else gR S35 (mR S35 this 0) 12 fun q36 => ck (inb ((240 : Int32) + x34) (mN S35 q36)) (bd (sI S35 q36 ((240 : Int32) + x34).toNatClampNeg (-1 : Int32)) fun S39 => gR S39 (mR S39 this 0) 12 fun q41 => ck (inb ((290 : Int32) + x34) (mN S39 q41)) (bd (sI S39 q41 ((290 : Int32) + x34).toNatClampNeg (0 : Int32)) fun S44 => bd (x34 + (1 : Int32)) fun x46 => rec52_33 x46 S44)))
def f_X11_draw_L28 (n : Nat) (this : Nat) (a1 : Int32) (j50_14 : MS → Option (Int32 × MS)) : Nat → Int32 → MS → Option (Int32 × MS)
  | 0, _, _ => none
  | k + 1, x51, S52 => jn (f_X11_draw_L28 n this a1 j50_14 k) fun rec28_50 => (if (6 : Int32) ≤ x51 then j50_14 S52 else gR S52 (mR S52 this 0) 12 fun q53 => ck (inb ((85 : Int32) + x51) (mN S52 q53)) (bd (sI S52 q53 ((85 : Int32) + x51).toNatClampNeg (-1 : Int32)) fun S56 => bd (x51 + (1 : Int32)) fun x58 => rec28_50 x58 S56))
def f_X11_draw (n : Nat) (this : Nat) (a1 : Int32) (S : MS) : Option (Int32 × MS) :=
  gR S (mR S this 0) 12 fun q1 => ck (inb (3 : Int32) (mN S q1)) (cl (f_X11_isIn n a1 (0 : Int32) ((mI S q1 (3 : Int32).toNatClampNeg) - (1 : Int32)) S) fun x7 S4 => (if x7 = 0 then some ((-2 : Int32), S4) else gR S4 (mR S4 this 0) 12 fun q8 => ck (inb (1 : Int32) (mN S4 q8)) (bd (sI S4 q8 (1 : Int32).toNatClampNeg (0 : Int32)) fun S11 => jn (fun (S15 : MS) => jn (fun (S18 : MS) => f_X11_draw_L88 n this a1 n (0 : Int32) S18) fun j86_17 => f_X11_draw_L52 n this a1 j86_17 n (0 : Int32) S15) fun j50_14 => f_X11_draw_L28 n this a1 j50_14 n (0 : Int32) S11)))
set_option maxRecDepth 100000 in
set_option maxHeartbeats 4000000 in
theorem c_X11_draw (l : Launch) (G : Gx) (n : Nat) (this : Nat) (a1 : Int32) (S : MS) (ro : Int32) (So : MS) (hf : f_X11_draw n this a1 S = some (ro, So)) (ok_this : Ok S this 11) : Cn G l yX11_draw cX11_draw 3 (some .int) rX11_draw [.ref this, .int a1] S (some (.int ro)) So := by
  refine Cn.of (by decide) (Nat.le_of_ble_eq_true rfl) ?_
  intro p e s m args below meth c hC hname hR ls hl
  have hC : Cx G RX11 cX11_draw 3 (some .int) p s m args meth c := hC
  have hl : lv_has ls 3 [(0, .ref this), (1, .int a1)] := hl
  have hx := hC.x
  have hb := hC.b
  have hS : va_S (gA G) s.heap s.heap [] := va_S.rf
  have hE : Ex S S := Ex.rf S
  unfold f_X11_draw at hf
  refine lv_iload_n hx hb dX11_draw_0 rfl (lv_at hl 1 rfl) ?_
  refine lv_iconst (v := 0) hx hb dX11_draw_1 (by decide) ?_
  refine lv_aload_n hx hb dX11_draw_2 rfl (lv_at hl 0 rfl) ?_
  obtain ⟨q1, hq2, ok_q1, hf⟩ := gR_of hf
  refine gf_RX11_7 hC hR ok_this hq2 dX11_draw_3 ?_
  refine lv_iconst (v := 3) hx hb dX11_draw_6 (by decide) ?_
  obtain ⟨hi3, hf⟩ := ck_of hf
  refine r_iald hC hR ok_q1 hi3 dX11_draw_7 ?_
  refine lv_iconst (v := 1) hx hb dX11_draw_8 (by decide) ?_
  refine lv_isub hx hb dX11_draw_9 ?_
  obtain ⟨x7, S4, hc5, hf⟩ := cl_of hf
  refine cl_RX11_71 (As := [.int a1, .int (0 : Int32), .int ((mI S q1 (3 : Int32).toNatClampNeg) - (1 : Int32))]) (rest := []) hC hR hS (c_X11_isIn l G n a1 (0 : Int32) ((mI S q1 (3 : Int32).toNatClampNeg) - (1 : Int32)) S x7 S4 hc5 ) rfl ⟨Nat.le_of_ble_eq_true rfl, Nat.le_of_ble_eq_true rfl⟩ hl.1 rfl (Nat.le_of_ble_eq_true rfl) dX11_draw_10 (Nat.zero_le _) (Nat.zero_le _) (fun H locs hR hS hE6 => ?_)
  have ok_this := hE6 _ _ ok_this
  have ok_q1 := hE6 _ _ ok_q1
  have hE := hE.tr hE6
  refine lv_if_ne (tgt := 19) hx hb dX11_draw_13 (by decide) (fun hc => ?_) (fun hc => ?_)
  · replace hf := if_f hf hc
    refine lv_aload_n hx hb dX11_draw_19 rfl (lv_at hl 0 rfl) ?_
    obtain ⟨q8, hq9, ok_q8, hf⟩ := gR_of hf
    refine gf_RX11_7 hC hR ok_this hq9 dX11_draw_20 ?_
    refine lv_iconst (v := 1) hx hb dX11_draw_23 (by decide) ?_
    refine lv_iconst (v := 0) hx hb dX11_draw_24 (by decide) ?_
    obtain ⟨hi10, hf⟩ := ck_of hf
    refine rB_iast hC hR hS ok_q8 hi10 dX11_draw_25 hf (fun S11 H locs hf hR hS hE12 => ?_)
    have ok_this := hE12 _ _ ok_this
    have ok_q1 := hE12 _ _ ok_q1
    have ok_q8 := hE12 _ _ ok_q8
    have hE := hE.tr hE12
    refine lv_iconst (v := 0) hx hb dX11_draw_26 (by decide) ?_
    refine lv_istore_n (lv' := [(2, .int (0 : Int32)), (0, .ref this), (1, .int a1)]) hx hb dX11_draw_27 rfl hl (by decide) rfl (fun ls hl => ?_)
    obtain ⟨j50_14, ej50_14, hf⟩ := jn_of1 hf
    have hj50_13 : ∀ (S15 : MS) (H : Heap) (locs : List Loc) (ls : Array Slot), j50_14 S15 = some (ro, So) → Rp G S15 H → va_S (gA G) s.heap H locs → Ex S S15 → Ok S15 this 11 → lv_has ls 3 [(0, .ref this), (1, .int a1)] → W p l e rX11_draw s m args below meth c H locs 0 0 (MQ below (Qn G S (some (.int ro)) So) args s 0 0 (gA G)) (F0 m 50 ls []) := by
      intro S15 H locs ls hf hR hS hE ok_this hl
      rw [ej50_14] at hf
      refine lv_iconst (v := 0) hx hb dX11_draw_50 (by decide) ?_
      refine lv_istore_n (lv' := [(2, .int (0 : Int32)), (0, .ref this), (1, .int a1)]) hx hb dX11_draw_51 rfl hl (by decide) rfl (fun ls hl => ?_)
      obtain ⟨j86_17, ej86_17, hf⟩ := jn_of1 hf
      have hj86_16 : ∀ (S18 : MS) (H : Heap) (locs : List Loc) (ls : Array Slot), j86_17 S18 = some (ro, So) → Rp G S18 H → va_S (gA G) s.heap H locs → Ex S S18 → Ok S18 this 11 → lv_has ls 3 [(0, .ref this), (1, .int a1)] → W p l e rX11_draw s m args below meth c H locs 0 0 (MQ below (Qn G S (some (.int ro)) So) args s 0 0 (gA G)) (F0 m 86 ls []) := by
        intro S18 H locs ls hf hR hS hE ok_this hl
        rw [ej86_17] at hf
        refine lv_iconst (v := 0) hx hb dX11_draw_86 (by decide) ?_
        refine lv_istore_n (lv' := [(2, .int (0 : Int32)), (0, .ref this), (1, .int a1)]) hx hb dX11_draw_87 rfl hl (by decide) rfl (fun ls hl => ?_)
        have hh31 : ∀ k : Nat, ∀ (x21 : Int32) (S22 : MS) (H : Heap) (locs : List Loc) (ls : Array Slot), f_X11_draw_L88 n this a1 k x21 S22 = some (ro, So) → Rp G S22 H → va_S (gA G) s.heap H locs → Ex S S22 → Ok S22 this 11 → lv_has ls 3 [(0, .ref this), (1, .int a1), (2, .int x21)] → W p l e rX11_draw s m args below meth c H locs 0 0 (MQ below (Qn G S (some (.int ro)) So) args s 0 0 (gA G)) (F0 m 88 ls []) := by
          intro k
          induction k with
          | zero =>
            intro x21 S22 H locs ls hf hR hS hE ok_this hl
            exact absurd hf (by rw [f_X11_draw_L88]; exact fun h => by cases h)
          | succ k ih =>
            intro x21 S22 H locs ls hf hR hS hE ok_this hl
            rw [f_X11_draw_L88] at hf
            obtain ⟨rec88_20, erec88_20, hf⟩ := jn_of2 hf
            have hL88_19 : ∀ (x21 : Int32) (S22 : MS) (H : Heap) (locs : List Loc) (ls : Array Slot), rec88_20 x21 S22 = some (ro, So) → Rp G S22 H → va_S (gA G) s.heap H locs → Ex S S22 → Ok S22 this 11 → lv_has ls 3 [(0, .ref this), (1, .int a1), (2, .int x21)] → W p l e rX11_draw s m args below meth c H locs 0 0 (MQ below (Qn G S (some (.int ro)) So) args s 0 0 (gA G)) (F0 m 88 ls []) := by
              intro x21 S22 H locs ls hf hR hS hE ok_this hl
              rw [erec88_20] at hf
              exact ih x21 S22 _ _ _ hf hR hS hE ok_this hl
            refine lv_iload_n hx hb dX11_draw_88 rfl (lv_at hl 2 rfl) ?_
            refine lv_aload_n hx hb dX11_draw_89 rfl (lv_at hl 0 rfl) ?_
            obtain ⟨q23, hq24, ok_q23, hf⟩ := gR_of hf
            refine gf_RX11_13 hC hR ok_this hq24 dX11_draw_90 ?_
            refine lv_sipush (v := 700) hx hb dX11_draw_93 (by decide) ?_
            refine lv_iload_n hx hb dX11_draw_96 rfl (lv_at hl 1 rfl) ?_
            refine lv_imul hx hb dX11_draw_97 ?_
            obtain ⟨hi25, hf⟩ := ck_of hf
            refine r_iald hC hR ok_q23 hi25 dX11_draw_98 ?_
            refine lv_icmp_ge (tgt := 128) hx hb dX11_draw_99 (by decide) (fun hc => ?_) (fun hc => ?_)
            · replace hf := if_t hf hc
              refine lv_iconst (v := -1) hx hb dX11_draw_128 (by decide) ?_
              exact r_iret hC hR hS hE hf dX11_draw_129
            · replace hf := if_f hf hc
              refine lv_aload_n hx hb dX11_draw_102 rfl (lv_at hl 0 rfl) ?_
              refine lv_sipush (v := 700) hx hb dX11_draw_103 (by decide) ?_
              refine lv_iload_n hx hb dX11_draw_106 rfl (lv_at hl 1 rfl) ?_
              refine lv_imul hx hb dX11_draw_107 ?_
              refine lv_iconst (v := 1) hx hb dX11_draw_108 (by decide) ?_
              refine lv_iadd hx hb dX11_draw_109 ?_
              refine lv_iconst (v := 4) hx hb dX11_draw_110 (by decide) ?_
              refine lv_iload_n hx hb dX11_draw_111 rfl (lv_at hl 2 rfl) ?_
              refine lv_imul hx hb dX11_draw_112 ?_
              refine lv_iadd hx hb dX11_draw_113 ?_
              obtain ⟨x29, S26, hc27, hf⟩ := cl_of hf
              refine cl_RX11_263 (As := [.int ((((700 : Int32) * a1) + (1 : Int32)) + ((4 : Int32) * x21))]) (rest := []) hC hR hS (c_X11_isDone l G n this ((((700 : Int32) * a1) + (1 : Int32)) + ((4 : Int32) * x21)) S22 x29 S26 hc27 ok_this) ok_this rfl ⟨Nat.le_of_ble_eq_true rfl, Nat.le_of_ble_eq_true rfl⟩ hl.1 rfl (Nat.le_of_ble_eq_true rfl) dX11_draw_114 (Nat.zero_le _) (Nat.zero_le _) (fun H locs hR hS hE28 => ?_)
              have ok_this := hE28 _ _ ok_this
              have ok_q23 := hE28 _ _ ok_q23
              have hE := hE.tr hE28
              refine lv_if_ne (tgt := 122) hx hb dX11_draw_117 (by decide) (fun hc => ?_) (fun hc => ?_)
              · replace hf := if_f hf hc
                refine r_iinc (n := 1) (z := 1) (lv' := fun x30 => [(2, .int x30), (0, .ref this), (1, .int a1)]) hx hb dX11_draw_122 hl (k := 2) rfl (by decide) (by decide) (fun _ => rfl) hf (fun x30 ls hf hl => ?_)
                refine lv_goto (tgt := 88) hx hb dX11_draw_125 (by decide) ?_
                exact hL88_19 x30 S26 _ _ _ hf hR hS hE ok_this (lv_sub hl [1, 2, 0] rfl)
              · replace hf := if_t hf hc
                refine lv_iload_n hx hb dX11_draw_120 rfl (lv_at hl 2 rfl) ?_
                exact r_iret hC hR hS hE hf dX11_draw_121
        exact hh31 n (0 : Int32) S18 _ _ _ hf hR hS hE ok_this (lv_sub hl [1, 2, 0] rfl)
      have hh47 : ∀ k : Nat, ∀ (x34 : Int32) (S35 : MS) (H : Heap) (locs : List Loc) (ls : Array Slot), f_X11_draw_L52 n this a1 j86_17 k x34 S35 = some (ro, So) → Rp G S35 H → va_S (gA G) s.heap H locs → Ex S S35 → Ok S35 this 11 → lv_has ls 3 [(0, .ref this), (1, .int a1), (2, .int x34)] → W p l e rX11_draw s m args below meth c H locs 0 0 (MQ below (Qn G S (some (.int ro)) So) args s 0 0 (gA G)) (F0 m 52 ls []) := by
        intro k
        induction k with
        | zero =>
          intro x34 S35 H locs ls hf hR hS hE ok_this hl
          exact absurd hf (by rw [f_X11_draw_L52]; exact fun h => by cases h)
        | succ k ih =>
          intro x34 S35 H locs ls hf hR hS hE ok_this hl
          rw [f_X11_draw_L52] at hf
          obtain ⟨rec52_33, erec52_33, hf⟩ := jn_of2 hf
          have hL52_32 : ∀ (x34 : Int32) (S35 : MS) (H : Heap) (locs : List Loc) (ls : Array Slot), rec52_33 x34 S35 = some (ro, So) → Rp G S35 H → va_S (gA G) s.heap H locs → Ex S S35 → Ok S35 this 11 → lv_has ls 3 [(0, .ref this), (1, .int a1), (2, .int x34)] → W p l e rX11_draw s m args below meth c H locs 0 0 (MQ below (Qn G S (some (.int ro)) So) args s 0 0 (gA G)) (F0 m 52 ls []) := by
            intro x34 S35 H locs ls hf hR hS hE ok_this hl
            rw [erec52_33] at hf
            exact ih x34 S35 _ _ _ hf hR hS hE ok_this hl
          refine lv_iload_n hx hb dX11_draw_52 rfl (lv_at hl 2 rfl) ?_
          refine lv_bipush (v := 48) hx hb dX11_draw_53 (by decide) ?_
          refine lv_icmp_ge (tgt := 86) hx hb dX11_draw_55 (by decide) (fun hc => ?_) (fun hc => ?_)
          · replace hf := if_t hf hc
            exact hj86_16 S35 _ _ _ hf hR hS hE ok_this (lv_sub hl [0, 1] rfl)
          · replace hf := if_f hf hc
            refine lv_aload_n hx hb dX11_draw_58 rfl (lv_at hl 0 rfl) ?_
            obtain ⟨q36, hq37, ok_q36, hf⟩ := gR_of hf
            refine gf_RX11_7 hC hR ok_this hq37 dX11_draw_59 ?_
            refine lv_sipush (v := 240) hx hb dX11_draw_62 (by decide) ?_
            refine lv_iload_n hx hb dX11_draw_65 rfl (lv_at hl 2 rfl) ?_
            refine lv_iadd hx hb dX11_draw_66 ?_
            refine lv_iconst (v := -1) hx hb dX11_draw_67 (by decide) ?_
            obtain ⟨hi38, hf⟩ := ck_of hf
            refine rB_iast hC hR hS ok_q36 hi38 dX11_draw_68 hf (fun S39 H locs hf hR hS hE40 => ?_)
            have ok_this := hE40 _ _ ok_this
            have ok_q36 := hE40 _ _ ok_q36
            have hE := hE.tr hE40
            refine lv_aload_n hx hb dX11_draw_69 rfl (lv_at hl 0 rfl) ?_
            obtain ⟨q41, hq42, ok_q41, hf⟩ := gR_of hf
            refine gf_RX11_7 hC hR ok_this hq42 dX11_draw_70 ?_
            refine lv_sipush (v := 290) hx hb dX11_draw_73 (by decide) ?_
            refine lv_iload_n hx hb dX11_draw_76 rfl (lv_at hl 2 rfl) ?_
            refine lv_iadd hx hb dX11_draw_77 ?_
            refine lv_iconst (v := 0) hx hb dX11_draw_78 (by decide) ?_
            obtain ⟨hi43, hf⟩ := ck_of hf
            refine rB_iast hC hR hS ok_q41 hi43 dX11_draw_79 hf (fun S44 H locs hf hR hS hE45 => ?_)
            have ok_this := hE45 _ _ ok_this
            have ok_q36 := hE45 _ _ ok_q36
            have ok_q41 := hE45 _ _ ok_q41
            have hE := hE.tr hE45
            refine r_iinc (n := 1) (z := 1) (lv' := fun x46 => [(2, .int x46), (0, .ref this), (1, .int a1)]) hx hb dX11_draw_80 hl (k := 2) rfl (by decide) (by decide) (fun _ => rfl) hf (fun x46 ls hf hl => ?_)
            refine lv_goto (tgt := 52) hx hb dX11_draw_83 (by decide) ?_
            exact hL52_32 x46 S44 _ _ _ hf hR hS hE ok_this (lv_sub hl [1, 2, 0] rfl)
      exact hh47 n (0 : Int32) S15 _ _ _ hf hR hS hE ok_this (lv_sub hl [1, 2, 0] rfl)
    have hh59 : ∀ k : Nat, ∀ (x51 : Int32) (S52 : MS) (H : Heap) (locs : List Loc) (ls : Array Slot), f_X11_draw_L28 n this a1 j50_14 k x51 S52 = some (ro, So) → Rp G S52 H → va_S (gA G) s.heap H locs → Ex S S52 → Ok S52 this 11 → lv_has ls 3 [(0, .ref this), (1, .int a1), (2, .int x51)] → W p l e rX11_draw s m args below meth c H locs 0 0 (MQ below (Qn G S (some (.int ro)) So) args s 0 0 (gA G)) (F0 m 28 ls []) := by
      intro k
      induction k with
      | zero =>
        intro x51 S52 H locs ls hf hR hS hE ok_this hl
        exact absurd hf (by rw [f_X11_draw_L28]; exact fun h => by cases h)
      | succ k ih =>
        intro x51 S52 H locs ls hf hR hS hE ok_this hl
        rw [f_X11_draw_L28] at hf
        obtain ⟨rec28_50, erec28_50, hf⟩ := jn_of2 hf
        have hL28_49 : ∀ (x51 : Int32) (S52 : MS) (H : Heap) (locs : List Loc) (ls : Array Slot), rec28_50 x51 S52 = some (ro, So) → Rp G S52 H → va_S (gA G) s.heap H locs → Ex S S52 → Ok S52 this 11 → lv_has ls 3 [(0, .ref this), (1, .int a1), (2, .int x51)] → W p l e rX11_draw s m args below meth c H locs 0 0 (MQ below (Qn G S (some (.int ro)) So) args s 0 0 (gA G)) (F0 m 28 ls []) := by
          intro x51 S52 H locs ls hf hR hS hE ok_this hl
          rw [erec28_50] at hf
          exact ih x51 S52 _ _ _ hf hR hS hE ok_this hl
        refine lv_iload_n hx hb dX11_draw_28 rfl (lv_at hl 2 rfl) ?_
        refine lv_bipush (v := 6) hx hb dX11_draw_29 (by decide) ?_
        refine lv_icmp_ge (tgt := 50) hx hb dX11_draw_31 (by decide) (fun hc => ?_) (fun hc => ?_)
        · replace hf := if_t hf hc
          exact hj50_13 S52 _ _ _ hf hR hS hE ok_this (lv_sub hl [0, 1] rfl)
        · replace hf := if_f hf hc
          refine lv_aload_n hx hb dX11_draw_34 rfl (lv_at hl 0 rfl) ?_
          obtain ⟨q53, hq54, ok_q53, hf⟩ := gR_of hf
          refine gf_RX11_7 hC hR ok_this hq54 dX11_draw_35 ?_
          refine lv_bipush (v := 85) hx hb dX11_draw_38 (by decide) ?_
          refine lv_iload_n hx hb dX11_draw_40 rfl (lv_at hl 2 rfl) ?_
          refine lv_iadd hx hb dX11_draw_41 ?_
          refine lv_iconst (v := -1) hx hb dX11_draw_42 (by decide) ?_
          obtain ⟨hi55, hf⟩ := ck_of hf
          refine rB_iast hC hR hS ok_q53 hi55 dX11_draw_43 hf (fun S56 H locs hf hR hS hE57 => ?_)
          have ok_this := hE57 _ _ ok_this
          have ok_q53 := hE57 _ _ ok_q53
          have hE := hE.tr hE57
          refine r_iinc (n := 1) (z := 1) (lv' := fun x58 => [(2, .int x58), (0, .ref this), (1, .int a1)]) hx hb dX11_draw_44 hl (k := 2) rfl (by decide) (by decide) (fun _ => rfl) hf (fun x58 ls hf hl => ?_)
          refine lv_goto (tgt := 28) hx hb dX11_draw_47 (by decide) ?_
          exact hL28_49 x58 S56 _ _ _ hf hR hS hE ok_this (lv_sub hl [1, 2, 0] rfl)
    exact hh59 n (0 : Int32) S11 _ _ _ hf hR hS hE ok_this (lv_sub hl [1, 2, 0] rfl)
  · replace hf := if_t hf hc
    refine lv_bipush (v := -2) hx hb dX11_draw_16 (by decide) ?_
    exact r_iret hC hR hS hE hf dX11_draw_18
abbrev rX11_clip : Room := { frames := 0, cells := 0, slots := 0, locals := 0 }
def f_X11_clip (_n : Nat) (a1 : Int64) (S : MS) : Option (Int64 × MS) :=
  (if (lg_cmp a1 (1000000 : Int64)) ≤ 0 then (if 0 ≤ (lg_cmp a1 (-1000000 : Int64)) then some (a1, S) else some ((-1000000 : Int64), S)) else some ((1000000 : Int64), S))
set_option maxRecDepth 100000 in
set_option maxHeartbeats 4000000 in
theorem c_X11_clip (l : Launch) (G : Gx) (n : Nat) (a1 : Int64) (S : MS) (ro : Int64) (So : MS) (hf : f_X11_clip n a1 S = some (ro, So)) : Cn G l yX11_clip cX11_clip 2 (some .long) rX11_clip [.long a1] S (some (.long ro)) So := by
  refine Cn.of (by decide) (Nat.le_of_ble_eq_true rfl) ?_
  intro p e s m args below meth c hC hname hR ls hl
  have hC : Cx G RX11 cX11_clip 2 (some .long) p s m args meth c := hC
  have hl : lv_has ls 2 [(0, .long a1)] := hl
  have hx := hC.x
  have hb := hC.b
  have hS : va_S (gA G) s.heap s.heap [] := va_S.rf
  have hE : Ex S S := Ex.rf S
  unfold f_X11_clip at hf
  refine lv_lload_n hx hb dX11_clip_0 rfl (lv_at hl 0 rfl) ?_
  refine lv_ldc2 (v := 1000000) hx hb hC.ow (hC.ts _ (bg34 _ (List.mem_of_getElem? (i := 21) rfl))) dX11_clip_1 ?_
  refine W.lcmp hx hb dX11_clip_4 ?_
  refine lv_if_le (tgt := 14) hx hb dX11_clip_5 (by decide) (fun hc => ?_) (fun hc => ?_)
  · replace hf := if_t hf hc
    refine lv_lload_n hx hb dX11_clip_14 rfl (lv_at hl 0 rfl) ?_
    refine lv_ldc2 (v := -1000000) hx hb hC.ow (hC.ts _ (bg34 _ (List.mem_of_getElem? (i := 22) rfl))) dX11_clip_15 ?_
    refine W.lcmp hx hb dX11_clip_18 ?_
    refine lv_if_ge (tgt := 28) hx hb dX11_clip_19 (by decide) (fun hc => ?_) (fun hc => ?_)
    · replace hf := if_t hf hc
      refine lv_lload_n hx hb dX11_clip_28 rfl (lv_at hl 0 rfl) ?_
      exact r_lret hC hR hS hE hf dX11_clip_29
    · replace hf := if_f hf hc
      refine lv_ldc2 (v := -1000000) hx hb hC.ow (hC.ts _ (bg34 _ (List.mem_of_getElem? (i := 22) rfl))) dX11_clip_22 ?_
      refine lv_goto (tgt := 29) hx hb dX11_clip_25 (by decide) ?_
      exact r_lret hC hR hS hE hf dX11_clip_29
  · replace hf := if_f hf hc
    refine lv_ldc2 (v := 1000000) hx hb hC.ow (hC.ts _ (bg34 _ (List.mem_of_getElem? (i := 21) rfl))) dX11_clip_8 ?_
    refine lv_goto (tgt := 29) hx hb dX11_clip_11 (by decide) ?_
    exact r_lret hC hR hS hE hf dX11_clip_29
abbrev rX11_two : Room := { frames := 1, cells := 0, slots := 0, locals := 21 }
def f_X11_two (n : Nat) (a1 : Int32) (a2 : Int64) (a3 : Int64) (S : MS) : Option (Int64 × MS) :=
  jn (fun (S3 : MS) => (if (lg_cmp a3 (0 : Int64)) = 0 then some ((0 : Int64), S3) else dvl a3 (cl (f_X11_clip n (a2 / a3) S3) fun x8 S5 => some (x8, S5)))) fun j85_2 => (if a1 = (3 : Int32) then cl (f_X11_clip n (a2 + a3) S) fun x12 S9 => some (x12, S9) else (if a1 = (4 : Int32) then cl (f_X11_clip n (a2 - a3) S) fun x16 S13 => some (x16, S13) else (if a1 = (5 : Int32) then cl (f_X11_clip n (a2 * a3) S) fun x20 S17 => some (x20, S17) else (if a1 = (6 : Int32) then j85_2 S else (if a1 = (7 : Int32) then (if 0 ≤ (lg_cmp a2 a3) then some (a3, S) else some (a2, S)) else (if a1 = (8 : Int32) then (if (lg_cmp a2 a3) ≤ 0 then some (a3, S) else some (a2, S)) else j85_2 S))))))
set_option maxRecDepth 100000 in
set_option maxHeartbeats 4000000 in
theorem c_X11_two (l : Launch) (G : Gx) (n : Nat) (a1 : Int32) (a2 : Int64) (a3 : Int64) (S : MS) (ro : Int64) (So : MS) (hf : f_X11_two n a1 a2 a3 S = some (ro, So)) : Cn G l yX11_two cX11_two 5 (some .long) rX11_two [.int a1, .long a2, .long a3] S (some (.long ro)) So := by
  refine Cn.of (by decide) (Nat.le_of_ble_eq_true rfl) ?_
  intro p e s m args below meth c hC hname hR ls hl
  have hC : Cx G RX11 cX11_two 5 (some .long) p s m args meth c := hC
  have hl : lv_has ls 5 [(0, .int a1), (1, .long a2), (3, .long a3)] := hl
  have hx := hC.x
  have hb := hC.b
  have hS : va_S (gA G) s.heap s.heap [] := va_S.rf
  have hE : Ex S S := Ex.rf S
  unfold f_X11_two at hf
  refine lv_iload_n hx hb dX11_two_0 rfl (lv_at hl 0 rfl) ?_
  obtain ⟨j85_2, ej85_2, hf⟩ := jn_of1 hf
  have hj85_1 : ∀ (S3 : MS) (H : Heap) (locs : List Loc) (ls : Array Slot), j85_2 S3 = some (ro, So) → Rp G S3 H → va_S (gA G) s.heap H locs → Ex S S3 → lv_has ls 5 [(1, .long a2), (3, .long a3)] → W p l e rX11_two s m args below meth c H locs 0 0 (MQ below (Qn G S (some (.long ro)) So) args s 0 0 (gA G)) (F0 m 85 ls []) := by
    intro S3 H locs ls hf hR hS hE  hl
    rw [ej85_2] at hf
    refine lv_lload_n hx hb dX11_two_85 rfl (lv_at hl 1 rfl) ?_
    refine lv_lconst (v := 0) hx hb dX11_two_86 (by decide) ?_
    refine W.lcmp hx hb dX11_two_87 ?_
    refine lv_if_ne (tgt := 95) hx hb dX11_two_88 (by decide) (fun hc => ?_) (fun hc => ?_)
    · replace hf := if_f hf hc
      refine lv_lload_n hx hb dX11_two_95 rfl (lv_at hl 0 rfl) ?_
      refine lv_lload_n hx hb dX11_two_96 rfl (lv_at hl 1 rfl) ?_
      obtain ⟨hn4, hf⟩ := dvl_of hf
      refine lv_ldiv hx hb dX11_two_97 hn4 ?_
      obtain ⟨x8, S5, hc6, hf⟩ := cl_of hf
      refine cl_RX11_270 (As := [.long (a2 / a3)]) (rest := []) hC hR hS (c_X11_clip l G n (a2 / a3) S3 x8 S5 hc6 ) rfl ⟨Nat.le_of_ble_eq_true rfl, Nat.le_of_ble_eq_true rfl⟩ hl.1 rfl (Nat.le_of_ble_eq_true rfl) dX11_two_98 (Nat.zero_le _) (Nat.zero_le _) (fun H locs hR hS hE7 => ?_)
      have hE := hE.tr hE7
      exact r_lret hC hR hS hE hf dX11_two_101
    · replace hf := if_t hf hc
      refine lv_lconst (v := 0) hx hb dX11_two_91 (by decide) ?_
      refine lv_goto (tgt := 101) hx hb dX11_two_92 (by decide) ?_
      exact r_lret hC hR hS hE hf dX11_two_101
  by_cases hc0 : a1 = (3 : Int32)
  · replace hf := if_t hf hc0
    rw [hc0]
    refine lv_tableIn (tgt := 40) hx hb dX11_two_1 (by decide) (by decide) rfl (by decide) ?_
    refine lv_lload_n hx hb dX11_two_40 rfl (lv_at hl 1 rfl) ?_
    refine lv_lload_n hx hb dX11_two_41 rfl (lv_at hl 2 rfl) ?_
    refine lv_ladd hx hb dX11_two_42 ?_
    obtain ⟨x12, S9, hc10, hf⟩ := cl_of hf
    refine cl_RX11_270 (As := [.long (a2 + a3)]) (rest := []) hC hR hS (c_X11_clip l G n (a2 + a3) S x12 S9 hc10 ) rfl ⟨Nat.le_of_ble_eq_true rfl, Nat.le_of_ble_eq_true rfl⟩ hl.1 rfl (Nat.le_of_ble_eq_true rfl) dX11_two_43 (Nat.zero_le _) (Nat.zero_le _) (fun H locs hR hS hE11 => ?_)
    have hE := hE.tr hE11
    exact r_lret hC hR hS hE hf dX11_two_46
  · replace hf := if_f hf hc0
    by_cases hc1 : a1 = (4 : Int32)
    · replace hf := if_t hf hc1
      rw [hc1]
      refine lv_tableIn (tgt := 47) hx hb dX11_two_1 (by decide) (by decide) rfl (by decide) ?_
      refine lv_lload_n hx hb dX11_two_47 rfl (lv_at hl 1 rfl) ?_
      refine lv_lload_n hx hb dX11_two_48 rfl (lv_at hl 2 rfl) ?_
      refine lv_lsub hx hb dX11_two_49 ?_
      obtain ⟨x16, S13, hc14, hf⟩ := cl_of hf
      refine cl_RX11_270 (As := [.long (a2 - a3)]) (rest := []) hC hR hS (c_X11_clip l G n (a2 - a3) S x16 S13 hc14 ) rfl ⟨Nat.le_of_ble_eq_true rfl, Nat.le_of_ble_eq_true rfl⟩ hl.1 rfl (Nat.le_of_ble_eq_true rfl) dX11_two_50 (Nat.zero_le _) (Nat.zero_le _) (fun H locs hR hS hE15 => ?_)
      have hE := hE.tr hE15
      exact r_lret hC hR hS hE hf dX11_two_53
    · replace hf := if_f hf hc1
      by_cases hc2 : a1 = (5 : Int32)
      · replace hf := if_t hf hc2
        rw [hc2]
        refine lv_tableIn (tgt := 54) hx hb dX11_two_1 (by decide) (by decide) rfl (by decide) ?_
        refine lv_lload_n hx hb dX11_two_54 rfl (lv_at hl 1 rfl) ?_
        refine lv_lload_n hx hb dX11_two_55 rfl (lv_at hl 2 rfl) ?_
        refine lv_lmul hx hb dX11_two_56 ?_
        obtain ⟨x20, S17, hc18, hf⟩ := cl_of hf
        refine cl_RX11_270 (As := [.long (a2 * a3)]) (rest := []) hC hR hS (c_X11_clip l G n (a2 * a3) S x20 S17 hc18 ) rfl ⟨Nat.le_of_ble_eq_true rfl, Nat.le_of_ble_eq_true rfl⟩ hl.1 rfl (Nat.le_of_ble_eq_true rfl) dX11_two_57 (Nat.zero_le _) (Nat.zero_le _) (fun H locs hR hS hE19 => ?_)
        have hE := hE.tr hE19
        exact r_lret hC hR hS hE hf dX11_two_60
      · replace hf := if_f hf hc2
        by_cases hc3 : a1 = (6 : Int32)
        · replace hf := if_t hf hc3
          rw [hc3]
          refine lv_tableIn (tgt := 85) hx hb dX11_two_1 (by decide) (by decide) rfl (by decide) ?_
          exact hj85_1 S _ _ _ hf hR hS hE (lv_sub hl [1, 2] rfl)
        · replace hf := if_f hf hc3
          by_cases hc4 : a1 = (7 : Int32)
          · replace hf := if_t hf hc4
            rw [hc4]
            refine lv_tableIn (tgt := 61) hx hb dX11_two_1 (by decide) (by decide) rfl (by decide) ?_
            refine lv_lload_n hx hb dX11_two_61 rfl (lv_at hl 1 rfl) ?_
            refine lv_lload_n hx hb dX11_two_62 rfl (lv_at hl 2 rfl) ?_
            refine W.lcmp hx hb dX11_two_63 ?_
            refine lv_if_ge (tgt := 71) hx hb dX11_two_64 (by decide) (fun hc => ?_) (fun hc => ?_)
            · replace hf := if_t hf hc
              refine lv_lload_n hx hb dX11_two_71 rfl (lv_at hl 2 rfl) ?_
              exact r_lret hC hR hS hE hf dX11_two_72
            · replace hf := if_f hf hc
              refine lv_lload_n hx hb dX11_two_67 rfl (lv_at hl 1 rfl) ?_
              refine lv_goto (tgt := 72) hx hb dX11_two_68 (by decide) ?_
              exact r_lret hC hR hS hE hf dX11_two_72
          · replace hf := if_f hf hc4
            by_cases hc5 : a1 = (8 : Int32)
            · replace hf := if_t hf hc5
              rw [hc5]
              refine lv_tableIn (tgt := 73) hx hb dX11_two_1 (by decide) (by decide) rfl (by decide) ?_
              refine lv_lload_n hx hb dX11_two_73 rfl (lv_at hl 1 rfl) ?_
              refine lv_lload_n hx hb dX11_two_74 rfl (lv_at hl 2 rfl) ?_
              refine W.lcmp hx hb dX11_two_75 ?_
              refine lv_if_le (tgt := 83) hx hb dX11_two_76 (by decide) (fun hc => ?_) (fun hc => ?_)
              · replace hf := if_t hf hc
                refine lv_lload_n hx hb dX11_two_83 rfl (lv_at hl 2 rfl) ?_
                exact r_lret hC hR hS hE hf dX11_two_84
              · replace hf := if_f hf hc
                refine lv_lload_n hx hb dX11_two_79 rfl (lv_at hl 1 rfl) ?_
                refine lv_goto (tgt := 84) hx hb dX11_two_80 (by decide) ?_
                exact r_lret hC hR hS hE hf dX11_two_84
            · replace hf := if_f hf hc5
              refine lv_tableOut (tgt := 85) hx hb dX11_two_1 (by have := ne_toInt hc0 (z := 3) (by decide); have := ne_toInt hc1 (z := 4) (by decide); have := ne_toInt hc2 (z := 5) (by decide); have := ne_toInt hc3 (z := 6) (by decide); have := ne_toInt hc4 (z := 7) (by decide); have := ne_toInt hc5 (z := 8) (by decide); omega) (by decide) ?_
              exact hj85_1 S _ _ _ hf hR hS hE (lv_sub hl [1, 2] rfl)
abbrev rX11_isAsked : Room := { frames := 0, cells := 0, slots := 0, locals := 0 }
def f_X11_isAsked (_n : Nat) (a1 : Int32) (a2 : Int64) (a3 : Int64) (S : MS) : Option (Int32 × MS) :=
  (if a1 = (10 : Int32) then (if 0 ≤ (lg_cmp a2 a3) then zb (0 : Int32) (some ((0 : Int32), S)) else zb (1 : Int32) (some ((1 : Int32), S))) else (if a1 = (11 : Int32) then (if 0 < (lg_cmp a2 a3) then zb (0 : Int32) (some ((0 : Int32), S)) else zb (1 : Int32) (some ((1 : Int32), S))) else (if a1 = (12 : Int32) then (if (lg_cmp a2 a3) ≤ 0 then zb (0 : Int32) (some ((0 : Int32), S)) else zb (1 : Int32) (some ((1 : Int32), S))) else (if a1 = (13 : Int32) then (if (lg_cmp a2 a3) < 0 then zb (0 : Int32) (some ((0 : Int32), S)) else zb (1 : Int32) (some ((1 : Int32), S))) else (if a1 = (14 : Int32) then (if (lg_cmp a2 a3) = 0 then zb (1 : Int32) (some ((1 : Int32), S)) else zb (0 : Int32) (some ((0 : Int32), S))) else (if (lg_cmp a2 a3) = 0 then zb (0 : Int32) (some ((0 : Int32), S)) else zb (1 : Int32) (some ((1 : Int32), S))))))))
set_option maxRecDepth 100000 in
set_option maxHeartbeats 4000000 in
theorem c_X11_isAsked (l : Launch) (G : Gx) (n : Nat) (a1 : Int32) (a2 : Int64) (a3 : Int64) (S : MS) (ro : Int32) (So : MS) (hf : f_X11_isAsked n a1 a2 a3 S = some (ro, So)) : Cn G l yX11_isAsked cX11_isAsked 5 (some .boolean) rX11_isAsked [.int a1, .long a2, .long a3] S (some (.int ro)) So := by
  refine Cn.of (by decide) (Nat.le_of_ble_eq_true rfl) ?_
  intro p e s m args below meth c hC hname hR ls hl
  have hC : Cx G RX11 cX11_isAsked 5 (some .boolean) p s m args meth c := hC
  have hl : lv_has ls 5 [(0, .int a1), (1, .long a2), (3, .long a3)] := hl
  have hx := hC.x
  have hb := hC.b
  have hS : va_S (gA G) s.heap s.heap [] := va_S.rf
  have hE : Ex S S := Ex.rf S
  unfold f_X11_isAsked at hf
  refine lv_iload_n hx hb dX11_isAsked_0 rfl (lv_at hl 0 rfl) ?_
  refine lv_bipush (v := 10) hx hb dX11_isAsked_1 (by decide) ?_
  refine lv_icmp_ne (tgt := 20) hx hb dX11_isAsked_3 (by decide) (fun hc => ?_) (fun hc => ?_)
  · replace hf := if_f hf hc
    refine lv_iload_n hx hb dX11_isAsked_20 rfl (lv_at hl 0 rfl) ?_
    refine lv_bipush (v := 11) hx hb dX11_isAsked_21 (by decide) ?_
    refine lv_icmp_ne (tgt := 40) hx hb dX11_isAsked_23 (by decide) (fun hc => ?_) (fun hc => ?_)
    · replace hf := if_f hf hc
      refine lv_iload_n hx hb dX11_isAsked_40 rfl (lv_at hl 0 rfl) ?_
      refine lv_bipush (v := 12) hx hb dX11_isAsked_41 (by decide) ?_
      refine lv_icmp_ne (tgt := 60) hx hb dX11_isAsked_43 (by decide) (fun hc => ?_) (fun hc => ?_)
      · replace hf := if_f hf hc
        refine lv_iload_n hx hb dX11_isAsked_60 rfl (lv_at hl 0 rfl) ?_
        refine lv_bipush (v := 13) hx hb dX11_isAsked_61 (by decide) ?_
        refine lv_icmp_ne (tgt := 80) hx hb dX11_isAsked_63 (by decide) (fun hc => ?_) (fun hc => ?_)
        · replace hf := if_f hf hc
          refine lv_iload_n hx hb dX11_isAsked_80 rfl (lv_at hl 0 rfl) ?_
          refine lv_bipush (v := 14) hx hb dX11_isAsked_81 (by decide) ?_
          refine lv_icmp_ne (tgt := 100) hx hb dX11_isAsked_83 (by decide) (fun hc => ?_) (fun hc => ?_)
          · replace hf := if_f hf hc
            refine lv_lload_n hx hb dX11_isAsked_100 rfl (lv_at hl 1 rfl) ?_
            refine lv_lload_n hx hb dX11_isAsked_101 rfl (lv_at hl 2 rfl) ?_
            refine W.lcmp hx hb dX11_isAsked_102 ?_
            refine lv_if_eq (tgt := 110) hx hb dX11_isAsked_103 (by decide) (fun hc => ?_) (fun hc => ?_)
            · replace hf := if_t hf hc
              refine lv_iconst (v := 0) hx hb dX11_isAsked_110 (by decide) ?_
              exact r_zret hC hR hS hE hf dX11_isAsked_111
            · replace hf := if_f hf hc
              refine lv_iconst (v := 1) hx hb dX11_isAsked_106 (by decide) ?_
              refine lv_goto (tgt := 111) hx hb dX11_isAsked_107 (by decide) ?_
              exact r_zret hC hR hS hE hf dX11_isAsked_111
          · replace hf := if_t hf hc
            refine lv_lload_n hx hb dX11_isAsked_86 rfl (lv_at hl 1 rfl) ?_
            refine lv_lload_n hx hb dX11_isAsked_87 rfl (lv_at hl 2 rfl) ?_
            refine W.lcmp hx hb dX11_isAsked_88 ?_
            refine lv_if_ne (tgt := 96) hx hb dX11_isAsked_89 (by decide) (fun hc => ?_) (fun hc => ?_)
            · replace hf := if_f hf hc
              refine lv_iconst (v := 0) hx hb dX11_isAsked_96 (by decide) ?_
              refine lv_goto (tgt := 111) hx hb dX11_isAsked_97 (by decide) ?_
              exact r_zret hC hR hS hE hf dX11_isAsked_111
            · replace hf := if_t hf hc
              refine lv_iconst (v := 1) hx hb dX11_isAsked_92 (by decide) ?_
              refine lv_goto (tgt := 111) hx hb dX11_isAsked_93 (by decide) ?_
              exact r_zret hC hR hS hE hf dX11_isAsked_111
        · replace hf := if_t hf hc
          refine lv_lload_n hx hb dX11_isAsked_66 rfl (lv_at hl 1 rfl) ?_
          refine lv_lload_n hx hb dX11_isAsked_67 rfl (lv_at hl 2 rfl) ?_
          refine W.lcmp hx hb dX11_isAsked_68 ?_
          refine lv_if_lt (tgt := 76) hx hb dX11_isAsked_69 (by decide) (fun hc => ?_) (fun hc => ?_)
          · replace hf := if_t hf hc
            refine lv_iconst (v := 0) hx hb dX11_isAsked_76 (by decide) ?_
            refine lv_goto (tgt := 111) hx hb dX11_isAsked_77 (by decide) ?_
            exact r_zret hC hR hS hE hf dX11_isAsked_111
          · replace hf := if_f hf hc
            refine lv_iconst (v := 1) hx hb dX11_isAsked_72 (by decide) ?_
            refine lv_goto (tgt := 111) hx hb dX11_isAsked_73 (by decide) ?_
            exact r_zret hC hR hS hE hf dX11_isAsked_111
      · replace hf := if_t hf hc
        refine lv_lload_n hx hb dX11_isAsked_46 rfl (lv_at hl 1 rfl) ?_
        refine lv_lload_n hx hb dX11_isAsked_47 rfl (lv_at hl 2 rfl) ?_
        refine W.lcmp hx hb dX11_isAsked_48 ?_
        refine lv_if_le (tgt := 56) hx hb dX11_isAsked_49 (by decide) (fun hc => ?_) (fun hc => ?_)
        · replace hf := if_t hf hc
          refine lv_iconst (v := 0) hx hb dX11_isAsked_56 (by decide) ?_
          refine lv_goto (tgt := 111) hx hb dX11_isAsked_57 (by decide) ?_
          exact r_zret hC hR hS hE hf dX11_isAsked_111
        · replace hf := if_f hf hc
          refine lv_iconst (v := 1) hx hb dX11_isAsked_52 (by decide) ?_
          refine lv_goto (tgt := 111) hx hb dX11_isAsked_53 (by decide) ?_
          exact r_zret hC hR hS hE hf dX11_isAsked_111
    · replace hf := if_t hf hc
      refine lv_lload_n hx hb dX11_isAsked_26 rfl (lv_at hl 1 rfl) ?_
      refine lv_lload_n hx hb dX11_isAsked_27 rfl (lv_at hl 2 rfl) ?_
      refine W.lcmp hx hb dX11_isAsked_28 ?_
      refine lv_if_gt (tgt := 36) hx hb dX11_isAsked_29 (by decide) (fun hc => ?_) (fun hc => ?_)
      · replace hf := if_t hf hc
        refine lv_iconst (v := 0) hx hb dX11_isAsked_36 (by decide) ?_
        refine lv_goto (tgt := 111) hx hb dX11_isAsked_37 (by decide) ?_
        exact r_zret hC hR hS hE hf dX11_isAsked_111
      · replace hf := if_f hf hc
        refine lv_iconst (v := 1) hx hb dX11_isAsked_32 (by decide) ?_
        refine lv_goto (tgt := 111) hx hb dX11_isAsked_33 (by decide) ?_
        exact r_zret hC hR hS hE hf dX11_isAsked_111
  · replace hf := if_t hf hc
    refine lv_lload_n hx hb dX11_isAsked_6 rfl (lv_at hl 1 rfl) ?_
    refine lv_lload_n hx hb dX11_isAsked_7 rfl (lv_at hl 2 rfl) ?_
    refine W.lcmp hx hb dX11_isAsked_8 ?_
    refine lv_if_ge (tgt := 16) hx hb dX11_isAsked_9 (by decide) (fun hc => ?_) (fun hc => ?_)
    · replace hf := if_t hf hc
      refine lv_iconst (v := 0) hx hb dX11_isAsked_16 (by decide) ?_
      refine lv_goto (tgt := 111) hx hb dX11_isAsked_17 (by decide) ?_
      exact r_zret hC hR hS hE hf dX11_isAsked_111
    · replace hf := if_f hf hc
      refine lv_iconst (v := 1) hx hb dX11_isAsked_12 (by decide) ?_
      refine lv_goto (tgt := 111) hx hb dX11_isAsked_13 (by decide) ?_
      exact r_zret hC hR hS hE hf dX11_isAsked_111
abbrev rX11_work : Room := { frames := 2, cells := 0, slots := 0, locals := 45 }
def f_X11_work_L47 (n : Nat) (this : Nat) (x4 : Int32) (x8 : Int32) : Nat → Int32 → Int32 → Int32 → MS → Option (MS)
  | 0, _, _, _, _ => none
  | k + 1, x15, x16, x17, S18 => jn (f_X11_work_L47 n this x4 x8 k) fun rec47_14 => gR S18 (mR S18 this 5) 12 fun q19 => ck (inb (x4 + (2 : Int32)) (mN S18 q19)) ((if (mI S18 q19 (x4 + (2 : Int32)).toNatClampNeg) ≤ x17 then some S18 else gR S18 (mR S18 this 5) 12 fun q22 => ck (inb (x8 + ((2 : Int32) * x17)) (mN S18 q22)) (bd (mI S18 q22 (x8 + ((2 : Int32) * x17)).toNatClampNeg) fun x25 => gR S18 (mR S18 this 5) 12 fun q26 => ck (inb ((x8 + ((2 : Int32) * x17)) + (1 : Int32)) (mN S18 q26)) (bd (mI S18 q26 ((x8 + ((2 : Int32) * x17)) + (1 : Int32)).toNatClampNeg) fun x29 => jn (fun (x32 : Int32) (x33 : Int32) (S34 : MS) => bd (x17 + (1 : Int32)) fun x35 => rec47_14 x32 x33 x35 S34) fun j353_31 => (if (1 : Int32) < x25 then (if x25 = (2 : Int32) then gR S18 (mR S18 this 26) 13 fun q134 => gR S18 (mR S18 this 26) 13 fun q136 => ck (inb (x15 - (1 : Int32)) (mN S18 q136)) (ck (inb (x15 - (1 : Int32)) (mN S18 q134)) (bd (sJ S18 q134 (x15 - (1 : Int32)).toNatClampNeg (-(mJ S18 q136 (x15 - (1 : Int32)).toNatClampNeg))) fun S140 => j353_31 x15 x16 S140)) else (if (10 : Int32) ≤ x25 then (if (20 : Int32) ≤ x25 then (if x25 = (20 : Int32) then gR S18 (mR S18 this 27) 14 fun q81 => gR S18 (mR S18 this 27) 14 fun q83 => ck (inb (x16 - (1 : Int32)) (mN S18 q83)) (jn (fun (q88 : Nat) (x89 : Int32) (x90 : Int32) (S91 : MS) => ck (inb x89 (mN S91 q88)) (zb x90 (bd (sI S91 q88 x89.toNatClampNeg x90) fun S94 => j353_31 x15 x16 S94))) fun j273_87 => (if (mI S18 q83 (x16 - (1 : Int32)).toNatClampNeg) = 0 then j273_87 q81 (x16 - (1 : Int32)) (1 : Int32) S18 else j273_87 q81 (x16 - (1 : Int32)) (0 : Int32) S18)) else bd (x16 + (-1 : Int32)) fun x36 => gR S18 (mR S18 this 27) 14 fun q37 => jn (fun (q41 : Nat) (x42 : Int32) (x43 : Int32) (S44 : MS) => ck (inb x42 (mN S44 q41)) (zb x43 (bd (sI S44 q41 x42.toNatClampNeg x43) fun S47 => j353_31 x15 x36 S47))) fun j352_40 => (if x25 = (21 : Int32) then gR S18 (mR S18 this 27) 14 fun q63 => ck (inb (x36 - (1 : Int32)) (mN S18 q63)) (jn (fun (q68 : Nat) (x69 : Int32) (S70 : MS) => j352_40 q68 x69 (0 : Int32) S70) fun j321_67 => (if (mI S18 q63 (x36 - (1 : Int32)).toNatClampNeg) = 0 then j321_67 q37 (x36 - (1 : Int32)) S18 else gR S18 (mR S18 this 27) 14 fun q71 => ck (inb x36 (mN S18 q71)) ((if (mI S18 q71 x36.toNatClampNeg) = 0 then j321_67 q37 (x36 - (1 : Int32)) S18 else j352_40 q37 (x36 - (1 : Int32)) (1 : Int32) S18)))) else gR S18 (mR S18 this 27) 14 fun q49 => ck (inb (x36 - (1 : Int32)) (mN S18 q49)) (jn (fun (q54 : Nat) (x55 : Int32) (S56 : MS) => j352_40 q54 x55 (1 : Int32) S56) fun j347_53 => (if (mI S18 q49 (x36 - (1 : Int32)).toNatClampNeg) = 0 then gR S18 (mR S18 this 27) 14 fun q57 => ck (inb x36 (mN S18 q57)) ((if (mI S18 q57 x36.toNatClampNeg) = 0 then j352_40 q37 (x36 - (1 : Int32)) (0 : Int32) S18 else j347_53 q37 (x36 - (1 : Int32)) S18)) else j347_53 q37 (x36 - (1 : Int32)) S18)))) else bd (x15 + (-2 : Int32)) fun x100 => gR S18 (mR S18 this 27) 14 fun q101 => gR S18 (mR S18 this 26) 13 fun q103 => ck (inb x100 (mN S18 q103)) (gR S18 (mR S18 this 26) 13 fun q106 => ck (inb (x100 + (1 : Int32)) (mN S18 q106)) (cl (f_X11_isAsked n x25 (mJ S18 q103 x100.toNatClampNeg) (mJ S18 q106 (x100 + (1 : Int32)).toNatClampNeg) S18) fun x112 S109 => ck (inb x16 (mN S109 q101)) (zb x112 (bd (sI S109 q101 x16.toNatClampNeg x112) fun S115 => bd (x16 + (1 : Int32)) fun x117 => j353_31 x100 x117 S115))))) else bd (x15 + (-1 : Int32)) fun x118 => gR S18 (mR S18 this 26) 13 fun q119 => gR S18 (mR S18 this 26) 13 fun q121 => ck (inb (x118 - (1 : Int32)) (mN S18 q121)) (gR S18 (mR S18 this 26) 13 fun q124 => ck (inb x118 (mN S18 q124)) (cl (f_X11_two n x25 (mJ S18 q121 (x118 - (1 : Int32)).toNatClampNeg) (mJ S18 q124 x118.toNatClampNeg) S18) fun x130 S127 => ck (inb (x118 - (1 : Int32)) (mN S127 q119)) (bd (sJ S127 q119 (x118 - (1 : Int32)).toNatClampNeg x130) fun S132 => j353_31 x118 x16 S132))))) else gR S18 (mR S18 this 26) 13 fun q142 => jn (fun (q146 : Nat) (x147 : Int32) (x148 : Int64) (S149 : MS) => ck (inb x147 (mN S149 q146)) (bd (sJ S149 q146 x147.toNatClampNeg x148) fun S151 => bd (x15 + (1 : Int32)) fun x153 => j353_31 x153 x16 S151)) fun j119_145 => (if x25 = 0 then j119_145 q142 x15 (x29.toInt64) S18 else gR S18 (mR S18 this 25) 12 fun q154 => ck (inb x29 (mN S18 q154)) (j119_145 q142 x15 ((mI S18 q154 x29.toNatClampNeg).toInt64) S18)))))))
def f_X11_work (n : Nat) (this : Nat) (a1 : Int32) (S : MS) : Option (MS) :=
  gR S (mR S this 0) 12 fun q1 => ck (inb (4 : Int32) (mN S q1)) (bd ((((700 : Int32) * (mI S q1 (4 : Int32).toNatClampNeg)) + (1 : Int32)) + ((4 : Int32) * a1)) fun x4 => gR S (mR S this 0) 12 fun q5 => ck (inb (4 : Int32) (mN S q5)) (bd (((700 : Int32) * (mI S q5 (4 : Int32).toNatClampNeg)) + (85 : Int32)) fun x8 => gR S (mR S this 5) 12 fun q9 => ck (inb (x4 + (1 : Int32)) (mN S q9)) (bd (mI S q9 (x4 + (1 : Int32)).toNatClampNeg) fun x12 => f_X11_work_L47 n this x4 x8 n (0 : Int32) (0 : Int32) x12 S)))
set_option maxRecDepth 100000 in
set_option maxHeartbeats 4000000 in
theorem c_X11_work (l : Launch) (G : Gx) (n : Nat) (this : Nat) (a1 : Int32) (S : MS) (So : MS) (hf : f_X11_work n this a1 S = some So) (ok_this : Ok S this 11) : Cn G l yX11_work cX11_work 9 none rX11_work [.ref this, .int a1] S none So := by
  refine Cn.of (by decide) (Nat.le_of_ble_eq_true rfl) ?_
  intro p e s m args below meth c hC hname hR ls hl
  have hC : Cx G RX11 cX11_work 9 none p s m args meth c := hC
  have hl : lv_has ls 9 [(0, .ref this), (1, .int a1)] := hl
  have hx := hC.x
  have hb := hC.b
  have hS : va_S (gA G) s.heap s.heap [] := va_S.rf
  have hE : Ex S S := Ex.rf S
  unfold f_X11_work at hf
  refine lv_sipush (v := 700) hx hb dX11_work_0 (by decide) ?_
  refine lv_aload_n hx hb dX11_work_3 rfl (lv_at hl 0 rfl) ?_
  obtain ⟨q1, hq2, ok_q1, hf⟩ := gR_of hf
  refine gf_RX11_7 hC hR ok_this hq2 dX11_work_4 ?_
  refine lv_iconst (v := 4) hx hb dX11_work_7 (by decide) ?_
  obtain ⟨hi3, hf⟩ := ck_of hf
  refine r_iald hC hR ok_q1 hi3 dX11_work_8 ?_
  refine lv_imul hx hb dX11_work_9 ?_
  refine lv_iconst (v := 1) hx hb dX11_work_10 (by decide) ?_
  refine lv_iadd hx hb dX11_work_11 ?_
  refine lv_iconst (v := 4) hx hb dX11_work_12 (by decide) ?_
  refine lv_iload_n hx hb dX11_work_13 rfl (lv_at hl 1 rfl) ?_
  refine lv_imul hx hb dX11_work_14 ?_
  refine lv_iadd hx hb dX11_work_15 ?_
  refine bdi hf (fun x4 hf => ?_)
  refine lv_istore_n (lv' := [(2, .int x4), (0, .ref this), (1, .int a1)]) hx hb dX11_work_16 rfl hl (by decide) rfl (fun ls hl => ?_)
  refine lv_sipush (v := 700) hx hb dX11_work_17 (by decide) ?_
  refine lv_aload_n hx hb dX11_work_20 rfl (lv_at hl 1 rfl) ?_
  obtain ⟨q5, hq6, ok_q5, hf⟩ := gR_of hf
  refine gf_RX11_7 hC hR ok_this hq6 dX11_work_21 ?_
  refine lv_iconst (v := 4) hx hb dX11_work_24 (by decide) ?_
  obtain ⟨hi7, hf⟩ := ck_of hf
  refine r_iald hC hR ok_q5 hi7 dX11_work_25 ?_
  refine lv_imul hx hb dX11_work_26 ?_
  refine lv_bipush (v := 85) hx hb dX11_work_27 (by decide) ?_
  refine lv_iadd hx hb dX11_work_29 ?_
  refine bdi hf (fun x8 hf => ?_)
  refine lv_istore_n (lv' := [(3, .int x8), (2, .int x4), (0, .ref this), (1, .int a1)]) hx hb dX11_work_30 rfl hl (by decide) rfl (fun ls hl => ?_)
  refine lv_iconst (v := 0) hx hb dX11_work_31 (by decide) ?_
  refine lv_istore (lv' := [(4, .int (0 : Int32)), (3, .int x8), (2, .int x4), (0, .ref this), (1, .int a1)]) hx hb dX11_work_32 hl (by decide) rfl (fun ls hl => ?_)
  refine lv_iconst (v := 0) hx hb dX11_work_34 (by decide) ?_
  refine lv_istore (lv' := [(5, .int (0 : Int32)), (4, .int (0 : Int32)), (3, .int x8), (2, .int x4), (0, .ref this), (1, .int a1)]) hx hb dX11_work_35 hl (by decide) rfl (fun ls hl => ?_)
  refine lv_aload_n hx hb dX11_work_37 rfl (lv_at hl 4 rfl) ?_
  obtain ⟨q9, hq10, ok_q9, hf⟩ := gR_of hf
  refine gf_RX11_13 hC hR ok_this hq10 dX11_work_38 ?_
  refine lv_iload_n hx hb dX11_work_41 rfl (lv_at hl 3 rfl) ?_
  refine lv_iconst (v := 1) hx hb dX11_work_42 (by decide) ?_
  refine lv_iadd hx hb dX11_work_43 ?_
  obtain ⟨hi11, hf⟩ := ck_of hf
  refine r_iald hC hR ok_q9 hi11 dX11_work_44 ?_
  refine bdi hf (fun x12 hf => ?_)
  refine lv_istore (lv' := [(6, .int x12), (5, .int (0 : Int32)), (4, .int (0 : Int32)), (3, .int x8), (2, .int x4), (0, .ref this), (1, .int a1)]) hx hb dX11_work_45 hl (by decide) rfl (fun ls hl => ?_)
  have hh164 : ∀ k : Nat, ∀ (x15 : Int32) (x16 : Int32) (x17 : Int32) (S18 : MS) (H : Heap) (locs : List Loc) (ls : Array Slot), f_X11_work_L47 n this x4 x8 k x15 x16 x17 S18 = some So → Rp G S18 H → va_S (gA G) s.heap H locs → Ex S S18 → Ok S18 this 11 → lv_has ls 9 [(0, .ref this), (2, .int x4), (3, .int x8), (4, .int x15), (5, .int x16), (6, .int x17)] → W p l e rX11_work s m args below meth c H locs 0 0 (MQ below (Qn G S none So) args s 0 0 (gA G)) (F0 m 47 ls []) := by
    intro k
    induction k with
    | zero =>
      intro x15 x16 x17 S18 H locs ls hf hR hS hE ok_this hl
      exact absurd hf (by rw [f_X11_work_L47]; exact fun h => by cases h)
    | succ k ih =>
      intro x15 x16 x17 S18 H locs ls hf hR hS hE ok_this hl
      rw [f_X11_work_L47] at hf
      obtain ⟨rec47_14, erec47_14, hf⟩ := jn_of4 hf
      have hL47_13 : ∀ (x15 : Int32) (x16 : Int32) (x17 : Int32) (S18 : MS) (H : Heap) (locs : List Loc) (ls : Array Slot), rec47_14 x15 x16 x17 S18 = some So → Rp G S18 H → va_S (gA G) s.heap H locs → Ex S S18 → Ok S18 this 11 → lv_has ls 9 [(0, .ref this), (2, .int x4), (3, .int x8), (4, .int x15), (5, .int x16), (6, .int x17)] → W p l e rX11_work s m args below meth c H locs 0 0 (MQ below (Qn G S none So) args s 0 0 (gA G)) (F0 m 47 ls []) := by
        intro x15 x16 x17 S18 H locs ls hf hR hS hE ok_this hl
        rw [erec47_14] at hf
        exact ih x15 x16 x17 S18 _ _ _ hf hR hS hE ok_this hl
      refine lv_iload hx hb dX11_work_47 (lv_at hl 5 rfl) ?_
      refine lv_aload_n hx hb dX11_work_49 rfl (lv_at hl 0 rfl) ?_
      obtain ⟨q19, hq20, ok_q19, hf⟩ := gR_of hf
      refine gf_RX11_13 hC hR ok_this hq20 dX11_work_50 ?_
      refine lv_iload_n hx hb dX11_work_53 rfl (lv_at hl 1 rfl) ?_
      refine lv_iconst (v := 2) hx hb dX11_work_54 (by decide) ?_
      refine lv_iadd hx hb dX11_work_55 ?_
      obtain ⟨hi21, hf⟩ := ck_of hf
      refine r_iald hC hR ok_q19 hi21 dX11_work_56 ?_
      refine lv_icmp_ge (tgt := 359) hx hb dX11_work_57 (by decide) (fun hc => ?_) (fun hc => ?_)
      · replace hf := if_t hf hc
        exact r_vret hC hR hS hE hf dX11_work_359
      · replace hf := if_f hf hc
        refine lv_aload_n hx hb dX11_work_60 rfl (lv_at hl 0 rfl) ?_
        obtain ⟨q22, hq23, ok_q22, hf⟩ := gR_of hf
        refine gf_RX11_13 hC hR ok_this hq23 dX11_work_61 ?_
        refine lv_iload_n hx hb dX11_work_64 rfl (lv_at hl 2 rfl) ?_
        refine lv_iconst (v := 2) hx hb dX11_work_65 (by decide) ?_
        refine lv_iload hx hb dX11_work_66 (lv_at hl 5 rfl) ?_
        refine lv_imul hx hb dX11_work_68 ?_
        refine lv_iadd hx hb dX11_work_69 ?_
        obtain ⟨hi24, hf⟩ := ck_of hf
        refine r_iald hC hR ok_q22 hi24 dX11_work_70 ?_
        refine bdi hf (fun x25 hf => ?_)
        refine lv_istore (lv' := [(7, .int x25), (0, .ref this), (2, .int x4), (3, .int x8), (4, .int x15), (5, .int x16), (6, .int x17)]) hx hb dX11_work_71 hl (by decide) rfl (fun ls hl => ?_)
        refine lv_aload_n hx hb dX11_work_73 rfl (lv_at hl 1 rfl) ?_
        obtain ⟨q26, hq27, ok_q26, hf⟩ := gR_of hf
        refine gf_RX11_13 hC hR ok_this hq27 dX11_work_74 ?_
        refine lv_iload_n hx hb dX11_work_77 rfl (lv_at hl 3 rfl) ?_
        refine lv_iconst (v := 2) hx hb dX11_work_78 (by decide) ?_
        refine lv_iload hx hb dX11_work_79 (lv_at hl 6 rfl) ?_
        refine lv_imul hx hb dX11_work_81 ?_
        refine lv_iadd hx hb dX11_work_82 ?_
        refine lv_iconst (v := 1) hx hb dX11_work_83 (by decide) ?_
        refine lv_iadd hx hb dX11_work_84 ?_
        obtain ⟨hi28, hf⟩ := ck_of hf
        refine r_iald hC hR ok_q26 hi28 dX11_work_85 ?_
        refine bdi hf (fun x29 hf => ?_)
        refine lv_istore (lv' := [(8, .int x29), (7, .int x25), (0, .ref this), (2, .int x4), (3, .int x8), (4, .int x15), (5, .int x16), (6, .int x17)]) hx hb dX11_work_86 hl (by decide) rfl (fun ls hl => ?_)
        refine lv_iload hx hb dX11_work_88 (lv_at hl 1 rfl) ?_
        refine lv_iconst (v := 1) hx hb dX11_work_90 (by decide) ?_
        obtain ⟨j353_31, ej353_31, hf⟩ := jn_of3 hf
        have hj353_30 : ∀ (x32 : Int32) (x33 : Int32) (S34 : MS) (H : Heap) (locs : List Loc) (ls : Array Slot), j353_31 x32 x33 S34 = some So → Rp G S34 H → va_S (gA G) s.heap H locs → Ex S S34 → Ok S34 this 11 → lv_has ls 9 [(0, .ref this), (2, .int x4), (3, .int x8), (4, .int x32), (5, .int x33), (6, .int x17)] → W p l e rX11_work s m args below meth c H locs 0 0 (MQ below (Qn G S none So) args s 0 0 (gA G)) (F0 m 353 ls []) := by
          intro x32 x33 S34 H locs ls hf hR hS hE ok_this hl
          rw [ej353_31] at hf
          refine r_iinc (n := 1) (z := 1) (lv' := fun x35 => [(6, .int x35), (0, .ref this), (2, .int x4), (3, .int x8), (4, .int x32), (5, .int x33)]) hx hb dX11_work_353 hl (k := 5) rfl (by decide) (by decide) (fun _ => rfl) hf (fun x35 ls hf hl => ?_)
          refine lv_goto (tgt := 47) hx hb dX11_work_356 (by decide) ?_
          exact hL47_13 x32 x33 x35 S34 _ _ _ hf hR hS hE ok_this (lv_sub hl [1, 2, 3, 4, 5, 0] rfl)
        refine lv_icmp_gt (tgt := 126) hx hb dX11_work_91 (by decide) (fun hc => ?_) (fun hc => ?_)
        · replace hf := if_t hf hc
          refine lv_iload hx hb dX11_work_126 (lv_at hl 1 rfl) ?_
          refine lv_iconst (v := 2) hx hb dX11_work_128 (by decide) ?_
          refine lv_icmp_ne (tgt := 154) hx hb dX11_work_129 (by decide) (fun hc => ?_) (fun hc => ?_)
          · replace hf := if_f hf hc
            refine lv_iload hx hb dX11_work_154 (lv_at hl 1 rfl) ?_
            refine lv_bipush (v := 10) hx hb dX11_work_156 (by decide) ?_
            refine lv_icmp_ge (tgt := 197) hx hb dX11_work_158 (by decide) (fun hc => ?_) (fun hc => ?_)
            · replace hf := if_t hf hc
              refine lv_iload hx hb dX11_work_197 (lv_at hl 1 rfl) ?_
              refine lv_bipush (v := 20) hx hb dX11_work_199 (by decide) ?_
              refine lv_icmp_ge (tgt := 241) hx hb dX11_work_201 (by decide) (fun hc => ?_) (fun hc => ?_)
              · replace hf := if_t hf hc
                refine lv_iload hx hb dX11_work_241 (lv_at hl 1 rfl) ?_
                refine lv_bipush (v := 20) hx hb dX11_work_243 (by decide) ?_
                refine lv_icmp_ne (tgt := 277) hx hb dX11_work_245 (by decide) (fun hc => ?_) (fun hc => ?_)
                · replace hf := if_f hf hc
                  refine r_iinc (n := -1) (z := -1) (lv' := fun x36 => [(5, .int x36), (8, .int x29), (7, .int x25), (0, .ref this), (2, .int x4), (3, .int x8), (4, .int x15), (6, .int x17)]) hx hb dX11_work_277 hl (k := 6) rfl (by decide) (by decide) (fun _ => rfl) hf (fun x36 ls hf hl => ?_)
                  refine lv_aload_n hx hb dX11_work_280 rfl (lv_at hl 3 rfl) ?_
                  obtain ⟨q37, hq38, ok_q37, hf⟩ := gR_of hf
                  refine gf_RX11_36 hC hR ok_this hq38 dX11_work_281 ?_
                  refine lv_iload hx hb dX11_work_284 (lv_at hl 0 rfl) ?_
                  refine lv_iconst (v := 1) hx hb dX11_work_286 (by decide) ?_
                  refine lv_isub hx hb dX11_work_287 ?_
                  refine lv_iload hx hb dX11_work_288 (lv_at hl 2 rfl) ?_
                  refine lv_bipush (v := 21) hx hb dX11_work_290 (by decide) ?_
                  obtain ⟨j352_40, ej352_40, hf⟩ := jn_of4 hf
                  have hj352_39 : ∀ (q41 : Nat) (x42 : Int32) (x43 : Int32) (S44 : MS) (H : Heap) (locs : List Loc) (ls : Array Slot), j352_40 q41 x42 x43 S44 = some So → Rp G S44 H → va_S (gA G) s.heap H locs → Ex S S44 → Ok S44 this 11 → Ok S44 q41 14 → lv_has ls 9 [(0, .ref this), (2, .int x4), (3, .int x8), (4, .int x15), (5, .int x36), (6, .int x17)] → W p l e rX11_work s m args below meth c H locs 0 0 (MQ below (Qn G S none So) args s 0 0 (gA G)) (F0 m 352 ls [.int x43, .int x42, .ref q41]) := by
                    intro q41 x42 x43 S44 H locs ls hf hR hS hE ok_this ok_q41 hl
                    rw [ej352_40] at hf
                    obtain ⟨hi45, hf⟩ := ck_of hf
                    obtain ⟨hz46, hf⟩ := zb_of hf
                    refine rB_zast hC hR hS ok_q41 hi45 hz46 dX11_work_352 hf (fun S47 H locs hf hR hS hE48 => ?_)
                    have ok_this := hE48 _ _ ok_this
                    have ok_q41 := hE48 _ _ ok_q41
                    have hE := hE.tr hE48
                    exact hj353_30 x15 x36 S47 _ _ _ hf hR hS hE ok_this (lv_sub hl [0, 1, 2, 3, 4, 5] rfl)
                  refine lv_icmp_ne (tgt := 325) hx hb dX11_work_292 (by decide) (fun hc => ?_) (fun hc => ?_)
                  · replace hf := if_f hf hc
                    refine lv_aload_n hx hb dX11_work_325 rfl (lv_at hl 3 rfl) ?_
                    obtain ⟨q49, hq50, ok_q49, hf⟩ := gR_of hf
                    refine gf_RX11_36 hC hR ok_this hq50 dX11_work_326 ?_
                    refine lv_iload hx hb dX11_work_329 (lv_at hl 0 rfl) ?_
                    refine lv_iconst (v := 1) hx hb dX11_work_331 (by decide) ?_
                    refine lv_isub hx hb dX11_work_332 ?_
                    obtain ⟨hi51, hf⟩ := ck_of hf
                    refine r_zald hC hR ok_q49 hi51 dX11_work_333 ?_
                    obtain ⟨j347_53, ej347_53, hf⟩ := jn_of3 hf
                    have hj347_52 : ∀ (q54 : Nat) (x55 : Int32) (S56 : MS) (H : Heap) (locs : List Loc) (ls : Array Slot), j347_53 q54 x55 S56 = some So → Rp G S56 H → va_S (gA G) s.heap H locs → Ex S S56 → Ok S56 this 11 → Ok S56 q54 14 → lv_has ls 9 [(0, .ref this), (2, .int x4), (3, .int x8), (4, .int x15), (5, .int x36), (6, .int x17)] → W p l e rX11_work s m args below meth c H locs 0 0 (MQ below (Qn G S none So) args s 0 0 (gA G)) (F0 m 347 ls [.int x55, .ref q54]) := by
                      intro q54 x55 S56 H locs ls hf hR hS hE ok_this ok_q54 hl
                      rw [ej347_53] at hf
                      refine lv_iconst (v := 1) hx hb dX11_work_347 (by decide) ?_
                      refine lv_goto (tgt := 352) hx hb dX11_work_348 (by decide) ?_
                      exact hj352_39 q54 x55 (1 : Int32) S56 _ _ _ hf hR hS hE ok_this ok_q54 (lv_sub hl [0, 1, 2, 3, 4, 5] rfl)
                    refine lv_if_ne (tgt := 347) hx hb dX11_work_334 (by decide) (fun hc => ?_) (fun hc => ?_)
                    · replace hf := if_f hf hc
                      exact hj347_52 q37 (x36 - (1 : Int32)) S18 _ _ _ hf hR hS hE ok_this ok_q37 (lv_sub hl [3, 4, 5, 6, 0, 7] rfl)
                    · replace hf := if_t hf hc
                      refine lv_aload_n hx hb dX11_work_337 rfl (lv_at hl 3 rfl) ?_
                      obtain ⟨q57, hq58, ok_q57, hf⟩ := gR_of hf
                      refine gf_RX11_36 hC hR ok_this hq58 dX11_work_338 ?_
                      refine lv_iload hx hb dX11_work_341 (lv_at hl 0 rfl) ?_
                      obtain ⟨hi59, hf⟩ := ck_of hf
                      refine r_zald hC hR ok_q57 hi59 dX11_work_343 ?_
                      refine lv_if_eq (tgt := 351) hx hb dX11_work_344 (by decide) (fun hc => ?_) (fun hc => ?_)
                      · replace hf := if_t hf hc
                        refine lv_iconst (v := 0) hx hb dX11_work_351 (by decide) ?_
                        exact hj352_39 q37 (x36 - (1 : Int32)) (0 : Int32) S18 _ _ _ hf hR hS hE ok_this ok_q37 (lv_sub hl [3, 4, 5, 6, 0, 7] rfl)
                      · replace hf := if_f hf hc
                        exact hj347_52 q37 (x36 - (1 : Int32)) S18 _ _ _ hf hR hS hE ok_this ok_q37 (lv_sub hl [3, 4, 5, 6, 0, 7] rfl)
                  · replace hf := if_t hf hc
                    refine lv_aload_n hx hb dX11_work_295 rfl (lv_at hl 3 rfl) ?_
                    obtain ⟨q63, hq64, ok_q63, hf⟩ := gR_of hf
                    refine gf_RX11_36 hC hR ok_this hq64 dX11_work_296 ?_
                    refine lv_iload hx hb dX11_work_299 (lv_at hl 0 rfl) ?_
                    refine lv_iconst (v := 1) hx hb dX11_work_301 (by decide) ?_
                    refine lv_isub hx hb dX11_work_302 ?_
                    obtain ⟨hi65, hf⟩ := ck_of hf
                    refine r_zald hC hR ok_q63 hi65 dX11_work_303 ?_
                    obtain ⟨j321_67, ej321_67, hf⟩ := jn_of3 hf
                    have hj321_66 : ∀ (q68 : Nat) (x69 : Int32) (S70 : MS) (H : Heap) (locs : List Loc) (ls : Array Slot), j321_67 q68 x69 S70 = some So → Rp G S70 H → va_S (gA G) s.heap H locs → Ex S S70 → Ok S70 this 11 → Ok S70 q68 14 → lv_has ls 9 [(0, .ref this), (2, .int x4), (3, .int x8), (4, .int x15), (5, .int x36), (6, .int x17)] → W p l e rX11_work s m args below meth c H locs 0 0 (MQ below (Qn G S none So) args s 0 0 (gA G)) (F0 m 321 ls [.int x69, .ref q68]) := by
                      intro q68 x69 S70 H locs ls hf hR hS hE ok_this ok_q68 hl
                      rw [ej321_67] at hf
                      refine lv_iconst (v := 0) hx hb dX11_work_321 (by decide) ?_
                      refine lv_goto (tgt := 352) hx hb dX11_work_322 (by decide) ?_
                      exact hj352_39 q68 x69 (0 : Int32) S70 _ _ _ hf hR hS hE ok_this ok_q68 (lv_sub hl [0, 1, 2, 3, 4, 5] rfl)
                    refine lv_if_eq (tgt := 321) hx hb dX11_work_304 (by decide) (fun hc => ?_) (fun hc => ?_)
                    · replace hf := if_t hf hc
                      exact hj321_66 q37 (x36 - (1 : Int32)) S18 _ _ _ hf hR hS hE ok_this ok_q37 (lv_sub hl [3, 4, 5, 6, 0, 7] rfl)
                    · replace hf := if_f hf hc
                      refine lv_aload_n hx hb dX11_work_307 rfl (lv_at hl 3 rfl) ?_
                      obtain ⟨q71, hq72, ok_q71, hf⟩ := gR_of hf
                      refine gf_RX11_36 hC hR ok_this hq72 dX11_work_308 ?_
                      refine lv_iload hx hb dX11_work_311 (lv_at hl 0 rfl) ?_
                      obtain ⟨hi73, hf⟩ := ck_of hf
                      refine r_zald hC hR ok_q71 hi73 dX11_work_313 ?_
                      refine lv_if_eq (tgt := 321) hx hb dX11_work_314 (by decide) (fun hc => ?_) (fun hc => ?_)
                      · replace hf := if_t hf hc
                        exact hj321_66 q37 (x36 - (1 : Int32)) S18 _ _ _ hf hR hS hE ok_this ok_q37 (lv_sub hl [3, 4, 5, 6, 0, 7] rfl)
                      · replace hf := if_f hf hc
                        refine lv_iconst (v := 1) hx hb dX11_work_317 (by decide) ?_
                        refine lv_goto (tgt := 352) hx hb dX11_work_318 (by decide) ?_
                        exact hj352_39 q37 (x36 - (1 : Int32)) (1 : Int32) S18 _ _ _ hf hR hS hE ok_this ok_q37 (lv_sub hl [3, 4, 5, 6, 0, 7] rfl)
                · replace hf := if_t hf hc
                  refine lv_aload_n hx hb dX11_work_248 rfl (lv_at hl 2 rfl) ?_
                  obtain ⟨q81, hq82, ok_q81, hf⟩ := gR_of hf
                  refine gf_RX11_36 hC hR ok_this hq82 dX11_work_249 ?_
                  refine lv_iload hx hb dX11_work_252 (lv_at hl 6 rfl) ?_
                  refine lv_iconst (v := 1) hx hb dX11_work_254 (by decide) ?_
                  refine lv_isub hx hb dX11_work_255 ?_
                  refine lv_aload_n hx hb dX11_work_256 rfl (lv_at hl 2 rfl) ?_
                  obtain ⟨q83, hq84, ok_q83, hf⟩ := gR_of hf
                  refine gf_RX11_36 hC hR ok_this hq84 dX11_work_257 ?_
                  refine lv_iload hx hb dX11_work_260 (lv_at hl 6 rfl) ?_
                  refine lv_iconst (v := 1) hx hb dX11_work_262 (by decide) ?_
                  refine lv_isub hx hb dX11_work_263 ?_
                  obtain ⟨hi85, hf⟩ := ck_of hf
                  refine r_zald hC hR ok_q83 hi85 dX11_work_264 ?_
                  obtain ⟨j273_87, ej273_87, hf⟩ := jn_of4 hf
                  have hj273_86 : ∀ (q88 : Nat) (x89 : Int32) (x90 : Int32) (S91 : MS) (H : Heap) (locs : List Loc) (ls : Array Slot), j273_87 q88 x89 x90 S91 = some So → Rp G S91 H → va_S (gA G) s.heap H locs → Ex S S91 → Ok S91 this 11 → Ok S91 q88 14 → lv_has ls 9 [(0, .ref this), (2, .int x4), (3, .int x8), (4, .int x15), (5, .int x16), (6, .int x17)] → W p l e rX11_work s m args below meth c H locs 0 0 (MQ below (Qn G S none So) args s 0 0 (gA G)) (F0 m 273 ls [.int x90, .int x89, .ref q88]) := by
                    intro q88 x89 x90 S91 H locs ls hf hR hS hE ok_this ok_q88 hl
                    rw [ej273_87] at hf
                    obtain ⟨hi92, hf⟩ := ck_of hf
                    obtain ⟨hz93, hf⟩ := zb_of hf
                    refine rB_zast hC hR hS ok_q88 hi92 hz93 dX11_work_273 hf (fun S94 H locs hf hR hS hE95 => ?_)
                    have ok_this := hE95 _ _ ok_this
                    have ok_q88 := hE95 _ _ ok_q88
                    have hE := hE.tr hE95
                    refine lv_goto (tgt := 353) hx hb dX11_work_274 (by decide) ?_
                    exact hj353_30 x15 x16 S94 _ _ _ hf hR hS hE ok_this (lv_sub hl [0, 1, 2, 3, 4, 5] rfl)
                  refine lv_if_ne (tgt := 272) hx hb dX11_work_265 (by decide) (fun hc => ?_) (fun hc => ?_)
                  · replace hf := if_f hf hc
                    refine lv_iconst (v := 0) hx hb dX11_work_272 (by decide) ?_
                    exact hj273_86 q81 (x16 - (1 : Int32)) (0 : Int32) S18 _ _ _ hf hR hS hE ok_this ok_q81 (lv_sub hl [2, 3, 4, 5, 6, 7] rfl)
                  · replace hf := if_t hf hc
                    refine lv_iconst (v := 1) hx hb dX11_work_268 (by decide) ?_
                    refine lv_goto (tgt := 273) hx hb dX11_work_269 (by decide) ?_
                    exact hj273_86 q81 (x16 - (1 : Int32)) (1 : Int32) S18 _ _ _ hf hR hS hE ok_this ok_q81 (lv_sub hl [2, 3, 4, 5, 6, 7] rfl)
              · replace hf := if_f hf hc
                refine r_iinc (n := -2) (z := -2) (lv' := fun x100 => [(4, .int x100), (8, .int x29), (7, .int x25), (0, .ref this), (2, .int x4), (3, .int x8), (5, .int x16), (6, .int x17)]) hx hb dX11_work_204 hl (k := 5) rfl (by decide) (by decide) (fun _ => rfl) hf (fun x100 ls hf hl => ?_)
                refine lv_aload_n hx hb dX11_work_207 rfl (lv_at hl 3 rfl) ?_
                obtain ⟨q101, hq102, ok_q101, hf⟩ := gR_of hf
                refine gf_RX11_36 hC hR ok_this hq102 dX11_work_208 ?_
                refine lv_iload hx hb dX11_work_211 (lv_at hl 6 rfl) ?_
                refine lv_iload hx hb dX11_work_213 (lv_at hl 2 rfl) ?_
                refine lv_aload_n hx hb dX11_work_215 rfl (lv_at hl 3 rfl) ?_
                obtain ⟨q103, hq104, ok_q103, hf⟩ := gR_of hf
                refine gf_RX11_32 hC hR ok_this hq104 dX11_work_216 ?_
                refine lv_iload hx hb dX11_work_219 (lv_at hl 0 rfl) ?_
                obtain ⟨hi105, hf⟩ := ck_of hf
                refine r_lald hC hR ok_q103 hi105 dX11_work_221 ?_
                refine lv_aload_n hx hb dX11_work_222 rfl (lv_at hl 3 rfl) ?_
                obtain ⟨q106, hq107, ok_q106, hf⟩ := gR_of hf
                refine gf_RX11_32 hC hR ok_this hq107 dX11_work_223 ?_
                refine lv_iload hx hb dX11_work_226 (lv_at hl 0 rfl) ?_
                refine lv_iconst (v := 1) hx hb dX11_work_228 (by decide) ?_
                refine lv_iadd hx hb dX11_work_229 ?_
                obtain ⟨hi108, hf⟩ := ck_of hf
                refine r_lald hC hR ok_q106 hi108 dX11_work_230 ?_
                obtain ⟨x112, S109, hc110, hf⟩ := cl_of hf
                refine cl_RX11_278 (As := [.int x25, .long (mJ S18 q103 x100.toNatClampNeg), .long (mJ S18 q106 (x100 + (1 : Int32)).toNatClampNeg)]) (rest := [.int x16, .ref q101]) hC hR hS (c_X11_isAsked l G n x25 (mJ S18 q103 x100.toNatClampNeg) (mJ S18 q106 (x100 + (1 : Int32)).toNatClampNeg) S18 x112 S109 hc110 ) rfl ⟨Nat.le_of_ble_eq_true rfl, Nat.le_of_ble_eq_true rfl⟩ hl.1 rfl (Nat.le_of_ble_eq_true rfl) dX11_work_231 (Nat.zero_le _) (Nat.zero_le _) (fun H locs hR hS hE111 => ?_)
                have ok_this := hE111 _ _ ok_this
                have ok_q19 := hE111 _ _ ok_q19
                have ok_q22 := hE111 _ _ ok_q22
                have ok_q26 := hE111 _ _ ok_q26
                have ok_q101 := hE111 _ _ ok_q101
                have ok_q103 := hE111 _ _ ok_q103
                have ok_q106 := hE111 _ _ ok_q106
                have hE := hE.tr hE111
                obtain ⟨hi113, hf⟩ := ck_of hf
                obtain ⟨hz114, hf⟩ := zb_of hf
                refine rB_zast hC hR hS ok_q101 hi113 hz114 dX11_work_234 hf (fun S115 H locs hf hR hS hE116 => ?_)
                have ok_this := hE116 _ _ ok_this
                have ok_q19 := hE116 _ _ ok_q19
                have ok_q22 := hE116 _ _ ok_q22
                have ok_q26 := hE116 _ _ ok_q26
                have ok_q101 := hE116 _ _ ok_q101
                have ok_q103 := hE116 _ _ ok_q103
                have ok_q106 := hE116 _ _ ok_q106
                have hE := hE.tr hE116
                refine r_iinc (n := 1) (z := 1) (lv' := fun x117 => [(5, .int x117), (4, .int x100), (8, .int x29), (7, .int x25), (0, .ref this), (2, .int x4), (3, .int x8), (6, .int x17)]) hx hb dX11_work_235 hl (k := 6) rfl (by decide) (by decide) (fun _ => rfl) hf (fun x117 ls hf hl => ?_)
                refine lv_goto (tgt := 353) hx hb dX11_work_238 (by decide) ?_
                exact hj353_30 x100 x117 S115 _ _ _ hf hR hS hE ok_this (lv_sub hl [4, 5, 6, 1, 0, 7] rfl)
            · replace hf := if_f hf hc
              refine r_iinc (n := -1) (z := -1) (lv' := fun x118 => [(4, .int x118), (8, .int x29), (7, .int x25), (0, .ref this), (2, .int x4), (3, .int x8), (5, .int x16), (6, .int x17)]) hx hb dX11_work_161 hl (k := 5) rfl (by decide) (by decide) (fun _ => rfl) hf (fun x118 ls hf hl => ?_)
              refine lv_aload_n hx hb dX11_work_164 rfl (lv_at hl 3 rfl) ?_
              obtain ⟨q119, hq120, ok_q119, hf⟩ := gR_of hf
              refine gf_RX11_32 hC hR ok_this hq120 dX11_work_165 ?_
              refine lv_iload hx hb dX11_work_168 (lv_at hl 0 rfl) ?_
              refine lv_iconst (v := 1) hx hb dX11_work_170 (by decide) ?_
              refine lv_isub hx hb dX11_work_171 ?_
              refine lv_iload hx hb dX11_work_172 (lv_at hl 2 rfl) ?_
              refine lv_aload_n hx hb dX11_work_174 rfl (lv_at hl 3 rfl) ?_
              obtain ⟨q121, hq122, ok_q121, hf⟩ := gR_of hf
              refine gf_RX11_32 hC hR ok_this hq122 dX11_work_175 ?_
              refine lv_iload hx hb dX11_work_178 (lv_at hl 0 rfl) ?_
              refine lv_iconst (v := 1) hx hb dX11_work_180 (by decide) ?_
              refine lv_isub hx hb dX11_work_181 ?_
              obtain ⟨hi123, hf⟩ := ck_of hf
              refine r_lald hC hR ok_q121 hi123 dX11_work_182 ?_
              refine lv_aload_n hx hb dX11_work_183 rfl (lv_at hl 3 rfl) ?_
              obtain ⟨q124, hq125, ok_q124, hf⟩ := gR_of hf
              refine gf_RX11_32 hC hR ok_this hq125 dX11_work_184 ?_
              refine lv_iload hx hb dX11_work_187 (lv_at hl 0 rfl) ?_
              obtain ⟨hi126, hf⟩ := ck_of hf
              refine r_lald hC hR ok_q124 hi126 dX11_work_189 ?_
              obtain ⟨x130, S127, hc128, hf⟩ := cl_of hf
              refine cl_RX11_274 (As := [.int x25, .long (mJ S18 q121 (x118 - (1 : Int32)).toNatClampNeg), .long (mJ S18 q124 x118.toNatClampNeg)]) (rest := [.int (x118 - (1 : Int32)), .ref q119]) hC hR hS (c_X11_two l G n x25 (mJ S18 q121 (x118 - (1 : Int32)).toNatClampNeg) (mJ S18 q124 x118.toNatClampNeg) S18 x130 S127 hc128 ) rfl ⟨Nat.le_of_ble_eq_true rfl, Nat.le_of_ble_eq_true rfl⟩ hl.1 rfl (Nat.le_of_ble_eq_true rfl) dX11_work_190 (Nat.zero_le _) (Nat.zero_le _) (fun H locs hR hS hE129 => ?_)
              have ok_this := hE129 _ _ ok_this
              have ok_q19 := hE129 _ _ ok_q19
              have ok_q22 := hE129 _ _ ok_q22
              have ok_q26 := hE129 _ _ ok_q26
              have ok_q119 := hE129 _ _ ok_q119
              have ok_q121 := hE129 _ _ ok_q121
              have ok_q124 := hE129 _ _ ok_q124
              have hE := hE.tr hE129
              obtain ⟨hi131, hf⟩ := ck_of hf
              refine rB_last hC hR hS ok_q119 hi131 dX11_work_193 hf (fun S132 H locs hf hR hS hE133 => ?_)
              have ok_this := hE133 _ _ ok_this
              have ok_q19 := hE133 _ _ ok_q19
              have ok_q22 := hE133 _ _ ok_q22
              have ok_q26 := hE133 _ _ ok_q26
              have ok_q119 := hE133 _ _ ok_q119
              have ok_q121 := hE133 _ _ ok_q121
              have ok_q124 := hE133 _ _ ok_q124
              have hE := hE.tr hE133
              refine lv_goto (tgt := 353) hx hb dX11_work_194 (by decide) ?_
              exact hj353_30 x118 x16 S132 _ _ _ hf hR hS hE ok_this (lv_sub hl [3, 4, 5, 0, 6, 7] rfl)
          · replace hf := if_t hf hc
            refine lv_aload_n hx hb dX11_work_132 rfl (lv_at hl 2 rfl) ?_
            obtain ⟨q134, hq135, ok_q134, hf⟩ := gR_of hf
            refine gf_RX11_32 hC hR ok_this hq135 dX11_work_133 ?_
            refine lv_iload hx hb dX11_work_136 (lv_at hl 5 rfl) ?_
            refine lv_iconst (v := 1) hx hb dX11_work_138 (by decide) ?_
            refine lv_isub hx hb dX11_work_139 ?_
            refine lv_aload_n hx hb dX11_work_140 rfl (lv_at hl 2 rfl) ?_
            obtain ⟨q136, hq137, ok_q136, hf⟩ := gR_of hf
            refine gf_RX11_32 hC hR ok_this hq137 dX11_work_141 ?_
            refine lv_iload hx hb dX11_work_144 (lv_at hl 5 rfl) ?_
            refine lv_iconst (v := 1) hx hb dX11_work_146 (by decide) ?_
            refine lv_isub hx hb dX11_work_147 ?_
            obtain ⟨hi138, hf⟩ := ck_of hf
            refine r_lald hC hR ok_q136 hi138 dX11_work_148 ?_
            refine lv_lneg hx hb dX11_work_149 ?_
            obtain ⟨hi139, hf⟩ := ck_of hf
            refine rB_last hC hR hS ok_q134 hi139 dX11_work_150 hf (fun S140 H locs hf hR hS hE141 => ?_)
            have ok_this := hE141 _ _ ok_this
            have ok_q19 := hE141 _ _ ok_q19
            have ok_q22 := hE141 _ _ ok_q22
            have ok_q26 := hE141 _ _ ok_q26
            have ok_q134 := hE141 _ _ ok_q134
            have ok_q136 := hE141 _ _ ok_q136
            have hE := hE.tr hE141
            refine lv_goto (tgt := 353) hx hb dX11_work_151 (by decide) ?_
            exact hj353_30 x15 x16 S140 _ _ _ hf hR hS hE ok_this (lv_sub hl [2, 3, 4, 5, 6, 7] rfl)
        · replace hf := if_f hf hc
          refine lv_aload_n hx hb dX11_work_94 rfl (lv_at hl 2 rfl) ?_
          obtain ⟨q142, hq143, ok_q142, hf⟩ := gR_of hf
          refine gf_RX11_32 hC hR ok_this hq143 dX11_work_95 ?_
          refine lv_iload hx hb dX11_work_98 (lv_at hl 5 rfl) ?_
          refine lv_iload hx hb dX11_work_100 (lv_at hl 1 rfl) ?_
          obtain ⟨j119_145, ej119_145, hf⟩ := jn_of4 hf
          have hj119_144 : ∀ (q146 : Nat) (x147 : Int32) (x148 : Int64) (S149 : MS) (H : Heap) (locs : List Loc) (ls : Array Slot), j119_145 q146 x147 x148 S149 = some So → Rp G S149 H → va_S (gA G) s.heap H locs → Ex S S149 → Ok S149 this 11 → Ok S149 q146 13 → lv_has ls 9 [(0, .ref this), (2, .int x4), (3, .int x8), (4, .int x15), (5, .int x16), (6, .int x17)] → W p l e rX11_work s m args below meth c H locs 0 0 (MQ below (Qn G S none So) args s 0 0 (gA G)) (F0 m 119 ls [.long x148, .int x147, .ref q146]) := by
            intro q146 x147 x148 S149 H locs ls hf hR hS hE ok_this ok_q146 hl
            rw [ej119_145] at hf
            obtain ⟨hi150, hf⟩ := ck_of hf
            refine rB_last hC hR hS ok_q146 hi150 dX11_work_119 hf (fun S151 H locs hf hR hS hE152 => ?_)
            have ok_this := hE152 _ _ ok_this
            have ok_q146 := hE152 _ _ ok_q146
            have hE := hE.tr hE152
            refine r_iinc (n := 1) (z := 1) (lv' := fun x153 => [(4, .int x153), (0, .ref this), (2, .int x4), (3, .int x8), (5, .int x16), (6, .int x17)]) hx hb dX11_work_120 hl (k := 3) rfl (by decide) (by decide) (fun _ => rfl) hf (fun x153 ls hf hl => ?_)
            refine lv_goto (tgt := 353) hx hb dX11_work_123 (by decide) ?_
            exact hj353_30 x153 x16 S151 _ _ _ hf hR hS hE ok_this (lv_sub hl [1, 2, 3, 0, 4, 5] rfl)
          refine lv_if_ne (tgt := 111) hx hb dX11_work_102 (by decide) (fun hc => ?_) (fun hc => ?_)
          · replace hf := if_f hf hc
            refine lv_aload_n hx hb dX11_work_111 rfl (lv_at hl 2 rfl) ?_
            obtain ⟨q154, hq155, ok_q154, hf⟩ := gR_of hf
            refine gf_RX11_29 hC hR ok_this hq155 dX11_work_112 ?_
            refine lv_iload hx hb dX11_work_115 (lv_at hl 0 rfl) ?_
            obtain ⟨hi156, hf⟩ := ck_of hf
            refine r_iald hC hR ok_q154 hi156 dX11_work_117 ?_
            refine lv_i2l (v := ((mI S18 q154 x29.toNatClampNeg).toInt64)) hx hb dX11_work_118 rfl ?_
            exact hj119_144 q142 x15 ((mI S18 q154 x29.toNatClampNeg).toInt64) S18 _ _ _ hf hR hS hE ok_this ok_q142 (lv_sub hl [2, 3, 4, 5, 6, 7] rfl)
          · replace hf := if_t hf hc
            refine lv_iload hx hb dX11_work_105 (lv_at hl 0 rfl) ?_
            refine lv_i2l (v := (x29.toInt64)) hx hb dX11_work_107 rfl ?_
            refine lv_goto (tgt := 119) hx hb dX11_work_108 (by decide) ?_
            exact hj119_144 q142 x15 (x29.toInt64) S18 _ _ _ hf hR hS hE ok_this ok_q142 (lv_sub hl [2, 3, 4, 5, 6, 7] rfl)
  exact hh164 n (0 : Int32) (0 : Int32) x12 S _ _ _ hf hR hS hE ok_this (lv_sub hl [5, 4, 3, 2, 1, 0] rfl)
abbrev rX11_clauses : Room := { frames := 0, cells := 0, slots := 0, locals := 0 }
def f_X11_clauses (_n : Nat) (this : Nat) (S : MS) : Option (Int32 × MS) :=
  gR S (mR S this 0) 12 fun q1 => ck (inb (4 : Int32) (mN S q1)) ((if 0 ≤ (mI S q1 (4 : Int32).toNatClampNeg) then gR S (mR S this 5) 12 fun q4 => gR S (mR S this 0) 12 fun q6 => ck (inb (4 : Int32) (mN S q6)) (ck (inb ((700 : Int32) * (mI S q6 (4 : Int32).toNatClampNeg)) (mN S q4)) (some ((mI S q4 ((700 : Int32) * (mI S q6 (4 : Int32).toNatClampNeg)).toNatClampNeg), S))) else some ((0 : Int32), S)))
set_option maxRecDepth 100000 in
set_option maxHeartbeats 4000000 in
theorem c_X11_clauses (l : Launch) (G : Gx) (n : Nat) (this : Nat) (S : MS) (ro : Int32) (So : MS) (hf : f_X11_clauses n this S = some (ro, So)) (ok_this : Ok S this 11) : Cn G l yX11_clauses cX11_clauses 1 (some .int) rX11_clauses [.ref this] S (some (.int ro)) So := by
  refine Cn.of (by decide) (Nat.le_of_ble_eq_true rfl) ?_
  intro p e s m args below meth c hC hname hR ls hl
  have hC : Cx G RX11 cX11_clauses 1 (some .int) p s m args meth c := hC
  have hl : lv_has ls 1 [(0, .ref this)] := hl
  have hx := hC.x
  have hb := hC.b
  have hS : va_S (gA G) s.heap s.heap [] := va_S.rf
  have hE : Ex S S := Ex.rf S
  unfold f_X11_clauses at hf
  refine lv_aload_n hx hb dX11_clauses_0 rfl (lv_at hl 0 rfl) ?_
  obtain ⟨q1, hq2, ok_q1, hf⟩ := gR_of hf
  refine gf_RX11_7 hC hR ok_this hq2 dX11_clauses_1 ?_
  refine lv_iconst (v := 4) hx hb dX11_clauses_4 (by decide) ?_
  obtain ⟨hi3, hf⟩ := ck_of hf
  refine r_iald hC hR ok_q1 hi3 dX11_clauses_5 ?_
  refine lv_if_ge (tgt := 13) hx hb dX11_clauses_6 (by decide) (fun hc => ?_) (fun hc => ?_)
  · replace hf := if_t hf hc
    refine lv_aload_n hx hb dX11_clauses_13 rfl (lv_at hl 0 rfl) ?_
    obtain ⟨q4, hq5, ok_q4, hf⟩ := gR_of hf
    refine gf_RX11_13 hC hR ok_this hq5 dX11_clauses_14 ?_
    refine lv_sipush (v := 700) hx hb dX11_clauses_17 (by decide) ?_
    refine lv_aload_n hx hb dX11_clauses_20 rfl (lv_at hl 0 rfl) ?_
    obtain ⟨q6, hq7, ok_q6, hf⟩ := gR_of hf
    refine gf_RX11_7 hC hR ok_this hq7 dX11_clauses_21 ?_
    refine lv_iconst (v := 4) hx hb dX11_clauses_24 (by decide) ?_
    obtain ⟨hi8, hf⟩ := ck_of hf
    refine r_iald hC hR ok_q6 hi8 dX11_clauses_25 ?_
    refine lv_imul hx hb dX11_clauses_26 ?_
    obtain ⟨hi9, hf⟩ := ck_of hf
    refine r_iald hC hR ok_q4 hi9 dX11_clauses_27 ?_
    exact r_iret hC hR hS hE hf dX11_clauses_28
  · replace hf := if_f hf hc
    refine lv_iconst (v := 0) hx hb dX11_clauses_9 (by decide) ?_
    refine lv_goto (tgt := 28) hx hb dX11_clauses_10 (by decide) ?_
    exact r_iret hC hR hS hE hf dX11_clauses_28
abbrev rX11_sortAt : Room := { frames := 0, cells := 0, slots := 0, locals := 0 }
def f_X11_sortAt (_n : Nat) (this : Nat) (a1 : Int32) (S : MS) : Option (Int32 × MS) :=
  gR S (mR S this 5) 12 fun q1 => gR S (mR S this 0) 12 fun q3 => ck (inb (4 : Int32) (mN S q3)) (ck (inb ((((700 : Int32) * (mI S q3 (4 : Int32).toNatClampNeg)) + (1 : Int32)) + ((4 : Int32) * a1)) (mN S q1)) (some ((mI S q1 ((((700 : Int32) * (mI S q3 (4 : Int32).toNatClampNeg)) + (1 : Int32)) + ((4 : Int32) * a1)).toNatClampNeg), S)))
set_option maxRecDepth 100000 in
set_option maxHeartbeats 4000000 in
theorem c_X11_sortAt (l : Launch) (G : Gx) (n : Nat) (this : Nat) (a1 : Int32) (S : MS) (ro : Int32) (So : MS) (hf : f_X11_sortAt n this a1 S = some (ro, So)) (ok_this : Ok S this 11) : Cn G l yX11_sortAt cX11_sortAt 2 (some .int) rX11_sortAt [.ref this, .int a1] S (some (.int ro)) So := by
  refine Cn.of (by decide) (Nat.le_of_ble_eq_true rfl) ?_
  intro p e s m args below meth c hC hname hR ls hl
  have hC : Cx G RX11 cX11_sortAt 2 (some .int) p s m args meth c := hC
  have hl : lv_has ls 2 [(0, .ref this), (1, .int a1)] := hl
  have hx := hC.x
  have hb := hC.b
  have hS : va_S (gA G) s.heap s.heap [] := va_S.rf
  have hE : Ex S S := Ex.rf S
  unfold f_X11_sortAt at hf
  refine lv_aload_n hx hb dX11_sortAt_0 rfl (lv_at hl 0 rfl) ?_
  obtain ⟨q1, hq2, ok_q1, hf⟩ := gR_of hf
  refine gf_RX11_13 hC hR ok_this hq2 dX11_sortAt_1 ?_
  refine lv_sipush (v := 700) hx hb dX11_sortAt_4 (by decide) ?_
  refine lv_aload_n hx hb dX11_sortAt_7 rfl (lv_at hl 0 rfl) ?_
  obtain ⟨q3, hq4, ok_q3, hf⟩ := gR_of hf
  refine gf_RX11_7 hC hR ok_this hq4 dX11_sortAt_8 ?_
  refine lv_iconst (v := 4) hx hb dX11_sortAt_11 (by decide) ?_
  obtain ⟨hi5, hf⟩ := ck_of hf
  refine r_iald hC hR ok_q3 hi5 dX11_sortAt_12 ?_
  refine lv_imul hx hb dX11_sortAt_13 ?_
  refine lv_iconst (v := 1) hx hb dX11_sortAt_14 (by decide) ?_
  refine lv_iadd hx hb dX11_sortAt_15 ?_
  refine lv_iconst (v := 4) hx hb dX11_sortAt_16 (by decide) ?_
  refine lv_iload_n hx hb dX11_sortAt_17 rfl (lv_at hl 1 rfl) ?_
  refine lv_imul hx hb dX11_sortAt_18 ?_
  refine lv_iadd hx hb dX11_sortAt_19 ?_
  obtain ⟨hi6, hf⟩ := ck_of hf
  refine r_iald hC hR ok_q1 hi6 dX11_sortAt_20 ?_
  exact r_iret hC hR hS hE hf dX11_sortAt_21
abbrev rX11_clauseOf : Room := { frames := 1, cells := 0, slots := 0, locals := 21 }
def f_X11_clauseOf_L2 (n : Nat) (this : Nat) (a1 : Int32) : Nat → Int32 → MS → Option (Int32 × MS)
  | 0, _, _ => none
  | k + 1, x3, S4 => jn (f_X11_clauseOf_L2 n this a1 k) fun rec2_2 => cl (f_X11_clauses n this S4) fun x8 S5 => (if x8 ≤ x3 then some ((-1 : Int32), S5) else cl (f_X11_sortAt n this x3 S5) fun x12 S9 => (if x12 = a1 then some (x3, S9) else bd (x3 + (1 : Int32)) fun x13 => rec2_2 x13 S9))
def f_X11_clauseOf (n : Nat) (this : Nat) (a1 : Int32) (S : MS) : Option (Int32 × MS) :=
  f_X11_clauseOf_L2 n this a1 n (0 : Int32) S
set_option maxRecDepth 100000 in
set_option maxHeartbeats 4000000 in
theorem c_X11_clauseOf (l : Launch) (G : Gx) (n : Nat) (this : Nat) (a1 : Int32) (S : MS) (ro : Int32) (So : MS) (hf : f_X11_clauseOf n this a1 S = some (ro, So)) (ok_this : Ok S this 11) : Cn G l yX11_clauseOf cX11_clauseOf 3 (some .int) rX11_clauseOf [.ref this, .int a1] S (some (.int ro)) So := by
  refine Cn.of (by decide) (Nat.le_of_ble_eq_true rfl) ?_
  intro p e s m args below meth c hC hname hR ls hl
  have hC : Cx G RX11 cX11_clauseOf 3 (some .int) p s m args meth c := hC
  have hl : lv_has ls 3 [(0, .ref this), (1, .int a1)] := hl
  have hx := hC.x
  have hb := hC.b
  have hS : va_S (gA G) s.heap s.heap [] := va_S.rf
  have hE : Ex S S := Ex.rf S
  unfold f_X11_clauseOf at hf
  refine lv_iconst (v := 0) hx hb dX11_clauseOf_0 (by decide) ?_
  refine lv_istore_n (lv' := [(2, .int (0 : Int32)), (0, .ref this), (1, .int a1)]) hx hb dX11_clauseOf_1 rfl hl (by decide) rfl (fun ls hl => ?_)
  have hh14 : ∀ k : Nat, ∀ (x3 : Int32) (S4 : MS) (H : Heap) (locs : List Loc) (ls : Array Slot), f_X11_clauseOf_L2 n this a1 k x3 S4 = some (ro, So) → Rp G S4 H → va_S (gA G) s.heap H locs → Ex S S4 → Ok S4 this 11 → lv_has ls 3 [(0, .ref this), (1, .int a1), (2, .int x3)] → W p l e rX11_clauseOf s m args below meth c H locs 0 0 (MQ below (Qn G S (some (.int ro)) So) args s 0 0 (gA G)) (F0 m 2 ls []) := by
    intro k
    induction k with
    | zero =>
      intro x3 S4 H locs ls hf hR hS hE ok_this hl
      exact absurd hf (by rw [f_X11_clauseOf_L2]; exact fun h => by cases h)
    | succ k ih =>
      intro x3 S4 H locs ls hf hR hS hE ok_this hl
      rw [f_X11_clauseOf_L2] at hf
      obtain ⟨rec2_2, erec2_2, hf⟩ := jn_of2 hf
      have hL2_1 : ∀ (x3 : Int32) (S4 : MS) (H : Heap) (locs : List Loc) (ls : Array Slot), rec2_2 x3 S4 = some (ro, So) → Rp G S4 H → va_S (gA G) s.heap H locs → Ex S S4 → Ok S4 this 11 → lv_has ls 3 [(0, .ref this), (1, .int a1), (2, .int x3)] → W p l e rX11_clauseOf s m args below meth c H locs 0 0 (MQ below (Qn G S (some (.int ro)) So) args s 0 0 (gA G)) (F0 m 2 ls []) := by
        intro x3 S4 H locs ls hf hR hS hE ok_this hl
        rw [erec2_2] at hf
        exact ih x3 S4 _ _ _ hf hR hS hE ok_this hl
      refine lv_iload_n hx hb dX11_clauseOf_2 rfl (lv_at hl 2 rfl) ?_
      refine lv_aload_n hx hb dX11_clauseOf_3 rfl (lv_at hl 0 rfl) ?_
      obtain ⟨x8, S5, hc6, hf⟩ := cl_of hf
      refine cl_RX11_282 (As := []) (rest := [.int x3]) hC hR hS (c_X11_clauses l G n this S4 x8 S5 hc6 ok_this) ok_this rfl ⟨Nat.le_of_ble_eq_true rfl, Nat.le_of_ble_eq_true rfl⟩ hl.1 rfl (Nat.le_of_ble_eq_true rfl) dX11_clauseOf_4 (Nat.zero_le _) (Nat.zero_le _) (fun H locs hR hS hE7 => ?_)
      have ok_this := hE7 _ _ ok_this
      have hE := hE.tr hE7
      refine lv_icmp_ge (tgt := 27) hx hb dX11_clauseOf_7 (by decide) (fun hc => ?_) (fun hc => ?_)
      · replace hf := if_t hf hc
        refine lv_iconst (v := -1) hx hb dX11_clauseOf_27 (by decide) ?_
        exact r_iret hC hR hS hE hf dX11_clauseOf_28
      · replace hf := if_f hf hc
        refine lv_aload_n hx hb dX11_clauseOf_10 rfl (lv_at hl 0 rfl) ?_
        refine lv_iload_n hx hb dX11_clauseOf_11 rfl (lv_at hl 2 rfl) ?_
        obtain ⟨x12, S9, hc10, hf⟩ := cl_of hf
        refine cl_RX11_285 (As := [.int x3]) (rest := []) hC hR hS (c_X11_sortAt l G n this x3 S5 x12 S9 hc10 ok_this) ok_this rfl ⟨Nat.le_of_ble_eq_true rfl, Nat.le_of_ble_eq_true rfl⟩ hl.1 rfl (Nat.le_of_ble_eq_true rfl) dX11_clauseOf_12 (Nat.zero_le _) (Nat.zero_le _) (fun H locs hR hS hE11 => ?_)
        have ok_this := hE11 _ _ ok_this
        have hE := hE.tr hE11
        refine lv_iload_n hx hb dX11_clauseOf_15 rfl (lv_at hl 1 rfl) ?_
        refine lv_icmp_ne (tgt := 21) hx hb dX11_clauseOf_16 (by decide) (fun hc => ?_) (fun hc => ?_)
        · replace hf := if_f hf hc
          refine r_iinc (n := 1) (z := 1) (lv' := fun x13 => [(2, .int x13), (0, .ref this), (1, .int a1)]) hx hb dX11_clauseOf_21 hl (k := 2) rfl (by decide) (by decide) (fun _ => rfl) hf (fun x13 ls hf hl => ?_)
          refine lv_goto (tgt := 2) hx hb dX11_clauseOf_24 (by decide) ?_
          exact hL2_1 x13 S9 _ _ _ hf hR hS hE ok_this (lv_sub hl [1, 2, 0] rfl)
        · replace hf := if_t hf hc
          refine lv_iload_n hx hb dX11_clauseOf_19 rfl (lv_at hl 2 rfl) ?_
          exact r_iret hC hR hS hE hf dX11_clauseOf_20
  exact hh14 n (0 : Int32) S _ _ _ hf hR hS hE ok_this (lv_sub hl [1, 2, 0] rfl)
abbrev rX11_stepTo : Room := { frames := 1, cells := 0, slots := 0, locals := 22 }
def f_X11_stepTo (n : Nat) (this : Nat) (a1 : Int32) (a2 : Int32) (a3 : Int32) (S : MS) : Option (Int32 × MS) :=
  dv (mI S this 1) (bd ((a1 - a1 / (mI S this 1) * (mI S this 1)) + a2) fun x2 => dv (mI S this 1) (bd ((a1 / (mI S this 1)) + a3) fun x4 => cl (f_X11_isIn n x2 (0 : Int32) ((mI S this 1) - (1 : Int32)) S) fun x8 S5 => (if x8 = 0 then some ((-1 : Int32), S5) else cl (f_X11_isIn n x4 (0 : Int32) ((mI S5 this 2) - (1 : Int32)) S5) fun x12 S9 => (if x12 = 0 then some ((-1 : Int32), S9) else some ((x2 + ((mI S9 this 1) * x4)), S9)))))
set_option maxRecDepth 100000 in
set_option maxHeartbeats 4000000 in
theorem c_X11_stepTo (l : Launch) (G : Gx) (n : Nat) (this : Nat) (a1 : Int32) (a2 : Int32) (a3 : Int32) (S : MS) (ro : Int32) (So : MS) (hf : f_X11_stepTo n this a1 a2 a3 S = some (ro, So)) (ok_this : Ok S this 11) : Cn G l yX11_stepTo cX11_stepTo 6 (some .int) rX11_stepTo [.ref this, .int a1, .int a2, .int a3] S (some (.int ro)) So := by
  refine Cn.of (by decide) (Nat.le_of_ble_eq_true rfl) ?_
  intro p e s m args below meth c hC hname hR ls hl
  have hC : Cx G RX11 cX11_stepTo 6 (some .int) p s m args meth c := hC
  have hl : lv_has ls 6 [(0, .ref this), (1, .int a1), (2, .int a2), (3, .int a3)] := hl
  have hx := hC.x
  have hb := hC.b
  have hS : va_S (gA G) s.heap s.heap [] := va_S.rf
  have hE : Ex S S := Ex.rf S
  unfold f_X11_stepTo at hf
  refine lv_iload_n hx hb dX11_stepTo_0 rfl (lv_at hl 1 rfl) ?_
  refine lv_aload_n hx hb dX11_stepTo_1 rfl (lv_at hl 0 rfl) ?_
  refine gf_RX11_58 hC hR ok_this dX11_stepTo_2 ?_
  obtain ⟨hn1, hf⟩ := dv_of hf
  refine lv_irem hx hb dX11_stepTo_5 hn1 ?_
  refine lv_iload_n hx hb dX11_stepTo_6 rfl (lv_at hl 2 rfl) ?_
  refine lv_iadd hx hb dX11_stepTo_7 ?_
  refine bdi hf (fun x2 hf => ?_)
  refine lv_istore (lv' := [(4, .int x2), (0, .ref this), (1, .int a1), (2, .int a2), (3, .int a3)]) hx hb dX11_stepTo_8 hl (by decide) rfl (fun ls hl => ?_)
  refine lv_iload_n hx hb dX11_stepTo_10 rfl (lv_at hl 2 rfl) ?_
  refine lv_aload_n hx hb dX11_stepTo_11 rfl (lv_at hl 1 rfl) ?_
  refine gf_RX11_58 hC hR ok_this dX11_stepTo_12 ?_
  obtain ⟨hn3, hf⟩ := dv_of hf
  refine lv_idiv hx hb dX11_stepTo_15 hn3 ?_
  refine lv_iload_n hx hb dX11_stepTo_16 rfl (lv_at hl 4 rfl) ?_
  refine lv_iadd hx hb dX11_stepTo_17 ?_
  refine bdi hf (fun x4 hf => ?_)
  refine lv_istore (lv' := [(5, .int x4), (4, .int x2), (0, .ref this), (1, .int a1), (2, .int a2), (3, .int a3)]) hx hb dX11_stepTo_18 hl (by decide) rfl (fun ls hl => ?_)
  refine lv_iload hx hb dX11_stepTo_20 (lv_at hl 1 rfl) ?_
  refine lv_iconst (v := 0) hx hb dX11_stepTo_22 (by decide) ?_
  refine lv_aload_n hx hb dX11_stepTo_23 rfl (lv_at hl 2 rfl) ?_
  refine gf_RX11_58 hC hR ok_this dX11_stepTo_24 ?_
  refine lv_iconst (v := 1) hx hb dX11_stepTo_27 (by decide) ?_
  refine lv_isub hx hb dX11_stepTo_28 ?_
  obtain ⟨x8, S5, hc6, hf⟩ := cl_of hf
  refine cl_RX11_71 (As := [.int x2, .int (0 : Int32), .int ((mI S this 1) - (1 : Int32))]) (rest := []) hC hR hS (c_X11_isIn l G n x2 (0 : Int32) ((mI S this 1) - (1 : Int32)) S x8 S5 hc6 ) rfl ⟨Nat.le_of_ble_eq_true rfl, Nat.le_of_ble_eq_true rfl⟩ hl.1 rfl (Nat.le_of_ble_eq_true rfl) dX11_stepTo_29 (Nat.zero_le _) (Nat.zero_le _) (fun H locs hR hS hE7 => ?_)
  have ok_this := hE7 _ _ ok_this
  have hE := hE.tr hE7
  refine lv_if_eq (tgt := 63) hx hb dX11_stepTo_32 (by decide) (fun hc => ?_) (fun hc => ?_)
  · replace hf := if_t hf hc
    refine lv_iconst (v := -1) hx hb dX11_stepTo_63 (by decide) ?_
    exact r_iret hC hR hS hE hf dX11_stepTo_64
  · replace hf := if_f hf hc
    refine lv_iload hx hb dX11_stepTo_35 (lv_at hl 0 rfl) ?_
    refine lv_iconst (v := 0) hx hb dX11_stepTo_37 (by decide) ?_
    refine lv_aload_n hx hb dX11_stepTo_38 rfl (lv_at hl 2 rfl) ?_
    refine gf_RX11_61 hC hR ok_this dX11_stepTo_39 ?_
    refine lv_iconst (v := 1) hx hb dX11_stepTo_42 (by decide) ?_
    refine lv_isub hx hb dX11_stepTo_43 ?_
    obtain ⟨x12, S9, hc10, hf⟩ := cl_of hf
    refine cl_RX11_71 (As := [.int x4, .int (0 : Int32), .int ((mI S5 this 2) - (1 : Int32))]) (rest := []) hC hR hS (c_X11_isIn l G n x4 (0 : Int32) ((mI S5 this 2) - (1 : Int32)) S5 x12 S9 hc10 ) rfl ⟨Nat.le_of_ble_eq_true rfl, Nat.le_of_ble_eq_true rfl⟩ hl.1 rfl (Nat.le_of_ble_eq_true rfl) dX11_stepTo_44 (Nat.zero_le _) (Nat.zero_le _) (fun H locs hR hS hE11 => ?_)
    have ok_this := hE11 _ _ ok_this
    have hE := hE.tr hE11
    refine lv_if_eq (tgt := 63) hx hb dX11_stepTo_47 (by decide) (fun hc => ?_) (fun hc => ?_)
    · replace hf := if_t hf hc
      refine lv_iconst (v := -1) hx hb dX11_stepTo_63 (by decide) ?_
      exact r_iret hC hR hS hE hf dX11_stepTo_64
    · replace hf := if_f hf hc
      refine lv_iload hx hb dX11_stepTo_50 (lv_at hl 1 rfl) ?_
      refine lv_aload_n hx hb dX11_stepTo_52 rfl (lv_at hl 2 rfl) ?_
      refine gf_RX11_58 hC hR ok_this dX11_stepTo_53 ?_
      refine lv_iload hx hb dX11_stepTo_56 (lv_at hl 0 rfl) ?_
      refine lv_imul hx hb dX11_stepTo_58 ?_
      refine lv_iadd hx hb dX11_stepTo_59 ?_
      refine lv_goto (tgt := 64) hx hb dX11_stepTo_60 (by decide) ?_
      exact r_iret hC hR hS hE hf dX11_stepTo_64
abbrev rX11_sideOf : Room := { frames := 2, cells := 0, slots := 0, locals := 47 }
def f_X11_sideOf (n : Nat) (this : Nat) (a1 : Int32) (a2 : Int32) (S : MS) : Option (Int32 × MS) :=
  jn (fun (q3 : Nat) (x4 : Int32) (x5 : Int32) (S6 : MS) => (if a2 = (2 : Int32) then cl (f_X11_stepTo n q3 x4 x5 (1 : Int32) S6) fun x18 S15 => some (x18, S15) else (if a2 = 0 then cl (f_X11_stepTo n q3 x4 x5 (-1 : Int32) S6) fun x14 S11 => some (x14, S11) else cl (f_X11_stepTo n q3 x4 x5 (0 : Int32) S6) fun x10 S7 => some (x10, S7)))) fun j21_2 => (if a2 = (1 : Int32) then j21_2 this a1 (1 : Int32) S else (if a2 = (3 : Int32) then j21_2 this a1 (-1 : Int32) S else j21_2 this a1 (0 : Int32) S))
set_option maxRecDepth 100000 in
set_option maxHeartbeats 4000000 in
theorem c_X11_sideOf (l : Launch) (G : Gx) (n : Nat) (this : Nat) (a1 : Int32) (a2 : Int32) (S : MS) (ro : Int32) (So : MS) (hf : f_X11_sideOf n this a1 a2 S = some (ro, So)) (ok_this : Ok S this 11) : Cn G l yX11_sideOf cX11_sideOf 3 (some .int) rX11_sideOf [.ref this, .int a1, .int a2] S (some (.int ro)) So := by
  refine Cn.of (by decide) (Nat.le_of_ble_eq_true rfl) ?_
  intro p e s m args below meth c hC hname hR ls hl
  have hC : Cx G RX11 cX11_sideOf 3 (some .int) p s m args meth c := hC
  have hl : lv_has ls 3 [(0, .ref this), (1, .int a1), (2, .int a2)] := hl
  have hx := hC.x
  have hb := hC.b
  have hS : va_S (gA G) s.heap s.heap [] := va_S.rf
  have hE : Ex S S := Ex.rf S
  unfold f_X11_sideOf at hf
  refine lv_aload_n hx hb dX11_sideOf_0 rfl (lv_at hl 0 rfl) ?_
  refine lv_iload_n hx hb dX11_sideOf_1 rfl (lv_at hl 1 rfl) ?_
  refine lv_iload_n hx hb dX11_sideOf_2 rfl (lv_at hl 2 rfl) ?_
  refine lv_iconst (v := 1) hx hb dX11_sideOf_3 (by decide) ?_
  obtain ⟨j21_2, ej21_2, hf⟩ := jn_of4 hf
  have hj21_1 : ∀ (q3 : Nat) (x4 : Int32) (x5 : Int32) (S6 : MS) (H : Heap) (locs : List Loc) (ls : Array Slot), j21_2 q3 x4 x5 S6 = some (ro, So) → Rp G S6 H → va_S (gA G) s.heap H locs → Ex S S6 → Ok S6 q3 11 → lv_has ls 3 [(2, .int a2)] → W p l e rX11_sideOf s m args below meth c H locs 0 0 (MQ below (Qn G S (some (.int ro)) So) args s 0 0 (gA G)) (F0 m 21 ls [.int x5, .int x4, .ref q3]) := by
    intro q3 x4 x5 S6 H locs ls hf hR hS hE ok_q3 hl
    rw [ej21_2] at hf
    refine lv_iload_n hx hb dX11_sideOf_21 rfl (lv_at hl 0 rfl) ?_
    refine lv_iconst (v := 2) hx hb dX11_sideOf_22 (by decide) ?_
    refine lv_icmp_ne (tgt := 30) hx hb dX11_sideOf_23 (by decide) (fun hc => ?_) (fun hc => ?_)
    · replace hf := if_f hf hc
      refine lv_iload_n hx hb dX11_sideOf_30 rfl (lv_at hl 0 rfl) ?_
      refine lv_if_ne (tgt := 38) hx hb dX11_sideOf_31 (by decide) (fun hc => ?_) (fun hc => ?_)
      · replace hf := if_f hf hc
        refine lv_iconst (v := 0) hx hb dX11_sideOf_38 (by decide) ?_
        obtain ⟨x10, S7, hc8, hf⟩ := cl_of hf
        refine cl_RX11_288 (As := [.int x4, .int x5, .int (0 : Int32)]) (rest := []) hC hR hS (c_X11_stepTo l G n q3 x4 x5 (0 : Int32) S6 x10 S7 hc8 ok_q3) ok_q3 rfl ⟨Nat.le_of_ble_eq_true rfl, Nat.le_of_ble_eq_true rfl⟩ hl.1 rfl (Nat.le_of_ble_eq_true rfl) dX11_sideOf_39 (Nat.zero_le _) (Nat.zero_le _) (fun H locs hR hS hE9 => ?_)
        have ok_q3 := hE9 _ _ ok_q3
        have hE := hE.tr hE9
        exact r_iret hC hR hS hE hf dX11_sideOf_42
      · replace hf := if_t hf hc
        refine lv_iconst (v := -1) hx hb dX11_sideOf_34 (by decide) ?_
        refine lv_goto (tgt := 39) hx hb dX11_sideOf_35 (by decide) ?_
        obtain ⟨x14, S11, hc12, hf⟩ := cl_of hf
        refine cl_RX11_288 (As := [.int x4, .int x5, .int (-1 : Int32)]) (rest := []) hC hR hS (c_X11_stepTo l G n q3 x4 x5 (-1 : Int32) S6 x14 S11 hc12 ok_q3) ok_q3 rfl ⟨Nat.le_of_ble_eq_true rfl, Nat.le_of_ble_eq_true rfl⟩ hl.1 rfl (Nat.le_of_ble_eq_true rfl) dX11_sideOf_39 (Nat.zero_le _) (Nat.zero_le _) (fun H locs hR hS hE13 => ?_)
        have ok_q3 := hE13 _ _ ok_q3
        have hE := hE.tr hE13
        exact r_iret hC hR hS hE hf dX11_sideOf_42
    · replace hf := if_t hf hc
      refine lv_iconst (v := 1) hx hb dX11_sideOf_26 (by decide) ?_
      refine lv_goto (tgt := 39) hx hb dX11_sideOf_27 (by decide) ?_
      obtain ⟨x18, S15, hc16, hf⟩ := cl_of hf
      refine cl_RX11_288 (As := [.int x4, .int x5, .int (1 : Int32)]) (rest := []) hC hR hS (c_X11_stepTo l G n q3 x4 x5 (1 : Int32) S6 x18 S15 hc16 ok_q3) ok_q3 rfl ⟨Nat.le_of_ble_eq_true rfl, Nat.le_of_ble_eq_true rfl⟩ hl.1 rfl (Nat.le_of_ble_eq_true rfl) dX11_sideOf_39 (Nat.zero_le _) (Nat.zero_le _) (fun H locs hR hS hE17 => ?_)
      have ok_q3 := hE17 _ _ ok_q3
      have hE := hE.tr hE17
      exact r_iret hC hR hS hE hf dX11_sideOf_42
  refine lv_icmp_ne (tgt := 11) hx hb dX11_sideOf_4 (by decide) (fun hc => ?_) (fun hc => ?_)
  · replace hf := if_f hf hc
    refine lv_iload_n hx hb dX11_sideOf_11 rfl (lv_at hl 2 rfl) ?_
    refine lv_iconst (v := 3) hx hb dX11_sideOf_12 (by decide) ?_
    refine lv_icmp_ne (tgt := 20) hx hb dX11_sideOf_13 (by decide) (fun hc => ?_) (fun hc => ?_)
    · replace hf := if_f hf hc
      refine lv_iconst (v := 0) hx hb dX11_sideOf_20 (by decide) ?_
      exact hj21_1 this a1 (0 : Int32) S _ _ _ hf hR hS hE ok_this (lv_sub hl [2] rfl)
    · replace hf := if_t hf hc
      refine lv_iconst (v := -1) hx hb dX11_sideOf_16 (by decide) ?_
      refine lv_goto (tgt := 21) hx hb dX11_sideOf_17 (by decide) ?_
      exact hj21_1 this a1 (-1 : Int32) S _ _ _ hf hR hS hE ok_this (lv_sub hl [2] rfl)
  · replace hf := if_t hf hc
    refine lv_iconst (v := 1) hx hb dX11_sideOf_7 (by decide) ?_
    refine lv_goto (tgt := 21) hx hb dX11_sideOf_8 (by decide) ?_
    exact hj21_1 this a1 (1 : Int32) S _ _ _ hf hR hS hE ok_this (lv_sub hl [2] rfl)
abbrev rX11_nameBone : Room := { frames := 3, cells := 0, slots := 0, locals := 69 }
def f_X11_nameBone_L11 (n : Nat) (this : Nat) (a1 : Int32) (x4 : Int32) (j64_6 : Int32 → MS → Option (MS)) : Nat → Int32 → Int32 → MS → Option (MS)
  | 0, _, _, _ => none
  | k + 1, x53, x54, S55 => jn (f_X11_nameBone_L11 n this a1 x4 j64_6 k) fun rec11_52 => (if (4 : Int32) ≤ x54 then j64_6 x53 S55 else cl (f_X11_sideOf n this x4 x54 S55) fun x59 S56 => jn (fun (x62 : Int32) (x63 : Int32) (S64 : MS) => bd (x62 + x63) fun x65 => bd (x54 + (1 : Int32)) fun x66 => rec11_52 x65 x66 S64) fun j56_61 => jn (fun (x69 : Int32) (S70 : MS) => j56_61 x69 (0 : Int32) S70) fun j55_68 => (if x59 < 0 then j55_68 x53 S56 else gR S56 (mR S56 this 0) 12 fun q71 => ck (inb (((mI S56 this 4) + (290 : Int32)) + x59) (mN S56 q71)) ((if (mI S56 q71 (((mI S56 this 4) + (290 : Int32)) + x59).toNatClampNeg) ≤ 0 then j55_68 x53 S56 else j56_61 x53 (1 : Int32) S56))))
def f_X11_nameBone (n : Nat) (this : Nat) (a1 : Int32) (S : MS) : Option (MS) :=
  cl (f_X11_cellOf n this a1 S) fun x4 S1 => jn (fun (x7 : Int32) (S8 : MS) => gR S8 (mR S8 this 25) 12 fun q9 => gR S8 (mR S8 this 0) 12 fun q11 => ck (inb ((((mI S8 this 4) + (10 : Int32)) + ((3 : Int32) * a1)) + (1 : Int32)) (mN S8 q11)) (ck (inb (0 : Int32) (mN S8 q9)) (bd (sI S8 q9 (0 : Int32).toNatClampNeg (mI S8 q11 ((((mI S8 this 4) + (10 : Int32)) + ((3 : Int32) * a1)) + (1 : Int32)).toNatClampNeg)) fun S15 => gR S15 (mR S15 this 25) 12 fun q17 => gR S15 (mR S15 this 0) 12 fun q19 => ck (inb ((((mI S15 this 4) + (10 : Int32)) + ((3 : Int32) * a1)) + (2 : Int32)) (mN S15 q19)) (ck (inb (1 : Int32) (mN S15 q17)) (bd (sI S15 q17 (1 : Int32).toNatClampNeg (mI S15 q19 ((((mI S15 this 4) + (10 : Int32)) + ((3 : Int32) * a1)) + (2 : Int32)).toNatClampNeg)) fun S23 => gR S23 (mR S23 this 25) 12 fun q25 => ck (inb (2 : Int32) (mN S23 q25)) (bd (sI S23 q25 (2 : Int32).toNatClampNeg x7) fun S28 => gR S28 (mR S28 this 25) 12 fun q30 => dv (mI S28 this 1) (ck (inb (3 : Int32) (mN S28 q30)) (bd (sI S28 q30 (3 : Int32).toNatClampNeg (x4 - x4 / (mI S28 this 1) * (mI S28 this 1))) fun S34 => gR S34 (mR S34 this 25) 12 fun q36 => dv (mI S34 this 1) (ck (inb (4 : Int32) (mN S34 q36)) (bd (sI S34 q36 (4 : Int32).toNatClampNeg (x4 / (mI S34 this 1))) fun S40 => gR S40 (mR S40 this 25) 12 fun q42 => gR S40 (mR S40 this 0) 12 fun q44 => ck (inb ((mI S40 this 4) + (0 : Int32)) (mN S40 q44)) (dv (24 : Int32) (ck (inb (5 : Int32) (mN S40 q42)) (bd (sI S40 q42 (5 : Int32).toNatClampNeg ((mI S40 q44 ((mI S40 this 4) + (0 : Int32)).toNatClampNeg) - (mI S40 q44 ((mI S40 this 4) + (0 : Int32)).toNatClampNeg) / (24 : Int32) * (24 : Int32))) fun S49 => some S49))))))))))))) fun j64_6 => f_X11_nameBone_L11 n this a1 x4 j64_6 n (0 : Int32) (0 : Int32) S1
set_option maxRecDepth 100000 in
set_option maxHeartbeats 4000000 in
theorem c_X11_nameBone (l : Launch) (G : Gx) (n : Nat) (this : Nat) (a1 : Int32) (S : MS) (So : MS) (hf : f_X11_nameBone n this a1 S = some So) (ok_this : Ok S this 11) : Cn G l yX11_nameBone cX11_nameBone 6 none rX11_nameBone [.ref this, .int a1] S none So := by
  refine Cn.of (by decide) (Nat.le_of_ble_eq_true rfl) ?_
  intro p e s m args below meth c hC hname hR ls hl
  have hC : Cx G RX11 cX11_nameBone 6 none p s m args meth c := hC
  have hl : lv_has ls 6 [(0, .ref this), (1, .int a1)] := hl
  have hx := hC.x
  have hb := hC.b
  have hS : va_S (gA G) s.heap s.heap [] := va_S.rf
  have hE : Ex S S := Ex.rf S
  unfold f_X11_nameBone at hf
  refine lv_aload_n hx hb dX11_nameBone_0 rfl (lv_at hl 0 rfl) ?_
  refine lv_iload_n hx hb dX11_nameBone_1 rfl (lv_at hl 1 rfl) ?_
  obtain ⟨x4, S1, hc2, hf⟩ := cl_of hf
  refine cl_RX11_291 (As := [.int a1]) (rest := []) hC hR hS (c_X11_cellOf l G n this a1 S x4 S1 hc2 ok_this) ok_this rfl ⟨Nat.le_of_ble_eq_true rfl, Nat.le_of_ble_eq_true rfl⟩ hl.1 rfl (Nat.le_of_ble_eq_true rfl) dX11_nameBone_2 (Nat.zero_le _) (Nat.zero_le _) (fun H locs hR hS hE3 => ?_)
  have ok_this := hE3 _ _ ok_this
  have hE := hE.tr hE3
  refine lv_istore_n (lv' := [(2, .int x4), (0, .ref this), (1, .int a1)]) hx hb dX11_nameBone_5 rfl hl (by decide) rfl (fun ls hl => ?_)
  refine lv_iconst (v := 0) hx hb dX11_nameBone_6 (by decide) ?_
  refine lv_istore_n (lv' := [(3, .int (0 : Int32)), (2, .int x4), (0, .ref this), (1, .int a1)]) hx hb dX11_nameBone_7 rfl hl (by decide) rfl (fun ls hl => ?_)
  refine lv_iconst (v := 0) hx hb dX11_nameBone_8 (by decide) ?_
  refine lv_istore (lv' := [(4, .int (0 : Int32)), (3, .int (0 : Int32)), (2, .int x4), (0, .ref this), (1, .int a1)]) hx hb dX11_nameBone_9 hl (by decide) rfl (fun ls hl => ?_)
  obtain ⟨j64_6, ej64_6, hf⟩ := jn_of2 hf
  have hj64_5 : ∀ (x7 : Int32) (S8 : MS) (H : Heap) (locs : List Loc) (ls : Array Slot), j64_6 x7 S8 = some So → Rp G S8 H → va_S (gA G) s.heap H locs → Ex S S8 → Ok S8 this 11 → lv_has ls 6 [(0, .ref this), (1, .int a1), (2, .int x4), (3, .int x7)] → W p l e rX11_nameBone s m args below meth c H locs 0 0 (MQ below (Qn G S none So) args s 0 0 (gA G)) (F0 m 64 ls []) := by
    intro x7 S8 H locs ls hf hR hS hE ok_this hl
    rw [ej64_6] at hf
    refine lv_aload_n hx hb dX11_nameBone_64 rfl (lv_at hl 0 rfl) ?_
    obtain ⟨q9, hq10, ok_q9, hf⟩ := gR_of hf
    refine gf_RX11_29 hC hR ok_this hq10 dX11_nameBone_65 ?_
    refine lv_iconst (v := 0) hx hb dX11_nameBone_68 (by decide) ?_
    refine lv_aload_n hx hb dX11_nameBone_69 rfl (lv_at hl 0 rfl) ?_
    obtain ⟨q11, hq12, ok_q11, hf⟩ := gR_of hf
    refine gf_RX11_7 hC hR ok_this hq12 dX11_nameBone_70 ?_
    refine lv_aload_n hx hb dX11_nameBone_73 rfl (lv_at hl 0 rfl) ?_
    refine gf_RX11_75 hC hR ok_this dX11_nameBone_74 ?_
    refine lv_bipush (v := 10) hx hb dX11_nameBone_77 (by decide) ?_
    refine lv_iadd hx hb dX11_nameBone_79 ?_
    refine lv_iconst (v := 3) hx hb dX11_nameBone_80 (by decide) ?_
    refine lv_iload_n hx hb dX11_nameBone_81 rfl (lv_at hl 1 rfl) ?_
    refine lv_imul hx hb dX11_nameBone_82 ?_
    refine lv_iadd hx hb dX11_nameBone_83 ?_
    refine lv_iconst (v := 1) hx hb dX11_nameBone_84 (by decide) ?_
    refine lv_iadd hx hb dX11_nameBone_85 ?_
    obtain ⟨hi13, hf⟩ := ck_of hf
    refine r_iald hC hR ok_q11 hi13 dX11_nameBone_86 ?_
    obtain ⟨hi14, hf⟩ := ck_of hf
    refine rB_iast hC hR hS ok_q9 hi14 dX11_nameBone_87 hf (fun S15 H locs hf hR hS hE16 => ?_)
    have ok_this := hE16 _ _ ok_this
    have ok_q9 := hE16 _ _ ok_q9
    have ok_q11 := hE16 _ _ ok_q11
    have hE := hE.tr hE16
    refine lv_aload_n hx hb dX11_nameBone_88 rfl (lv_at hl 0 rfl) ?_
    obtain ⟨q17, hq18, ok_q17, hf⟩ := gR_of hf
    refine gf_RX11_29 hC hR ok_this hq18 dX11_nameBone_89 ?_
    refine lv_iconst (v := 1) hx hb dX11_nameBone_92 (by decide) ?_
    refine lv_aload_n hx hb dX11_nameBone_93 rfl (lv_at hl 0 rfl) ?_
    obtain ⟨q19, hq20, ok_q19, hf⟩ := gR_of hf
    refine gf_RX11_7 hC hR ok_this hq20 dX11_nameBone_94 ?_
    refine lv_aload_n hx hb dX11_nameBone_97 rfl (lv_at hl 0 rfl) ?_
    refine gf_RX11_75 hC hR ok_this dX11_nameBone_98 ?_
    refine lv_bipush (v := 10) hx hb dX11_nameBone_101 (by decide) ?_
    refine lv_iadd hx hb dX11_nameBone_103 ?_
    refine lv_iconst (v := 3) hx hb dX11_nameBone_104 (by decide) ?_
    refine lv_iload_n hx hb dX11_nameBone_105 rfl (lv_at hl 1 rfl) ?_
    refine lv_imul hx hb dX11_nameBone_106 ?_
    refine lv_iadd hx hb dX11_nameBone_107 ?_
    refine lv_iconst (v := 2) hx hb dX11_nameBone_108 (by decide) ?_
    refine lv_iadd hx hb dX11_nameBone_109 ?_
    obtain ⟨hi21, hf⟩ := ck_of hf
    refine r_iald hC hR ok_q19 hi21 dX11_nameBone_110 ?_
    obtain ⟨hi22, hf⟩ := ck_of hf
    refine rB_iast hC hR hS ok_q17 hi22 dX11_nameBone_111 hf (fun S23 H locs hf hR hS hE24 => ?_)
    have ok_this := hE24 _ _ ok_this
    have ok_q9 := hE24 _ _ ok_q9
    have ok_q11 := hE24 _ _ ok_q11
    have ok_q17 := hE24 _ _ ok_q17
    have ok_q19 := hE24 _ _ ok_q19
    have hE := hE.tr hE24
    refine lv_aload_n hx hb dX11_nameBone_112 rfl (lv_at hl 0 rfl) ?_
    obtain ⟨q25, hq26, ok_q25, hf⟩ := gR_of hf
    refine gf_RX11_29 hC hR ok_this hq26 dX11_nameBone_113 ?_
    refine lv_iconst (v := 2) hx hb dX11_nameBone_116 (by decide) ?_
    refine lv_iload_n hx hb dX11_nameBone_117 rfl (lv_at hl 3 rfl) ?_
    obtain ⟨hi27, hf⟩ := ck_of hf
    refine rB_iast hC hR hS ok_q25 hi27 dX11_nameBone_118 hf (fun S28 H locs hf hR hS hE29 => ?_)
    have ok_this := hE29 _ _ ok_this
    have ok_q9 := hE29 _ _ ok_q9
    have ok_q11 := hE29 _ _ ok_q11
    have ok_q17 := hE29 _ _ ok_q17
    have ok_q19 := hE29 _ _ ok_q19
    have ok_q25 := hE29 _ _ ok_q25
    have hE := hE.tr hE29
    refine lv_aload_n hx hb dX11_nameBone_119 rfl (lv_at hl 0 rfl) ?_
    obtain ⟨q30, hq31, ok_q30, hf⟩ := gR_of hf
    refine gf_RX11_29 hC hR ok_this hq31 dX11_nameBone_120 ?_
    refine lv_iconst (v := 3) hx hb dX11_nameBone_123 (by decide) ?_
    refine lv_iload_n hx hb dX11_nameBone_124 rfl (lv_at hl 2 rfl) ?_
    refine lv_aload_n hx hb dX11_nameBone_125 rfl (lv_at hl 0 rfl) ?_
    refine gf_RX11_58 hC hR ok_this dX11_nameBone_126 ?_
    obtain ⟨hn32, hf⟩ := dv_of hf
    refine lv_irem hx hb dX11_nameBone_129 hn32 ?_
    obtain ⟨hi33, hf⟩ := ck_of hf
    refine rB_iast hC hR hS ok_q30 hi33 dX11_nameBone_130 hf (fun S34 H locs hf hR hS hE35 => ?_)
    have ok_this := hE35 _ _ ok_this
    have ok_q9 := hE35 _ _ ok_q9
    have ok_q11 := hE35 _ _ ok_q11
    have ok_q17 := hE35 _ _ ok_q17
    have ok_q19 := hE35 _ _ ok_q19
    have ok_q25 := hE35 _ _ ok_q25
    have ok_q30 := hE35 _ _ ok_q30
    have hE := hE.tr hE35
    refine lv_aload_n hx hb dX11_nameBone_131 rfl (lv_at hl 0 rfl) ?_
    obtain ⟨q36, hq37, ok_q36, hf⟩ := gR_of hf
    refine gf_RX11_29 hC hR ok_this hq37 dX11_nameBone_132 ?_
    refine lv_iconst (v := 4) hx hb dX11_nameBone_135 (by decide) ?_
    refine lv_iload_n hx hb dX11_nameBone_136 rfl (lv_at hl 2 rfl) ?_
    refine lv_aload_n hx hb dX11_nameBone_137 rfl (lv_at hl 0 rfl) ?_
    refine gf_RX11_58 hC hR ok_this dX11_nameBone_138 ?_
    obtain ⟨hn38, hf⟩ := dv_of hf
    refine lv_idiv hx hb dX11_nameBone_141 hn38 ?_
    obtain ⟨hi39, hf⟩ := ck_of hf
    refine rB_iast hC hR hS ok_q36 hi39 dX11_nameBone_142 hf (fun S40 H locs hf hR hS hE41 => ?_)
    have ok_this := hE41 _ _ ok_this
    have ok_q9 := hE41 _ _ ok_q9
    have ok_q11 := hE41 _ _ ok_q11
    have ok_q17 := hE41 _ _ ok_q17
    have ok_q19 := hE41 _ _ ok_q19
    have ok_q25 := hE41 _ _ ok_q25
    have ok_q30 := hE41 _ _ ok_q30
    have ok_q36 := hE41 _ _ ok_q36
    have hE := hE.tr hE41
    refine lv_aload_n hx hb dX11_nameBone_143 rfl (lv_at hl 0 rfl) ?_
    obtain ⟨q42, hq43, ok_q42, hf⟩ := gR_of hf
    refine gf_RX11_29 hC hR ok_this hq43 dX11_nameBone_144 ?_
    refine lv_iconst (v := 5) hx hb dX11_nameBone_147 (by decide) ?_
    refine lv_aload_n hx hb dX11_nameBone_148 rfl (lv_at hl 0 rfl) ?_
    obtain ⟨q44, hq45, ok_q44, hf⟩ := gR_of hf
    refine gf_RX11_7 hC hR ok_this hq45 dX11_nameBone_149 ?_
    refine lv_aload_n hx hb dX11_nameBone_152 rfl (lv_at hl 0 rfl) ?_
    refine gf_RX11_75 hC hR ok_this dX11_nameBone_153 ?_
    refine lv_iconst (v := 0) hx hb dX11_nameBone_156 (by decide) ?_
    refine lv_iadd hx hb dX11_nameBone_157 ?_
    obtain ⟨hi46, hf⟩ := ck_of hf
    refine r_iald hC hR ok_q44 hi46 dX11_nameBone_158 ?_
    refine lv_bipush (v := 24) hx hb dX11_nameBone_159 (by decide) ?_
    obtain ⟨hn47, hf⟩ := dv_of hf
    refine lv_irem hx hb dX11_nameBone_161 hn47 ?_
    obtain ⟨hi48, hf⟩ := ck_of hf
    refine rB_iast hC hR hS ok_q42 hi48 dX11_nameBone_162 hf (fun S49 H locs hf hR hS hE50 => ?_)
    have ok_this := hE50 _ _ ok_this
    have ok_q9 := hE50 _ _ ok_q9
    have ok_q11 := hE50 _ _ ok_q11
    have ok_q17 := hE50 _ _ ok_q17
    have ok_q19 := hE50 _ _ ok_q19
    have ok_q25 := hE50 _ _ ok_q25
    have ok_q30 := hE50 _ _ ok_q30
    have ok_q36 := hE50 _ _ ok_q36
    have ok_q42 := hE50 _ _ ok_q42
    have ok_q44 := hE50 _ _ ok_q44
    have hE := hE.tr hE50
    exact r_vret hC hR hS hE hf dX11_nameBone_163
  have hh79 : ∀ k : Nat, ∀ (x53 : Int32) (x54 : Int32) (S55 : MS) (H : Heap) (locs : List Loc) (ls : Array Slot), f_X11_nameBone_L11 n this a1 x4 j64_6 k x53 x54 S55 = some So → Rp G S55 H → va_S (gA G) s.heap H locs → Ex S S55 → Ok S55 this 11 → lv_has ls 6 [(0, .ref this), (1, .int a1), (2, .int x4), (3, .int x53), (4, .int x54)] → W p l e rX11_nameBone s m args below meth c H locs 0 0 (MQ below (Qn G S none So) args s 0 0 (gA G)) (F0 m 11 ls []) := by
    intro k
    induction k with
    | zero =>
      intro x53 x54 S55 H locs ls hf hR hS hE ok_this hl
      exact absurd hf (by rw [f_X11_nameBone_L11]; exact fun h => by cases h)
    | succ k ih =>
      intro x53 x54 S55 H locs ls hf hR hS hE ok_this hl
      rw [f_X11_nameBone_L11] at hf
      obtain ⟨rec11_52, erec11_52, hf⟩ := jn_of3 hf
      have hL11_51 : ∀ (x53 : Int32) (x54 : Int32) (S55 : MS) (H : Heap) (locs : List Loc) (ls : Array Slot), rec11_52 x53 x54 S55 = some So → Rp G S55 H → va_S (gA G) s.heap H locs → Ex S S55 → Ok S55 this 11 → lv_has ls 6 [(0, .ref this), (1, .int a1), (2, .int x4), (3, .int x53), (4, .int x54)] → W p l e rX11_nameBone s m args below meth c H locs 0 0 (MQ below (Qn G S none So) args s 0 0 (gA G)) (F0 m 11 ls []) := by
        intro x53 x54 S55 H locs ls hf hR hS hE ok_this hl
        rw [erec11_52] at hf
        exact ih x53 x54 S55 _ _ _ hf hR hS hE ok_this hl
      refine lv_iload hx hb dX11_nameBone_11 (lv_at hl 4 rfl) ?_
      refine lv_iconst (v := 4) hx hb dX11_nameBone_13 (by decide) ?_
      refine lv_icmp_ge (tgt := 64) hx hb dX11_nameBone_14 (by decide) (fun hc => ?_) (fun hc => ?_)
      · replace hf := if_t hf hc
        exact hj64_5 x53 S55 _ _ _ hf hR hS hE ok_this (lv_sub hl [0, 1, 2, 3] rfl)
      · replace hf := if_f hf hc
        refine lv_aload_n hx hb dX11_nameBone_17 rfl (lv_at hl 0 rfl) ?_
        refine lv_iload_n hx hb dX11_nameBone_18 rfl (lv_at hl 2 rfl) ?_
        refine lv_iload hx hb dX11_nameBone_19 (lv_at hl 4 rfl) ?_
        obtain ⟨x59, S56, hc57, hf⟩ := cl_of hf
        refine cl_RX11_294 (As := [.int x4, .int x54]) (rest := []) hC hR hS (c_X11_sideOf l G n this x4 x54 S55 x59 S56 hc57 ok_this) ok_this rfl ⟨Nat.le_of_ble_eq_true rfl, Nat.le_of_ble_eq_true rfl⟩ hl.1 rfl (Nat.le_of_ble_eq_true rfl) dX11_nameBone_21 (Nat.zero_le _) (Nat.zero_le _) (fun H locs hR hS hE58 => ?_)
        have ok_this := hE58 _ _ ok_this
        have hE := hE.tr hE58
        refine lv_istore (lv' := [(5, .int x59), (0, .ref this), (1, .int a1), (2, .int x4), (3, .int x53), (4, .int x54)]) hx hb dX11_nameBone_24 hl (by decide) rfl (fun ls hl => ?_)
        refine lv_iload_n hx hb dX11_nameBone_26 rfl (lv_at hl 4 rfl) ?_
        refine lv_iload hx hb dX11_nameBone_27 (lv_at hl 0 rfl) ?_
        obtain ⟨j56_61, ej56_61, hf⟩ := jn_of3 hf
        have hj56_60 : ∀ (x62 : Int32) (x63 : Int32) (S64 : MS) (H : Heap) (locs : List Loc) (ls : Array Slot), j56_61 x62 x63 S64 = some So → Rp G S64 H → va_S (gA G) s.heap H locs → Ex S S64 → Ok S64 this 11 → lv_has ls 6 [(0, .ref this), (1, .int a1), (2, .int x4), (4, .int x54)] → W p l e rX11_nameBone s m args below meth c H locs 0 0 (MQ below (Qn G S none So) args s 0 0 (gA G)) (F0 m 56 ls [.int x63, .int x62]) := by
          intro x62 x63 S64 H locs ls hf hR hS hE ok_this hl
          rw [ej56_61] at hf
          refine lv_iadd hx hb dX11_nameBone_56 ?_
          refine bdi hf (fun x65 hf => ?_)
          refine lv_istore_n (lv' := [(3, .int x65), (0, .ref this), (1, .int a1), (2, .int x4), (4, .int x54)]) hx hb dX11_nameBone_57 rfl hl (by decide) rfl (fun ls hl => ?_)
          refine r_iinc (n := 1) (z := 1) (lv' := fun x66 => [(4, .int x66), (3, .int x65), (0, .ref this), (1, .int a1), (2, .int x4)]) hx hb dX11_nameBone_58 hl (k := 4) rfl (by decide) (by decide) (fun _ => rfl) hf (fun x66 ls hf hl => ?_)
          refine lv_goto (tgt := 11) hx hb dX11_nameBone_61 (by decide) ?_
          exact hL11_51 x65 x66 S64 _ _ _ hf hR hS hE ok_this (lv_sub hl [2, 3, 4, 1, 0] rfl)
        obtain ⟨j55_68, ej55_68, hf⟩ := jn_of2 hf
        have hj55_67 : ∀ (x69 : Int32) (S70 : MS) (H : Heap) (locs : List Loc) (ls : Array Slot), j55_68 x69 S70 = some So → Rp G S70 H → va_S (gA G) s.heap H locs → Ex S S70 → Ok S70 this 11 → lv_has ls 6 [(0, .ref this), (1, .int a1), (2, .int x4), (4, .int x54)] → W p l e rX11_nameBone s m args below meth c H locs 0 0 (MQ below (Qn G S none So) args s 0 0 (gA G)) (F0 m 55 ls [.int x69]) := by
          intro x69 S70 H locs ls hf hR hS hE ok_this hl
          rw [ej55_68] at hf
          refine lv_iconst (v := 0) hx hb dX11_nameBone_55 (by decide) ?_
          exact hj56_60 x69 (0 : Int32) S70 _ _ _ hf hR hS hE ok_this (lv_sub hl [0, 1, 2, 3] rfl)
        refine lv_if_lt (tgt := 55) hx hb dX11_nameBone_29 (by decide) (fun hc => ?_) (fun hc => ?_)
        · replace hf := if_t hf hc
          exact hj55_67 x53 S56 _ _ _ hf hR hS hE ok_this (lv_sub hl [1, 2, 3, 5] rfl)
        · replace hf := if_f hf hc
          refine lv_aload_n hx hb dX11_nameBone_32 rfl (lv_at hl 1 rfl) ?_
          obtain ⟨q71, hq72, ok_q71, hf⟩ := gR_of hf
          refine gf_RX11_7 hC hR ok_this hq72 dX11_nameBone_33 ?_
          refine lv_aload_n hx hb dX11_nameBone_36 rfl (lv_at hl 1 rfl) ?_
          refine gf_RX11_75 hC hR ok_this dX11_nameBone_37 ?_
          refine lv_sipush (v := 290) hx hb dX11_nameBone_40 (by decide) ?_
          refine lv_iadd hx hb dX11_nameBone_43 ?_
          refine lv_iload hx hb dX11_nameBone_44 (lv_at hl 0 rfl) ?_
          refine lv_iadd hx hb dX11_nameBone_46 ?_
          obtain ⟨hi73, hf⟩ := ck_of hf
          refine r_iald hC hR ok_q71 hi73 dX11_nameBone_47 ?_
          refine lv_if_le (tgt := 55) hx hb dX11_nameBone_48 (by decide) (fun hc => ?_) (fun hc => ?_)
          · replace hf := if_t hf hc
            exact hj55_67 x53 S56 _ _ _ hf hR hS hE ok_this (lv_sub hl [1, 2, 3, 5] rfl)
          · replace hf := if_f hf hc
            refine lv_iconst (v := 1) hx hb dX11_nameBone_51 (by decide) ?_
            refine lv_goto (tgt := 56) hx hb dX11_nameBone_52 (by decide) ?_
            exact hj56_60 x53 (1 : Int32) S56 _ _ _ hf hR hS hE ok_this (lv_sub hl [1, 2, 3, 5] rfl)
  exact hh79 n (0 : Int32) (0 : Int32) S1 _ _ _ hf hR hS hE ok_this (lv_sub hl [3, 4, 2, 1, 0] rfl)
abbrev rX11_holdOf : Room := { frames := 4, cells := 0, slots := 0, locals := 94 }
def f_X11_holdOf (n : Nat) (this : Nat) (a1 : Int32) (S : MS) : Option (Int32 × MS) :=
  cv (f_X11_nameBone n this a1 S) fun S1 => cl (f_X11_clauseOf n this (0 : Int32) S1) fun x7 S4 => (if 0 ≤ x7 then cv (f_X11_work n this x7 S4) fun S8 => gR S8 (mR S8 this 26) 13 fun q11 => ck (inb (0 : Int32) (mN S8 q11)) (some (((mJ S8 q11 (0 : Int32).toNatClampNeg).toInt32), S8)) else gR S4 (mR S4 this 25) 12 fun q14 => ck (inb (0 : Int32) (mN S4 q14)) (some ((mI S4 q14 (0 : Int32).toNatClampNeg), S4)))
set_option maxRecDepth 100000 in
set_option maxHeartbeats 4000000 in
theorem c_X11_holdOf (l : Launch) (G : Gx) (n : Nat) (this : Nat) (a1 : Int32) (S : MS) (ro : Int32) (So : MS) (hf : f_X11_holdOf n this a1 S = some (ro, So)) (ok_this : Ok S this 11) : Cn G l yX11_holdOf cX11_holdOf 3 (some .int) rX11_holdOf [.ref this, .int a1] S (some (.int ro)) So := by
  refine Cn.of (by decide) (Nat.le_of_ble_eq_true rfl) ?_
  intro p e s m args below meth c hC hname hR ls hl
  have hC : Cx G RX11 cX11_holdOf 3 (some .int) p s m args meth c := hC
  have hl : lv_has ls 3 [(0, .ref this), (1, .int a1)] := hl
  have hx := hC.x
  have hb := hC.b
  have hS : va_S (gA G) s.heap s.heap [] := va_S.rf
  have hE : Ex S S := Ex.rf S
  unfold f_X11_holdOf at hf
  refine lv_aload_n hx hb dX11_holdOf_0 rfl (lv_at hl 0 rfl) ?_
  refine lv_iload_n hx hb dX11_holdOf_1 rfl (lv_at hl 1 rfl) ?_
  obtain ⟨S1, hc2, hf⟩ := cv_of hf
  refine cl_RX11_297 (As := [.int a1]) (rest := []) hC hR hS (c_X11_nameBone l G n this a1 S S1 hc2 ok_this) ok_this rfl ⟨Nat.le_of_ble_eq_true rfl, Nat.le_of_ble_eq_true rfl⟩ hl.1 rfl (Nat.le_of_ble_eq_true rfl) dX11_holdOf_2 (Nat.zero_le _) (Nat.zero_le _) (fun H locs hR hS hE3 => ?_)
  have ok_this := hE3 _ _ ok_this
  have hE := hE.tr hE3
  refine lv_aload_n hx hb dX11_holdOf_5 rfl (lv_at hl 0 rfl) ?_
  refine lv_iconst (v := 0) hx hb dX11_holdOf_6 (by decide) ?_
  obtain ⟨x7, S4, hc5, hf⟩ := cl_of hf
  refine cl_RX11_300 (As := [.int (0 : Int32)]) (rest := []) hC hR hS (c_X11_clauseOf l G n this (0 : Int32) S1 x7 S4 hc5 ok_this) ok_this rfl ⟨Nat.le_of_ble_eq_true rfl, Nat.le_of_ble_eq_true rfl⟩ hl.1 rfl (Nat.le_of_ble_eq_true rfl) dX11_holdOf_7 (Nat.zero_le _) (Nat.zero_le _) (fun H locs hR hS hE6 => ?_)
  have ok_this := hE6 _ _ ok_this
  have hE := hE.tr hE6
  refine lv_istore_n (lv' := [(2, .int x7), (0, .ref this), (1, .int a1)]) hx hb dX11_holdOf_10 rfl hl (by decide) rfl (fun ls hl => ?_)
  refine lv_iload_n hx hb dX11_holdOf_11 rfl (lv_at hl 0 rfl) ?_
  refine lv_if_ge (tgt := 22) hx hb dX11_holdOf_12 (by decide) (fun hc => ?_) (fun hc => ?_)
  · replace hf := if_t hf hc
    refine lv_aload_n hx hb dX11_holdOf_22 rfl (lv_at hl 1 rfl) ?_
    refine lv_iload_n hx hb dX11_holdOf_23 rfl (lv_at hl 0 rfl) ?_
    obtain ⟨S8, hc9, hf⟩ := cv_of hf
    refine cl_RX11_303 (As := [.int x7]) (rest := []) hC hR hS (c_X11_work l G n this x7 S4 S8 hc9 ok_this) ok_this rfl ⟨Nat.le_of_ble_eq_true rfl, Nat.le_of_ble_eq_true rfl⟩ hl.1 rfl (Nat.le_of_ble_eq_true rfl) dX11_holdOf_24 (Nat.zero_le _) (Nat.zero_le _) (fun H locs hR hS hE10 => ?_)
    have ok_this := hE10 _ _ ok_this
    have hE := hE.tr hE10
    refine lv_aload_n hx hb dX11_holdOf_27 rfl (lv_at hl 1 rfl) ?_
    obtain ⟨q11, hq12, ok_q11, hf⟩ := gR_of hf
    refine gf_RX11_32 hC hR ok_this hq12 dX11_holdOf_28 ?_
    refine lv_iconst (v := 0) hx hb dX11_holdOf_31 (by decide) ?_
    obtain ⟨hi13, hf⟩ := ck_of hf
    refine r_lald hC hR ok_q11 hi13 dX11_holdOf_32 ?_
    refine lv_l2i (v := ((mJ S8 q11 (0 : Int32).toNatClampNeg).toInt32)) hx hb dX11_holdOf_33 rfl ?_
    exact r_iret hC hR hS hE hf dX11_holdOf_34
  · replace hf := if_f hf hc
    refine lv_aload_n hx hb dX11_holdOf_15 rfl (lv_at hl 1 rfl) ?_
    obtain ⟨q14, hq15, ok_q14, hf⟩ := gR_of hf
    refine gf_RX11_29 hC hR ok_this hq15 dX11_holdOf_16 ?_
    refine lv_iconst (v := 0) hx hb dX11_holdOf_19 (by decide) ?_
    obtain ⟨hi16, hf⟩ := ck_of hf
    refine r_iald hC hR ok_q14 hi16 dX11_holdOf_20 ?_
    exact r_iret hC hR hS hE hf dX11_holdOf_21
abbrev rX11_lay : Room := { frames := 1, cells := 0, slots := 0, locals := 21 }
def f_X11_lay (n : Nat) (this : Nat) (a1 : Int32) (a2 : Int32) (S : MS) : Option (MS) :=
  gR S (mR S this 0) 12 fun q1 => cl (f_X11_cellOf n this a1 S) fun x6 S3 => ck (inb (((mI S this 4) + (290 : Int32)) + x6) (mN S3 q1)) (bd (sI S3 q1 (((mI S this 4) + (290 : Int32)) + x6).toNatClampNeg (0 : Int32)) fun S8 => gR S8 (mR S8 this 0) 12 fun q10 => ck (inb (((mI S8 this 4) + (10 : Int32)) + ((3 : Int32) * a1)) (mN S8 q10)) (bd (sI S8 q10 (((mI S8 this 4) + (10 : Int32)) + ((3 : Int32) * a1)).toNatClampNeg a2) fun S13 => gR S13 (mR S13 this 0) 12 fun q15 => ck (inb (((mI S13 this 4) + (290 : Int32)) + a2) (mN S13 q15)) (bd (sI S13 q15 (((mI S13 this 4) + (290 : Int32)) + a2).toNatClampNeg (a1 + (1 : Int32))) fun S18 => gR S18 (mR S18 this 0) 12 fun q20 => ck (inb (((mI S18 this 4) + (240 : Int32)) + a2) (mN S18 q20)) (bd (sI S18 q20 (((mI S18 this 4) + (240 : Int32)) + a2).toNatClampNeg (-1 : Int32)) fun S23 => some S23))))
set_option maxRecDepth 100000 in
set_option maxHeartbeats 4000000 in
theorem c_X11_lay (l : Launch) (G : Gx) (n : Nat) (this : Nat) (a1 : Int32) (a2 : Int32) (S : MS) (So : MS) (hf : f_X11_lay n this a1 a2 S = some So) (ok_this : Ok S this 11) : Cn G l yX11_lay cX11_lay 3 none rX11_lay [.ref this, .int a1, .int a2] S none So := by
  refine Cn.of (by decide) (Nat.le_of_ble_eq_true rfl) ?_
  intro p e s m args below meth c hC hname hR ls hl
  have hC : Cx G RX11 cX11_lay 3 none p s m args meth c := hC
  have hl : lv_has ls 3 [(0, .ref this), (1, .int a1), (2, .int a2)] := hl
  have hx := hC.x
  have hb := hC.b
  have hS : va_S (gA G) s.heap s.heap [] := va_S.rf
  have hE : Ex S S := Ex.rf S
  unfold f_X11_lay at hf
  refine lv_aload_n hx hb dX11_lay_0 rfl (lv_at hl 0 rfl) ?_
  obtain ⟨q1, hq2, ok_q1, hf⟩ := gR_of hf
  refine gf_RX11_7 hC hR ok_this hq2 dX11_lay_1 ?_
  refine lv_aload_n hx hb dX11_lay_4 rfl (lv_at hl 0 rfl) ?_
  refine gf_RX11_75 hC hR ok_this dX11_lay_5 ?_
  refine lv_sipush (v := 290) hx hb dX11_lay_8 (by decide) ?_
  refine lv_iadd hx hb dX11_lay_11 ?_
  refine lv_aload_n hx hb dX11_lay_12 rfl (lv_at hl 0 rfl) ?_
  refine lv_iload_n hx hb dX11_lay_13 rfl (lv_at hl 1 rfl) ?_
  obtain ⟨x6, S3, hc4, hf⟩ := cl_of hf
  refine cl_RX11_291 (As := [.int a1]) (rest := [.int ((mI S this 4) + (290 : Int32)), .ref q1]) hC hR hS (c_X11_cellOf l G n this a1 S x6 S3 hc4 ok_this) ok_this rfl ⟨Nat.le_of_ble_eq_true rfl, Nat.le_of_ble_eq_true rfl⟩ hl.1 rfl (Nat.le_of_ble_eq_true rfl) dX11_lay_14 (Nat.zero_le _) (Nat.zero_le _) (fun H locs hR hS hE5 => ?_)
  have ok_this := hE5 _ _ ok_this
  have ok_q1 := hE5 _ _ ok_q1
  have hE := hE.tr hE5
  refine lv_iadd hx hb dX11_lay_17 ?_
  refine lv_iconst (v := 0) hx hb dX11_lay_18 (by decide) ?_
  obtain ⟨hi7, hf⟩ := ck_of hf
  refine rB_iast hC hR hS ok_q1 hi7 dX11_lay_19 hf (fun S8 H locs hf hR hS hE9 => ?_)
  have ok_this := hE9 _ _ ok_this
  have ok_q1 := hE9 _ _ ok_q1
  have hE := hE.tr hE9
  refine lv_aload_n hx hb dX11_lay_20 rfl (lv_at hl 0 rfl) ?_
  obtain ⟨q10, hq11, ok_q10, hf⟩ := gR_of hf
  refine gf_RX11_7 hC hR ok_this hq11 dX11_lay_21 ?_
  refine lv_aload_n hx hb dX11_lay_24 rfl (lv_at hl 0 rfl) ?_
  refine gf_RX11_75 hC hR ok_this dX11_lay_25 ?_
  refine lv_bipush (v := 10) hx hb dX11_lay_28 (by decide) ?_
  refine lv_iadd hx hb dX11_lay_30 ?_
  refine lv_iconst (v := 3) hx hb dX11_lay_31 (by decide) ?_
  refine lv_iload_n hx hb dX11_lay_32 rfl (lv_at hl 1 rfl) ?_
  refine lv_imul hx hb dX11_lay_33 ?_
  refine lv_iadd hx hb dX11_lay_34 ?_
  refine lv_iload_n hx hb dX11_lay_35 rfl (lv_at hl 2 rfl) ?_
  obtain ⟨hi12, hf⟩ := ck_of hf
  refine rB_iast hC hR hS ok_q10 hi12 dX11_lay_36 hf (fun S13 H locs hf hR hS hE14 => ?_)
  have ok_this := hE14 _ _ ok_this
  have ok_q1 := hE14 _ _ ok_q1
  have ok_q10 := hE14 _ _ ok_q10
  have hE := hE.tr hE14
  refine lv_aload_n hx hb dX11_lay_37 rfl (lv_at hl 0 rfl) ?_
  obtain ⟨q15, hq16, ok_q15, hf⟩ := gR_of hf
  refine gf_RX11_7 hC hR ok_this hq16 dX11_lay_38 ?_
  refine lv_aload_n hx hb dX11_lay_41 rfl (lv_at hl 0 rfl) ?_
  refine gf_RX11_75 hC hR ok_this dX11_lay_42 ?_
  refine lv_sipush (v := 290) hx hb dX11_lay_45 (by decide) ?_
  refine lv_iadd hx hb dX11_lay_48 ?_
  refine lv_iload_n hx hb dX11_lay_49 rfl (lv_at hl 2 rfl) ?_
  refine lv_iadd hx hb dX11_lay_50 ?_
  refine lv_iload_n hx hb dX11_lay_51 rfl (lv_at hl 1 rfl) ?_
  refine lv_iconst (v := 1) hx hb dX11_lay_52 (by decide) ?_
  refine lv_iadd hx hb dX11_lay_53 ?_
  obtain ⟨hi17, hf⟩ := ck_of hf
  refine rB_iast hC hR hS ok_q15 hi17 dX11_lay_54 hf (fun S18 H locs hf hR hS hE19 => ?_)
  have ok_this := hE19 _ _ ok_this
  have ok_q1 := hE19 _ _ ok_q1
  have ok_q10 := hE19 _ _ ok_q10
  have ok_q15 := hE19 _ _ ok_q15
  have hE := hE.tr hE19
  refine lv_aload_n hx hb dX11_lay_55 rfl (lv_at hl 0 rfl) ?_
  obtain ⟨q20, hq21, ok_q20, hf⟩ := gR_of hf
  refine gf_RX11_7 hC hR ok_this hq21 dX11_lay_56 ?_
  refine lv_aload_n hx hb dX11_lay_59 rfl (lv_at hl 0 rfl) ?_
  refine gf_RX11_75 hC hR ok_this dX11_lay_60 ?_
  refine lv_sipush (v := 240) hx hb dX11_lay_63 (by decide) ?_
  refine lv_iadd hx hb dX11_lay_66 ?_
  refine lv_iload_n hx hb dX11_lay_67 rfl (lv_at hl 2 rfl) ?_
  refine lv_iadd hx hb dX11_lay_68 ?_
  refine lv_iconst (v := -1) hx hb dX11_lay_69 (by decide) ?_
  obtain ⟨hi22, hf⟩ := ck_of hf
  refine rB_iast hC hR hS ok_q20 hi22 dX11_lay_70 hf (fun S23 H locs hf hR hS hE24 => ?_)
  have ok_this := hE24 _ _ ok_this
  have ok_q1 := hE24 _ _ ok_q1
  have ok_q10 := hE24 _ _ ok_q10
  have ok_q15 := hE24 _ _ ok_q15
  have ok_q20 := hE24 _ _ ok_q20
  have hE := hE.tr hE24
  exact r_vret hC hR hS hE hf dX11_lay_71
abbrev rX11_goes : Room := { frames := 5, cells := 0, slots := 0, locals := 116 }
def f_X11_goes_L144 (n : Nat) (this : Nat) (a1 : Int32) (x1 : Int32) (x24 : Int32) (j187_42 : Int32 → MS → Option (Int32 × MS)) (j200_31 : Int32 → MS → Option (Int32 × MS)) : Nat → Int32 → Int32 → MS → Option (Int32 × MS)
  | 0, _, _, _ => none
  | k + 1, x47, x48, S49 => jn (f_X11_goes_L144 n this a1 x1 x24 j187_42 j200_31 k) fun rec144_46 => (if x24 ≤ x48 then j200_31 x47 S49 else gR S49 (mR S49 this 0) 12 fun q50 => ck (inb x1 (mN S49 q50)) (gR S49 (mR S49 this 0) 12 fun q53 => ck (inb (x1 + (1 : Int32)) (mN S49 q53)) (cl (f_X11_stepTo n this x47 (mI S49 q50 x1.toNatClampNeg) (mI S49 q53 (x1 + (1 : Int32)).toNatClampNeg) S49) fun x59 S56 => (if x59 < 0 then j200_31 x47 S56 else cl (f_X11_isFree n this x59 S56) fun x63 S60 => (if x63 = 0 then j187_42 x47 S60 else bd (x48 + (1 : Int32)) fun x64 => rec144_46 x59 x64 S60)))))
def f_X11_goes (n : Nat) (this : Nat) (a1 : Int32) (a2 : Int32) (S : MS) : Option (Int32 × MS) :=
  bd ((100 : Int32) + ((4 : Int32) * a2)) fun x1 => gR S (mR S this 0) 12 fun q2 => ck (inb (x1 + (2 : Int32)) (mN S q2)) (cl (f_X11_holdOf n this a1 S) fun x8 S5 => bd ((mI S q2 (x1 + (2 : Int32)).toNatClampNeg) - x8) fun x9 => (if x9 ≤ 0 then zb (0 : Int32) (some ((0 : Int32), S5)) else gR S5 (mR S5 this 0) 12 fun q10 => ck (inb x1 (mN S5 q10)) (jn (fun (S15 : MS) => dv (20 : Int32) (bd ((1 : Int32) + (x9 / (20 : Int32))) fun x17 => cl (f_X11_clauseOf n this (1 : Int32) S15) fun x21 S18 => jn (fun (x24 : Int32) (S25 : MS) => cl (f_X11_cellOf n this a1 S25) fun x29 S26 => jn (fun (x32 : Int32) (S33 : MS) => cl (f_X11_cellOf n this a1 S33) fun x37 S34 => (if x32 = x37 then zb (0 : Int32) (some ((0 : Int32), S34)) else cv (f_X11_lay n this a1 x32 S34) fun S38 => zb (1 : Int32) (some ((1 : Int32), S38)))) fun j200_31 => jn (fun (x43 : Int32) (S44 : MS) => j200_31 x43 S44) fun j187_42 => f_X11_goes_L144 n this a1 x1 x24 j187_42 j200_31 n x29 (0 : Int32) S26) fun j134_23 => (if x21 < 0 then jn (fun (x72 : Int32) (S73 : MS) => j134_23 x72 S73) fun j132_71 => (if x17 ≤ (9 : Int32) then j132_71 x17 S18 else j132_71 (9 : Int32) S18) else gR S18 (mR S18 this 25) 12 fun q76 => gR S18 (mR S18 this 0) 12 fun q78 => ck (inb (x1 + (2 : Int32)) (mN S18 q78)) (ck (inb (6 : Int32) (mN S18 q76)) (bd (sI S18 q76 (6 : Int32).toNatClampNeg (mI S18 q78 (x1 + (2 : Int32)).toNatClampNeg)) fun S82 => gR S82 (mR S82 this 25) 12 fun q84 => ck (inb (7 : Int32) (mN S82 q84)) (bd (sI S82 q84 (7 : Int32).toNatClampNeg x9) fun S87 => cv (f_X11_work n this x21 S87) fun S89 => gR S89 (mR S89 this 26) 13 fun q92 => ck (inb (0 : Int32) (mN S89 q92)) (cl (f_X11_held n (mJ S89 q92 (0 : Int32).toNatClampNeg) (0 : Int32) (9 : Int32) S89) fun x98 S95 => j134_23 x98 S95))))))) fun j50_14 => (if (mI S5 q10 x1.toNatClampNeg) = 0 then gR S5 (mR S5 this 0) 12 fun q101 => ck (inb (x1 + (1 : Int32)) (mN S5 q101)) ((if (mI S5 q101 (x1 + (1 : Int32)).toNatClampNeg) = 0 then zb (0 : Int32) (some ((0 : Int32), S5)) else j50_14 S5)) else j50_14 S5))))
set_option maxRecDepth 100000 in
set_option maxHeartbeats 4000000 in
theorem c_X11_goes (l : Launch) (G : Gx) (n : Nat) (this : Nat) (a1 : Int32) (a2 : Int32) (S : MS) (ro : Int32) (So : MS) (hf : f_X11_goes n this a1 a2 S = some (ro, So)) (ok_this : Ok S this 11) : Cn G l yX11_goes cX11_goes 10 (some .boolean) rX11_goes [.ref this, .int a1, .int a2] S (some (.int ro)) So := by
  refine Cn.of (by decide) (Nat.le_of_ble_eq_true rfl) ?_
  intro p e s m args below meth c hC hname hR ls hl
  have hC : Cx G RX11 cX11_goes 10 (some .boolean) p s m args meth c := hC
  have hl : lv_has ls 10 [(0, .ref this), (1, .int a1), (2, .int a2)] := hl
  have hx := hC.x
  have hb := hC.b
  have hS : va_S (gA G) s.heap s.heap [] := va_S.rf
  have hE : Ex S S := Ex.rf S
  unfold f_X11_goes at hf
  refine lv_bipush (v := 100) hx hb dX11_goes_0 (by decide) ?_
  refine lv_iconst (v := 4) hx hb dX11_goes_2 (by decide) ?_
  refine lv_iload_n hx hb dX11_goes_3 rfl (lv_at hl 2 rfl) ?_
  refine lv_imul hx hb dX11_goes_4 ?_
  refine lv_iadd hx hb dX11_goes_5 ?_
  refine bdi hf (fun x1 hf => ?_)
  refine lv_istore_n (lv' := [(3, .int x1), (0, .ref this), (1, .int a1), (2, .int a2)]) hx hb dX11_goes_6 rfl hl (by decide) rfl (fun ls hl => ?_)
  refine lv_aload_n hx hb dX11_goes_7 rfl (lv_at hl 1 rfl) ?_
  obtain ⟨q2, hq3, ok_q2, hf⟩ := gR_of hf
  refine gf_RX11_7 hC hR ok_this hq3 dX11_goes_8 ?_
  refine lv_iload_n hx hb dX11_goes_11 rfl (lv_at hl 0 rfl) ?_
  refine lv_iconst (v := 2) hx hb dX11_goes_12 (by decide) ?_
  refine lv_iadd hx hb dX11_goes_13 ?_
  obtain ⟨hi4, hf⟩ := ck_of hf
  refine r_iald hC hR ok_q2 hi4 dX11_goes_14 ?_
  refine lv_aload_n hx hb dX11_goes_15 rfl (lv_at hl 1 rfl) ?_
  refine lv_iload_n hx hb dX11_goes_16 rfl (lv_at hl 2 rfl) ?_
  obtain ⟨x8, S5, hc6, hf⟩ := cl_of hf
  refine cl_RX11_306 (As := [.int a1]) (rest := [.int (mI S q2 (x1 + (2 : Int32)).toNatClampNeg)]) hC hR hS (c_X11_holdOf l G n this a1 S x8 S5 hc6 ok_this) ok_this rfl ⟨Nat.le_of_ble_eq_true rfl, Nat.le_of_ble_eq_true rfl⟩ hl.1 rfl (Nat.le_of_ble_eq_true rfl) dX11_goes_17 (Nat.zero_le _) (Nat.zero_le _) (fun H locs hR hS hE7 => ?_)
  have ok_this := hE7 _ _ ok_this
  have ok_q2 := hE7 _ _ ok_q2
  have hE := hE.tr hE7
  refine lv_isub hx hb dX11_goes_20 ?_
  refine bdi hf (fun x9 hf => ?_)
  refine lv_istore (lv' := [(4, .int x9), (3, .int x1), (0, .ref this), (1, .int a1), (2, .int a2)]) hx hb dX11_goes_21 hl (by decide) rfl (fun ls hl => ?_)
  refine lv_iload hx hb dX11_goes_23 (lv_at hl 0 rfl) ?_
  refine lv_if_le (tgt := 48) hx hb dX11_goes_25 (by decide) (fun hc => ?_) (fun hc => ?_)
  · replace hf := if_t hf hc
    refine lv_iconst (v := 0) hx hb dX11_goes_48 (by decide) ?_
    exact r_zret hC hR hS hE hf dX11_goes_49
  · replace hf := if_f hf hc
    refine lv_aload_n hx hb dX11_goes_28 rfl (lv_at hl 2 rfl) ?_
    obtain ⟨q10, hq11, ok_q10, hf⟩ := gR_of hf
    refine gf_RX11_7 hC hR ok_this hq11 dX11_goes_29 ?_
    refine lv_iload_n hx hb dX11_goes_32 rfl (lv_at hl 1 rfl) ?_
    obtain ⟨hi12, hf⟩ := ck_of hf
    refine r_iald hC hR ok_q10 hi12 dX11_goes_33 ?_
    obtain ⟨j50_14, ej50_14, hf⟩ := jn_of1 hf
    have hj50_13 : ∀ (S15 : MS) (H : Heap) (locs : List Loc) (ls : Array Slot), j50_14 S15 = some (ro, So) → Rp G S15 H → va_S (gA G) s.heap H locs → Ex S S15 → Ok S15 this 11 → lv_has ls 10 [(0, .ref this), (1, .int a1), (3, .int x1), (4, .int x9)] → W p l e rX11_goes s m args below meth c H locs 0 0 (MQ below (Qn G S (some (.int ro)) So) args s 0 0 (gA G)) (F0 m 50 ls []) := by
      intro S15 H locs ls hf hR hS hE ok_this hl
      rw [ej50_14] at hf
      refine lv_iconst (v := 1) hx hb dX11_goes_50 (by decide) ?_
      refine lv_iload hx hb dX11_goes_51 (lv_at hl 3 rfl) ?_
      refine lv_bipush (v := 20) hx hb dX11_goes_53 (by decide) ?_
      obtain ⟨hn16, hf⟩ := dv_of hf
      refine lv_idiv hx hb dX11_goes_55 hn16 ?_
      refine lv_iadd hx hb dX11_goes_56 ?_
      refine bdi hf (fun x17 hf => ?_)
      refine lv_istore (lv' := [(5, .int x17), (0, .ref this), (1, .int a1), (3, .int x1), (4, .int x9)]) hx hb dX11_goes_57 hl (by decide) rfl (fun ls hl => ?_)
      refine lv_aload_n hx hb dX11_goes_59 rfl (lv_at hl 1 rfl) ?_
      refine lv_iconst (v := 1) hx hb dX11_goes_60 (by decide) ?_
      obtain ⟨x21, S18, hc19, hf⟩ := cl_of hf
      refine cl_RX11_300 (As := [.int (1 : Int32)]) (rest := []) hC hR hS (c_X11_clauseOf l G n this (1 : Int32) S15 x21 S18 hc19 ok_this) ok_this rfl ⟨Nat.le_of_ble_eq_true rfl, Nat.le_of_ble_eq_true rfl⟩ hl.1 rfl (Nat.le_of_ble_eq_true rfl) dX11_goes_61 (Nat.zero_le _) (Nat.zero_le _) (fun H locs hR hS hE20 => ?_)
      have ok_this := hE20 _ _ ok_this
      have hE := hE.tr hE20
      refine lv_istore (lv' := [(6, .int x21), (5, .int x17), (0, .ref this), (1, .int a1), (3, .int x1), (4, .int x9)]) hx hb dX11_goes_64 hl (by decide) rfl (fun ls hl => ?_)
      refine lv_iload hx hb dX11_goes_66 (lv_at hl 0 rfl) ?_
      obtain ⟨j134_23, ej134_23, hf⟩ := jn_of2 hf
      have hj134_22 : ∀ (x24 : Int32) (S25 : MS) (H : Heap) (locs : List Loc) (ls : Array Slot), j134_23 x24 S25 = some (ro, So) → Rp G S25 H → va_S (gA G) s.heap H locs → Ex S S25 → Ok S25 this 11 → lv_has ls 10 [(0, .ref this), (1, .int a1), (3, .int x1), (5, .int x24)] → W p l e rX11_goes s m args below meth c H locs 0 0 (MQ below (Qn G S (some (.int ro)) So) args s 0 0 (gA G)) (F0 m 134 ls []) := by
        intro x24 S25 H locs ls hf hR hS hE ok_this hl
        rw [ej134_23] at hf
        refine lv_aload_n hx hb dX11_goes_134 rfl (lv_at hl 0 rfl) ?_
        refine lv_iload_n hx hb dX11_goes_135 rfl (lv_at hl 1 rfl) ?_
        obtain ⟨x29, S26, hc27, hf⟩ := cl_of hf
        refine cl_RX11_291 (As := [.int a1]) (rest := []) hC hR hS (c_X11_cellOf l G n this a1 S25 x29 S26 hc27 ok_this) ok_this rfl ⟨Nat.le_of_ble_eq_true rfl, Nat.le_of_ble_eq_true rfl⟩ hl.1 rfl (Nat.le_of_ble_eq_true rfl) dX11_goes_136 (Nat.zero_le _) (Nat.zero_le _) (fun H locs hR hS hE28 => ?_)
        have ok_this := hE28 _ _ ok_this
        have hE := hE.tr hE28
        refine lv_istore (lv' := [(7, .int x29), (0, .ref this), (1, .int a1), (3, .int x1), (5, .int x24)]) hx hb dX11_goes_139 hl (by decide) rfl (fun ls hl => ?_)
        refine lv_iconst (v := 0) hx hb dX11_goes_141 (by decide) ?_
        refine lv_istore (lv' := [(8, .int (0 : Int32)), (7, .int x29), (0, .ref this), (1, .int a1), (3, .int x1), (5, .int x24)]) hx hb dX11_goes_142 hl (by decide) rfl (fun ls hl => ?_)
        obtain ⟨j200_31, ej200_31, hf⟩ := jn_of2 hf
        have hj200_30 : ∀ (x32 : Int32) (S33 : MS) (H : Heap) (locs : List Loc) (ls : Array Slot), j200_31 x32 S33 = some (ro, So) → Rp G S33 H → va_S (gA G) s.heap H locs → Ex S S33 → Ok S33 this 11 → lv_has ls 10 [(0, .ref this), (1, .int a1), (7, .int x32)] → W p l e rX11_goes s m args below meth c H locs 0 0 (MQ below (Qn G S (some (.int ro)) So) args s 0 0 (gA G)) (F0 m 200 ls []) := by
          intro x32 S33 H locs ls hf hR hS hE ok_this hl
          rw [ej200_31] at hf
          refine lv_iload hx hb dX11_goes_200 (lv_at hl 2 rfl) ?_
          refine lv_aload_n hx hb dX11_goes_202 rfl (lv_at hl 0 rfl) ?_
          refine lv_iload_n hx hb dX11_goes_203 rfl (lv_at hl 1 rfl) ?_
          obtain ⟨x37, S34, hc35, hf⟩ := cl_of hf
          refine cl_RX11_291 (As := [.int a1]) (rest := [.int x32]) hC hR hS (c_X11_cellOf l G n this a1 S33 x37 S34 hc35 ok_this) ok_this rfl ⟨Nat.le_of_ble_eq_true rfl, Nat.le_of_ble_eq_true rfl⟩ hl.1 rfl (Nat.le_of_ble_eq_true rfl) dX11_goes_204 (Nat.zero_le _) (Nat.zero_le _) (fun H locs hR hS hE36 => ?_)
          have ok_this := hE36 _ _ ok_this
          have hE := hE.tr hE36
          refine lv_icmp_ne (tgt := 212) hx hb dX11_goes_207 (by decide) (fun hc => ?_) (fun hc => ?_)
          · replace hf := if_f hf hc
            refine lv_aload_n hx hb dX11_goes_212 rfl (lv_at hl 0 rfl) ?_
            refine lv_iload_n hx hb dX11_goes_213 rfl (lv_at hl 1 rfl) ?_
            refine lv_iload hx hb dX11_goes_214 (lv_at hl 2 rfl) ?_
            obtain ⟨S38, hc39, hf⟩ := cv_of hf
            refine cl_RX11_313 (As := [.int a1, .int x32]) (rest := []) hC hR hS (c_X11_lay l G n this a1 x32 S34 S38 hc39 ok_this) ok_this rfl ⟨Nat.le_of_ble_eq_true rfl, Nat.le_of_ble_eq_true rfl⟩ hl.1 rfl (Nat.le_of_ble_eq_true rfl) dX11_goes_216 (Nat.zero_le _) (Nat.zero_le _) (fun H locs hR hS hE40 => ?_)
            have ok_this := hE40 _ _ ok_this
            have hE := hE.tr hE40
            refine lv_iconst (v := 1) hx hb dX11_goes_219 (by decide) ?_
            exact r_zret hC hR hS hE hf dX11_goes_220
          · replace hf := if_t hf hc
            refine lv_iconst (v := 0) hx hb dX11_goes_210 (by decide) ?_
            exact r_zret hC hR hS hE hf dX11_goes_211
        obtain ⟨j187_42, ej187_42, hf⟩ := jn_of2 hf
        have hj187_41 : ∀ (x43 : Int32) (S44 : MS) (H : Heap) (locs : List Loc) (ls : Array Slot), j187_42 x43 S44 = some (ro, So) → Rp G S44 H → va_S (gA G) s.heap H locs → Ex S S44 → Ok S44 this 11 → lv_has ls 10 [(0, .ref this), (1, .int a1), (7, .int x43)] → W p l e rX11_goes s m args below meth c H locs 0 0 (MQ below (Qn G S (some (.int ro)) So) args s 0 0 (gA G)) (F0 m 187 ls []) := by
          intro x43 S44 H locs ls hf hR hS hE ok_this hl
          rw [ej187_42] at hf
          refine lv_goto (tgt := 200) hx hb dX11_goes_187 (by decide) ?_
          exact hj200_30 x43 S44 _ _ _ hf hR hS hE ok_this (lv_sub hl [0, 1, 2] rfl)
        have hh65 : ∀ k : Nat, ∀ (x47 : Int32) (x48 : Int32) (S49 : MS) (H : Heap) (locs : List Loc) (ls : Array Slot), f_X11_goes_L144 n this a1 x1 x24 j187_42 j200_31 k x47 x48 S49 = some (ro, So) → Rp G S49 H → va_S (gA G) s.heap H locs → Ex S S49 → Ok S49 this 11 → lv_has ls 10 [(0, .ref this), (1, .int a1), (3, .int x1), (5, .int x24), (7, .int x47), (8, .int x48)] → W p l e rX11_goes s m args below meth c H locs 0 0 (MQ below (Qn G S (some (.int ro)) So) args s 0 0 (gA G)) (F0 m 144 ls []) := by
          intro k
          induction k with
          | zero =>
            intro x47 x48 S49 H locs ls hf hR hS hE ok_this hl
            exact absurd hf (by rw [f_X11_goes_L144]; exact fun h => by cases h)
          | succ k ih =>
            intro x47 x48 S49 H locs ls hf hR hS hE ok_this hl
            rw [f_X11_goes_L144] at hf
            obtain ⟨rec144_46, erec144_46, hf⟩ := jn_of3 hf
            have hL144_45 : ∀ (x47 : Int32) (x48 : Int32) (S49 : MS) (H : Heap) (locs : List Loc) (ls : Array Slot), rec144_46 x47 x48 S49 = some (ro, So) → Rp G S49 H → va_S (gA G) s.heap H locs → Ex S S49 → Ok S49 this 11 → lv_has ls 10 [(0, .ref this), (1, .int a1), (3, .int x1), (5, .int x24), (7, .int x47), (8, .int x48)] → W p l e rX11_goes s m args below meth c H locs 0 0 (MQ below (Qn G S (some (.int ro)) So) args s 0 0 (gA G)) (F0 m 144 ls []) := by
              intro x47 x48 S49 H locs ls hf hR hS hE ok_this hl
              rw [erec144_46] at hf
              exact ih x47 x48 S49 _ _ _ hf hR hS hE ok_this hl
            refine lv_iload hx hb dX11_goes_144 (lv_at hl 5 rfl) ?_
            refine lv_iload hx hb dX11_goes_146 (lv_at hl 3 rfl) ?_
            refine lv_icmp_ge (tgt := 200) hx hb dX11_goes_148 (by decide) (fun hc => ?_) (fun hc => ?_)
            · replace hf := if_t hf hc
              exact hj200_30 x47 S49 _ _ _ hf hR hS hE ok_this (lv_sub hl [0, 1, 4] rfl)
            · replace hf := if_f hf hc
              refine lv_aload_n hx hb dX11_goes_151 rfl (lv_at hl 0 rfl) ?_
              refine lv_iload hx hb dX11_goes_152 (lv_at hl 4 rfl) ?_
              refine lv_aload_n hx hb dX11_goes_154 rfl (lv_at hl 0 rfl) ?_
              obtain ⟨q50, hq51, ok_q50, hf⟩ := gR_of hf
              refine gf_RX11_7 hC hR ok_this hq51 dX11_goes_155 ?_
              refine lv_iload_n hx hb dX11_goes_158 rfl (lv_at hl 2 rfl) ?_
              obtain ⟨hi52, hf⟩ := ck_of hf
              refine r_iald hC hR ok_q50 hi52 dX11_goes_159 ?_
              refine lv_aload_n hx hb dX11_goes_160 rfl (lv_at hl 0 rfl) ?_
              obtain ⟨q53, hq54, ok_q53, hf⟩ := gR_of hf
              refine gf_RX11_7 hC hR ok_this hq54 dX11_goes_161 ?_
              refine lv_iload_n hx hb dX11_goes_164 rfl (lv_at hl 2 rfl) ?_
              refine lv_iconst (v := 1) hx hb dX11_goes_165 (by decide) ?_
              refine lv_iadd hx hb dX11_goes_166 ?_
              obtain ⟨hi55, hf⟩ := ck_of hf
              refine r_iald hC hR ok_q53 hi55 dX11_goes_167 ?_
              obtain ⟨x59, S56, hc57, hf⟩ := cl_of hf
              refine cl_RX11_288 (As := [.int x47, .int (mI S49 q50 x1.toNatClampNeg), .int (mI S49 q53 (x1 + (1 : Int32)).toNatClampNeg)]) (rest := []) hC hR hS (c_X11_stepTo l G n this x47 (mI S49 q50 x1.toNatClampNeg) (mI S49 q53 (x1 + (1 : Int32)).toNatClampNeg) S49 x59 S56 hc57 ok_this) ok_this rfl ⟨Nat.le_of_ble_eq_true rfl, Nat.le_of_ble_eq_true rfl⟩ hl.1 rfl (Nat.le_of_ble_eq_true rfl) dX11_goes_168 (Nat.zero_le _) (Nat.zero_le _) (fun H locs hR hS hE58 => ?_)
              have ok_this := hE58 _ _ ok_this
              have ok_q50 := hE58 _ _ ok_q50
              have ok_q53 := hE58 _ _ ok_q53
              have hE := hE.tr hE58
              refine lv_istore (lv' := [(9, .int x59), (0, .ref this), (1, .int a1), (3, .int x1), (5, .int x24), (7, .int x47), (8, .int x48)]) hx hb dX11_goes_171 hl (by decide) rfl (fun ls hl => ?_)
              refine lv_iload hx hb dX11_goes_173 (lv_at hl 0 rfl) ?_
              refine lv_if_lt (tgt := 200) hx hb dX11_goes_175 (by decide) (fun hc => ?_) (fun hc => ?_)
              · replace hf := if_t hf hc
                exact hj200_30 x47 S56 _ _ _ hf hR hS hE ok_this (lv_sub hl [1, 2, 5] rfl)
              · replace hf := if_f hf hc
                refine lv_aload_n hx hb dX11_goes_178 rfl (lv_at hl 1 rfl) ?_
                refine lv_iload hx hb dX11_goes_179 (lv_at hl 0 rfl) ?_
                obtain ⟨x63, S60, hc61, hf⟩ := cl_of hf
                refine cl_RX11_85 (As := [.int x59]) (rest := []) hC hR hS (c_X11_isFree l G n this x59 S56 x63 S60 hc61 ok_this) ok_this rfl ⟨Nat.le_of_ble_eq_true rfl, Nat.le_of_ble_eq_true rfl⟩ hl.1 rfl (Nat.le_of_ble_eq_true rfl) dX11_goes_181 (Nat.zero_le _) (Nat.zero_le _) (fun H locs hR hS hE62 => ?_)
                have ok_this := hE62 _ _ ok_this
                have ok_q50 := hE62 _ _ ok_q50
                have ok_q53 := hE62 _ _ ok_q53
                have hE := hE.tr hE62
                refine lv_if_ne (tgt := 190) hx hb dX11_goes_184 (by decide) (fun hc => ?_) (fun hc => ?_)
                · replace hf := if_f hf hc
                  refine lv_iload hx hb dX11_goes_190 (lv_at hl 0 rfl) ?_
                  refine lv_istore (lv' := [(7, .int x59), (9, .int x59), (0, .ref this), (1, .int a1), (3, .int x1), (5, .int x24), (8, .int x48)]) hx hb dX11_goes_192 hl (by decide) rfl (fun ls hl => ?_)
                  refine r_iinc (n := 1) (z := 1) (lv' := fun x64 => [(8, .int x64), (7, .int x59), (9, .int x59), (0, .ref this), (1, .int a1), (3, .int x1), (5, .int x24)]) hx hb dX11_goes_194 hl (k := 6) rfl (by decide) (by decide) (fun _ => rfl) hf (fun x64 ls hf hl => ?_)
                  refine lv_goto (tgt := 144) hx hb dX11_goes_197 (by decide) ?_
                  exact hL144_45 x59 x64 S60 _ _ _ hf hR hS hE ok_this (lv_sub hl [3, 4, 5, 6, 1, 0] rfl)
                · replace hf := if_t hf hc
                  exact hj187_41 x47 S60 _ _ _ hf hR hS hE ok_this (lv_sub hl [1, 2, 5] rfl)
        exact hh65 n x29 (0 : Int32) S26 _ _ _ hf hR hS hE ok_this (lv_sub hl [2, 3, 4, 5, 1, 0] rfl)
      refine lv_if_lt (tgt := 118) hx hb dX11_goes_68 (by decide) (fun hc => ?_) (fun hc => ?_)
      · replace hf := if_t hf hc
        refine lv_iload hx hb dX11_goes_118 (lv_at hl 1 rfl) ?_
        refine lv_bipush (v := 9) hx hb dX11_goes_120 (by decide) ?_
        obtain ⟨j132_71, ej132_71, hf⟩ := jn_of2 hf
        have hj132_70 : ∀ (x72 : Int32) (S73 : MS) (H : Heap) (locs : List Loc) (ls : Array Slot), j132_71 x72 S73 = some (ro, So) → Rp G S73 H → va_S (gA G) s.heap H locs → Ex S S73 → Ok S73 this 11 → lv_has ls 10 [(0, .ref this), (1, .int a1), (3, .int x1)] → W p l e rX11_goes s m args below meth c H locs 0 0 (MQ below (Qn G S (some (.int ro)) So) args s 0 0 (gA G)) (F0 m 132 ls [.int x72]) := by
          intro x72 S73 H locs ls hf hR hS hE ok_this hl
          rw [ej132_71] at hf
          refine lv_istore (lv' := [(5, .int x72), (0, .ref this), (1, .int a1), (3, .int x1)]) hx hb dX11_goes_132 hl (by decide) rfl (fun ls hl => ?_)
          exact hj134_22 x72 S73 _ _ _ hf hR hS hE ok_this (lv_sub hl [1, 2, 3, 0] rfl)
        refine lv_icmp_le (tgt := 130) hx hb dX11_goes_122 (by decide) (fun hc => ?_) (fun hc => ?_)
        · replace hf := if_t hf hc
          refine lv_iload hx hb dX11_goes_130 (lv_at hl 1 rfl) ?_
          exact hj132_70 x17 S18 _ _ _ hf hR hS hE ok_this (lv_sub hl [2, 3, 4] rfl)
        · replace hf := if_f hf hc
          refine lv_bipush (v := 9) hx hb dX11_goes_125 (by decide) ?_
          refine lv_goto (tgt := 132) hx hb dX11_goes_127 (by decide) ?_
          exact hj132_70 (9 : Int32) S18 _ _ _ hf hR hS hE ok_this (lv_sub hl [2, 3, 4] rfl)
      · replace hf := if_f hf hc
        refine lv_aload_n hx hb dX11_goes_71 rfl (lv_at hl 2 rfl) ?_
        obtain ⟨q76, hq77, ok_q76, hf⟩ := gR_of hf
        refine gf_RX11_29 hC hR ok_this hq77 dX11_goes_72 ?_
        refine lv_bipush (v := 6) hx hb dX11_goes_75 (by decide) ?_
        refine lv_aload_n hx hb dX11_goes_77 rfl (lv_at hl 2 rfl) ?_
        obtain ⟨q78, hq79, ok_q78, hf⟩ := gR_of hf
        refine gf_RX11_7 hC hR ok_this hq79 dX11_goes_78 ?_
        refine lv_iload_n hx hb dX11_goes_81 rfl (lv_at hl 4 rfl) ?_
        refine lv_iconst (v := 2) hx hb dX11_goes_82 (by decide) ?_
        refine lv_iadd hx hb dX11_goes_83 ?_
        obtain ⟨hi80, hf⟩ := ck_of hf
        refine r_iald hC hR ok_q78 hi80 dX11_goes_84 ?_
        obtain ⟨hi81, hf⟩ := ck_of hf
        refine rB_iast hC hR hS ok_q76 hi81 dX11_goes_85 hf (fun S82 H locs hf hR hS hE83 => ?_)
        have ok_this := hE83 _ _ ok_this
        have ok_q76 := hE83 _ _ ok_q76
        have ok_q78 := hE83 _ _ ok_q78
        have hE := hE.tr hE83
        refine lv_aload_n hx hb dX11_goes_86 rfl (lv_at hl 2 rfl) ?_
        obtain ⟨q84, hq85, ok_q84, hf⟩ := gR_of hf
        refine gf_RX11_29 hC hR ok_this hq85 dX11_goes_87 ?_
        refine lv_bipush (v := 7) hx hb dX11_goes_90 (by decide) ?_
        refine lv_iload hx hb dX11_goes_92 (lv_at hl 5 rfl) ?_
        obtain ⟨hi86, hf⟩ := ck_of hf
        refine rB_iast hC hR hS ok_q84 hi86 dX11_goes_94 hf (fun S87 H locs hf hR hS hE88 => ?_)
        have ok_this := hE88 _ _ ok_this
        have ok_q76 := hE88 _ _ ok_q76
        have ok_q78 := hE88 _ _ ok_q78
        have ok_q84 := hE88 _ _ ok_q84
        have hE := hE.tr hE88
        refine lv_aload_n hx hb dX11_goes_95 rfl (lv_at hl 2 rfl) ?_
        refine lv_iload hx hb dX11_goes_96 (lv_at hl 0 rfl) ?_
        obtain ⟨S89, hc90, hf⟩ := cv_of hf
        refine cl_RX11_303 (As := [.int x21]) (rest := []) hC hR hS (c_X11_work l G n this x21 S87 S89 hc90 ok_this) ok_this rfl ⟨Nat.le_of_ble_eq_true rfl, Nat.le_of_ble_eq_true rfl⟩ hl.1 rfl (Nat.le_of_ble_eq_true rfl) dX11_goes_98 (Nat.zero_le _) (Nat.zero_le _) (fun H locs hR hS hE91 => ?_)
        have ok_this := hE91 _ _ ok_this
        have ok_q76 := hE91 _ _ ok_q76
        have ok_q78 := hE91 _ _ ok_q78
        have ok_q84 := hE91 _ _ ok_q84
        have hE := hE.tr hE91
        refine lv_aload_n hx hb dX11_goes_101 rfl (lv_at hl 2 rfl) ?_
        obtain ⟨q92, hq93, ok_q92, hf⟩ := gR_of hf
        refine gf_RX11_32 hC hR ok_this hq93 dX11_goes_102 ?_
        refine lv_iconst (v := 0) hx hb dX11_goes_105 (by decide) ?_
        obtain ⟨hi94, hf⟩ := ck_of hf
        refine r_lald hC hR ok_q92 hi94 dX11_goes_106 ?_
        refine lv_iconst (v := 0) hx hb dX11_goes_107 (by decide) ?_
        refine lv_bipush (v := 9) hx hb dX11_goes_108 (by decide) ?_
        obtain ⟨x98, S95, hc96, hf⟩ := cl_of hf
        refine cl_RX11_309 (As := [.long (mJ S89 q92 (0 : Int32).toNatClampNeg), .int (0 : Int32), .int (9 : Int32)]) (rest := []) hC hR hS (c_X11_held l G n (mJ S89 q92 (0 : Int32).toNatClampNeg) (0 : Int32) (9 : Int32) S89 x98 S95 hc96 ) rfl ⟨Nat.le_of_ble_eq_true rfl, Nat.le_of_ble_eq_true rfl⟩ hl.1 rfl (Nat.le_of_ble_eq_true rfl) dX11_goes_110 (Nat.zero_le _) (Nat.zero_le _) (fun H locs hR hS hE97 => ?_)
        have ok_this := hE97 _ _ ok_this
        have ok_q76 := hE97 _ _ ok_q76
        have ok_q78 := hE97 _ _ ok_q78
        have ok_q84 := hE97 _ _ ok_q84
        have ok_q92 := hE97 _ _ ok_q92
        have hE := hE.tr hE97
        refine lv_istore (lv' := [(5, .int x98), (6, .int x21), (0, .ref this), (1, .int a1), (3, .int x1), (4, .int x9)]) hx hb dX11_goes_113 hl (by decide) rfl (fun ls hl => ?_)
        refine lv_goto (tgt := 134) hx hb dX11_goes_115 (by decide) ?_
        exact hj134_22 x98 S95 _ _ _ hf hR hS hE ok_this (lv_sub hl [2, 3, 4, 0] rfl)
    refine lv_if_ne (tgt := 50) hx hb dX11_goes_34 (by decide) (fun hc => ?_) (fun hc => ?_)
    · replace hf := if_f hf hc
      exact hj50_13 S5 _ _ _ hf hR hS hE ok_this (lv_sub hl [2, 3, 1, 0] rfl)
    · replace hf := if_t hf hc
      refine lv_aload_n hx hb dX11_goes_37 rfl (lv_at hl 2 rfl) ?_
      obtain ⟨q101, hq102, ok_q101, hf⟩ := gR_of hf
      refine gf_RX11_7 hC hR ok_this hq102 dX11_goes_38 ?_
      refine lv_iload_n hx hb dX11_goes_41 rfl (lv_at hl 1 rfl) ?_
      refine lv_iconst (v := 1) hx hb dX11_goes_42 (by decide) ?_
      refine lv_iadd hx hb dX11_goes_43 ?_
      obtain ⟨hi103, hf⟩ := ck_of hf
      refine r_iald hC hR ok_q101 hi103 dX11_goes_44 ?_
      refine lv_if_ne (tgt := 50) hx hb dX11_goes_45 (by decide) (fun hc => ?_) (fun hc => ?_)
      · replace hf := if_f hf hc
        exact hj50_13 S5 _ _ _ hf hR hS hE ok_this (lv_sub hl [2, 3, 1, 0] rfl)
      · replace hf := if_t hf hc
        refine lv_iconst (v := 0) hx hb dX11_goes_48 (by decide) ?_
        exact r_zret hC hR hS hE hf dX11_goes_49
abbrev rX11_blow : Room := { frames := 6, cells := 0, slots := 0, locals := 145 }
def f_X11_blow_L93 (n : Nat) (this : Nat) (a1 : Int32) (x7 : Int32) (x8 : Int32) (j144_21 : Int32 → MS → Option (Int32 × MS)) : Nat → Int32 → Int32 → MS → Option (Int32 × MS)
  | 0, _, _, _ => none
  | k + 1, x68, x69, S70 => jn (f_X11_blow_L93 n this a1 x7 x8 j144_21 k) fun rec93_67 => cl (f_X11_bones n this S70) fun x74 S71 => (if x74 ≤ x69 then j144_21 x68 S71 else gR S71 (mR S71 this 29) 14 fun q75 => ck (inb x69 (mN S71 q75)) (jn (fun (x80 : Int32) (S81 : MS) => bd (x69 + (1 : Int32)) fun x82 => rec93_67 x80 x82 S81) fun j138_79 => (if (mI S71 q75 x69.toNatClampNeg) = 0 then jn (fun (S85 : MS) => j138_79 x69 S85) fun j134_84 => (if x68 < 0 then j134_84 S71 else gR S71 (mR S71 this 28) 12 fun q86 => ck (inb x69 (mN S71 q86)) (gR S71 (mR S71 this 28) 12 fun q89 => ck (inb x68 (mN S71 q89)) ((if (mI S71 q86 x69.toNatClampNeg) ≤ (mI S71 q89 x68.toNatClampNeg) then j138_79 x68 S71 else j134_84 S71)))) else j138_79 x68 S71)))
def f_X11_blow_L78 (n : Nat) (this : Nat) (a1 : Int32) : Nat → Int32 → Int32 → MS → Option (Int32 × MS)
  | 0, _, _, _ => none
  | k + 1, x7, x8, S9 => jn (f_X11_blow_L78 n this a1 k) fun rec78_6 => cl (f_X11_bones n this S9) fun x13 S10 => (if x13 ≤ x8 then gR S10 (mR S10 this 0) 12 fun q14 => ck (inb ((mI S10 this 4) + (0 : Int32)) (mN S10 q14)) (ck (inb ((mI S10 this 4) + (0 : Int32)) (mN S10 q14)) (bd (sI S10 q14 ((mI S10 this 4) + (0 : Int32)).toNatClampNeg ((mI S10 q14 ((mI S10 this 4) + (0 : Int32)).toNatClampNeg) + (1 : Int32))) fun S18 => some (x7, S18))) else jn (fun (x22 : Int32) (S23 : MS) => gR S23 (mR S23 this 29) 14 fun q24 => ck (inb x22 (mN S23 q24)) (zb (1 : Int32) (bd (sI S23 q24 x22.toNatClampNeg (1 : Int32)) fun S28 => cl (f_X11_goes n this x22 a1 S28) fun x33 S30 => bd ((((mI S30 this 4) + (10 : Int32)) + ((3 : Int32) * x22)) + (2 : Int32)) fun x34 => gR S30 (mR S30 this 0) 12 fun q35 => jn (fun (q39 : Nat) (x40 : Int32) (x41 : Int32) (S42 : MS) => ck (inb x40 (mN S42 q39)) (bd (sI S42 q39 x40.toNatClampNeg x41) fun S44 => jn (fun (x48 : Int32) (x49 : Int32) (S50 : MS) => bd (x48 + x49) fun x51 => bd (x8 + (1 : Int32)) fun x52 => rec78_6 x51 x52 S50) fun j230_47 => (if x33 = 0 then j230_47 x7 (0 : Int32) S44 else j230_47 x7 (1 : Int32) S44))) fun j218_38 => (if x33 = 0 then gR S30 (mR S30 this 0) 12 fun q56 => ck (inb x34 (mN S30 q56)) ((if (99 : Int32) ≤ (mI S30 q56 x34.toNatClampNeg) then j218_38 q35 x34 (99 : Int32) S30 else gR S30 (mR S30 this 0) 12 fun q59 => ck (inb x34 (mN S30 q59)) (j218_38 q35 x34 ((mI S30 q59 x34.toNatClampNeg) + (1 : Int32)) S30))) else j218_38 q35 x34 (0 : Int32) S30)))) fun j144_21 => f_X11_blow_L93 n this a1 x7 x8 j144_21 n (-1 : Int32) (0 : Int32) S10)
def f_X11_blow_L9 (n : Nat) (this : Nat) (a1 : Int32) (x1 : Int32) (j73_3 : MS → Option (Int32 × MS)) : Nat → Int32 → MS → Option (Int32 × MS)
  | 0, _, _ => none
  | k + 1, x101, S102 => jn (f_X11_blow_L9 n this a1 x1 j73_3 k) fun rec9_100 => cl (f_X11_bones n this S102) fun x106 S103 => (if x106 ≤ x101 then j73_3 S103 else gR S103 (mR S103 this 28) 12 fun q107 => cl (f_X11_cellOf n this x101 S103) fun x112 S109 => dv (mI S109 this 1) (gR S109 (mR S109 this 0) 12 fun q114 => ck (inb x1 (mN S109 q114)) (cl (f_X11_cellOf n this x101 S109) fun x120 S117 => dv (mI S117 this 1) (gR S117 (mR S117 this 0) 12 fun q122 => ck (inb (x1 + (1 : Int32)) (mN S117 q122)) (ck (inb x101 (mN S117 q107)) (bd (sI S117 q107 x101.toNatClampNeg (((x112 - x112 / (mI S109 this 1) * (mI S109 this 1)) * (mI S109 q114 x1.toNatClampNeg)) + ((x120 / (mI S117 this 1)) * (mI S117 q122 (x1 + (1 : Int32)).toNatClampNeg)))) fun S126 => gR S126 (mR S126 this 29) 14 fun q128 => ck (inb x101 (mN S126 q128)) (zb (0 : Int32) (bd (sI S126 q128 x101.toNatClampNeg (0 : Int32)) fun S132 => bd (x101 + (1 : Int32)) fun x134 => rec9_100 x134 S132))))))))
def f_X11_blow (n : Nat) (this : Nat) (a1 : Int32) (S : MS) : Option (Int32 × MS) :=
  bd ((100 : Int32) + ((4 : Int32) * a1)) fun x1 => jn (fun (S4 : MS) => f_X11_blow_L78 n this a1 n (0 : Int32) (0 : Int32) S4) fun j73_3 => f_X11_blow_L9 n this a1 x1 j73_3 n (0 : Int32) S
set_option maxRecDepth 100000 in
set_option maxHeartbeats 4000000 in
theorem c_X11_blow (l : Launch) (G : Gx) (n : Nat) (this : Nat) (a1 : Int32) (S : MS) (ro : Int32) (So : MS) (hf : f_X11_blow n this a1 S = some (ro, So)) (ok_this : Ok S this 11) : Cn G l yX11_blow cX11_blow 8 (some .int) rX11_blow [.ref this, .int a1] S (some (.int ro)) So := by
  refine Cn.of (by decide) (Nat.le_of_ble_eq_true rfl) ?_
  intro p e s m args below meth c hC hname hR ls hl
  have hC : Cx G RX11 cX11_blow 8 (some .int) p s m args meth c := hC
  have hl : lv_has ls 8 [(0, .ref this), (1, .int a1)] := hl
  have hx := hC.x
  have hb := hC.b
  have hS : va_S (gA G) s.heap s.heap [] := va_S.rf
  have hE : Ex S S := Ex.rf S
  unfold f_X11_blow at hf
  refine lv_bipush (v := 100) hx hb dX11_blow_0 (by decide) ?_
  refine lv_iconst (v := 4) hx hb dX11_blow_2 (by decide) ?_
  refine lv_iload_n hx hb dX11_blow_3 rfl (lv_at hl 1 rfl) ?_
  refine lv_imul hx hb dX11_blow_4 ?_
  refine lv_iadd hx hb dX11_blow_5 ?_
  refine bdi hf (fun x1 hf => ?_)
  refine lv_istore_n (lv' := [(2, .int x1), (0, .ref this), (1, .int a1)]) hx hb dX11_blow_6 rfl hl (by decide) rfl (fun ls hl => ?_)
  refine lv_iconst (v := 0) hx hb dX11_blow_7 (by decide) ?_
  refine lv_istore_n (lv' := [(3, .int (0 : Int32)), (2, .int x1), (0, .ref this), (1, .int a1)]) hx hb dX11_blow_8 rfl hl (by decide) rfl (fun ls hl => ?_)
  obtain ⟨j73_3, ej73_3, hf⟩ := jn_of1 hf
  have hj73_2 : ∀ (S4 : MS) (H : Heap) (locs : List Loc) (ls : Array Slot), j73_3 S4 = some (ro, So) → Rp G S4 H → va_S (gA G) s.heap H locs → Ex S S4 → Ok S4 this 11 → lv_has ls 8 [(0, .ref this), (1, .int a1)] → W p l e rX11_blow s m args below meth c H locs 0 0 (MQ below (Qn G S (some (.int ro)) So) args s 0 0 (gA G)) (F0 m 73 ls []) := by
    intro S4 H locs ls hf hR hS hE ok_this hl
    rw [ej73_3] at hf
    refine lv_iconst (v := 0) hx hb dX11_blow_73 (by decide) ?_
    refine lv_istore_n (lv' := [(3, .int (0 : Int32)), (0, .ref this), (1, .int a1)]) hx hb dX11_blow_74 rfl hl (by decide) rfl (fun ls hl => ?_)
    refine lv_iconst (v := 0) hx hb dX11_blow_75 (by decide) ?_
    refine lv_istore (lv' := [(4, .int (0 : Int32)), (3, .int (0 : Int32)), (0, .ref this), (1, .int a1)]) hx hb dX11_blow_76 hl (by decide) rfl (fun ls hl => ?_)
    have hh98 : ∀ k : Nat, ∀ (x7 : Int32) (x8 : Int32) (S9 : MS) (H : Heap) (locs : List Loc) (ls : Array Slot), f_X11_blow_L78 n this a1 k x7 x8 S9 = some (ro, So) → Rp G S9 H → va_S (gA G) s.heap H locs → Ex S S9 → Ok S9 this 11 → lv_has ls 8 [(0, .ref this), (1, .int a1), (3, .int x7), (4, .int x8)] → W p l e rX11_blow s m args below meth c H locs 0 0 (MQ below (Qn G S (some (.int ro)) So) args s 0 0 (gA G)) (F0 m 78 ls []) := by
      intro k
      induction k with
      | zero =>
        intro x7 x8 S9 H locs ls hf hR hS hE ok_this hl
        exact absurd hf (by rw [f_X11_blow_L78]; exact fun h => by cases h)
      | succ k ih =>
        intro x7 x8 S9 H locs ls hf hR hS hE ok_this hl
        rw [f_X11_blow_L78] at hf
        obtain ⟨rec78_6, erec78_6, hf⟩ := jn_of3 hf
        have hL78_5 : ∀ (x7 : Int32) (x8 : Int32) (S9 : MS) (H : Heap) (locs : List Loc) (ls : Array Slot), rec78_6 x7 x8 S9 = some (ro, So) → Rp G S9 H → va_S (gA G) s.heap H locs → Ex S S9 → Ok S9 this 11 → lv_has ls 8 [(0, .ref this), (1, .int a1), (3, .int x7), (4, .int x8)] → W p l e rX11_blow s m args below meth c H locs 0 0 (MQ below (Qn G S (some (.int ro)) So) args s 0 0 (gA G)) (F0 m 78 ls []) := by
          intro x7 x8 S9 H locs ls hf hR hS hE ok_this hl
          rw [erec78_6] at hf
          exact ih x7 x8 S9 _ _ _ hf hR hS hE ok_this hl
        refine lv_iload hx hb dX11_blow_78 (lv_at hl 3 rfl) ?_
        refine lv_aload_n hx hb dX11_blow_80 rfl (lv_at hl 0 rfl) ?_
        obtain ⟨x13, S10, hc11, hf⟩ := cl_of hf
        refine cl_RX11_316 (As := []) (rest := [.int x8]) hC hR hS (c_X11_bones l G n this S9 x13 S10 hc11 ok_this) ok_this rfl ⟨Nat.le_of_ble_eq_true rfl, Nat.le_of_ble_eq_true rfl⟩ hl.1 rfl (Nat.le_of_ble_eq_true rfl) dX11_blow_81 (Nat.zero_le _) (Nat.zero_le _) (fun H locs hR hS hE12 => ?_)
        have ok_this := hE12 _ _ ok_this
        have hE := hE.tr hE12
        refine lv_icmp_ge (tgt := 238) hx hb dX11_blow_84 (by decide) (fun hc => ?_) (fun hc => ?_)
        · replace hf := if_t hf hc
          refine lv_aload_n hx hb dX11_blow_238 rfl (lv_at hl 0 rfl) ?_
          obtain ⟨q14, hq15, ok_q14, hf⟩ := gR_of hf
          refine gf_RX11_7 hC hR ok_this hq15 dX11_blow_239 ?_
          refine lv_aload_n hx hb dX11_blow_242 rfl (lv_at hl 0 rfl) ?_
          refine gf_RX11_75 hC hR ok_this dX11_blow_243 ?_
          refine lv_iconst (v := 0) hx hb dX11_blow_246 (by decide) ?_
          refine lv_iadd hx hb dX11_blow_247 ?_
          refine lv_dup2_11 hx hb dX11_blow_248 rfl rfl ?_
          obtain ⟨hi16, hf⟩ := ck_of hf
          refine r_iald hC hR ok_q14 hi16 dX11_blow_249 ?_
          refine lv_iconst (v := 1) hx hb dX11_blow_250 (by decide) ?_
          refine lv_iadd hx hb dX11_blow_251 ?_
          obtain ⟨hi17, hf⟩ := ck_of hf
          refine rB_iast hC hR hS ok_q14 hi17 dX11_blow_252 hf (fun S18 H locs hf hR hS hE19 => ?_)
          have ok_this := hE19 _ _ ok_this
          have ok_q14 := hE19 _ _ ok_q14
          have hE := hE.tr hE19
          refine lv_iload_n hx hb dX11_blow_253 rfl (lv_at hl 2 rfl) ?_
          exact r_iret hC hR hS hE hf dX11_blow_254
        · replace hf := if_f hf hc
          refine lv_iconst (v := -1) hx hb dX11_blow_87 (by decide) ?_
          refine lv_istore (lv' := [(5, .int (-1 : Int32)), (0, .ref this), (1, .int a1), (3, .int x7), (4, .int x8)]) hx hb dX11_blow_88 hl (by decide) rfl (fun ls hl => ?_)
          refine lv_iconst (v := 0) hx hb dX11_blow_90 (by decide) ?_
          refine lv_istore (lv' := [(6, .int (0 : Int32)), (5, .int (-1 : Int32)), (0, .ref this), (1, .int a1), (3, .int x7), (4, .int x8)]) hx hb dX11_blow_91 hl (by decide) rfl (fun ls hl => ?_)
          obtain ⟨j144_21, ej144_21, hf⟩ := jn_of2 hf
          have hj144_20 : ∀ (x22 : Int32) (S23 : MS) (H : Heap) (locs : List Loc) (ls : Array Slot), j144_21 x22 S23 = some (ro, So) → Rp G S23 H → va_S (gA G) s.heap H locs → Ex S S23 → Ok S23 this 11 → lv_has ls 8 [(0, .ref this), (1, .int a1), (3, .int x7), (4, .int x8), (5, .int x22)] → W p l e rX11_blow s m args below meth c H locs 0 0 (MQ below (Qn G S (some (.int ro)) So) args s 0 0 (gA G)) (F0 m 144 ls []) := by
            intro x22 S23 H locs ls hf hR hS hE ok_this hl
            rw [ej144_21] at hf
            refine lv_aload_n hx hb dX11_blow_144 rfl (lv_at hl 0 rfl) ?_
            obtain ⟨q24, hq25, ok_q24, hf⟩ := gR_of hf
            refine gf_RX11_43 hC hR ok_this hq25 dX11_blow_145 ?_
            refine lv_iload hx hb dX11_blow_148 (lv_at hl 4 rfl) ?_
            refine lv_iconst (v := 1) hx hb dX11_blow_150 (by decide) ?_
            obtain ⟨hi26, hf⟩ := ck_of hf
            obtain ⟨hz27, hf⟩ := zb_of hf
            refine rB_zast hC hR hS ok_q24 hi26 hz27 dX11_blow_151 hf (fun S28 H locs hf hR hS hE29 => ?_)
            have ok_this := hE29 _ _ ok_this
            have ok_q24 := hE29 _ _ ok_q24
            have hE := hE.tr hE29
            refine lv_aload_n hx hb dX11_blow_152 rfl (lv_at hl 0 rfl) ?_
            refine lv_iload hx hb dX11_blow_153 (lv_at hl 4 rfl) ?_
            refine lv_iload_n hx hb dX11_blow_155 rfl (lv_at hl 1 rfl) ?_
            obtain ⟨x33, S30, hc31, hf⟩ := cl_of hf
            refine cl_RX11_319 (As := [.int x22, .int a1]) (rest := []) hC hR hS (c_X11_goes l G n this x22 a1 S28 x33 S30 hc31 ok_this) ok_this rfl ⟨Nat.le_of_ble_eq_true rfl, Nat.le_of_ble_eq_true rfl⟩ hl.1 rfl (Nat.le_of_ble_eq_true rfl) dX11_blow_156 (Nat.zero_le _) (Nat.zero_le _) (fun H locs hR hS hE32 => ?_)
            have ok_this := hE32 _ _ ok_this
            have ok_q24 := hE32 _ _ ok_q24
            have hE := hE.tr hE32
            refine lv_istore (lv' := [(6, .int x33), (0, .ref this), (1, .int a1), (3, .int x7), (4, .int x8), (5, .int x22)]) hx hb dX11_blow_159 hl (by decide) rfl (fun ls hl => ?_)
            refine lv_aload_n hx hb dX11_blow_161 rfl (lv_at hl 1 rfl) ?_
            refine gf_RX11_75 hC hR ok_this dX11_blow_162 ?_
            refine lv_bipush (v := 10) hx hb dX11_blow_165 (by decide) ?_
            refine lv_iadd hx hb dX11_blow_167 ?_
            refine lv_iconst (v := 3) hx hb dX11_blow_168 (by decide) ?_
            refine lv_iload hx hb dX11_blow_169 (lv_at hl 5 rfl) ?_
            refine lv_imul hx hb dX11_blow_171 ?_
            refine lv_iadd hx hb dX11_blow_172 ?_
            refine lv_iconst (v := 2) hx hb dX11_blow_173 (by decide) ?_
            refine lv_iadd hx hb dX11_blow_174 ?_
            refine bdi hf (fun x34 hf => ?_)
            refine lv_istore (lv' := [(7, .int x34), (6, .int x33), (0, .ref this), (1, .int a1), (3, .int x7), (4, .int x8), (5, .int x22)]) hx hb dX11_blow_175 hl (by decide) rfl (fun ls hl => ?_)
            refine lv_aload_n hx hb dX11_blow_177 rfl (lv_at hl 2 rfl) ?_
            obtain ⟨q35, hq36, ok_q35, hf⟩ := gR_of hf
            refine gf_RX11_7 hC hR ok_this hq36 dX11_blow_178 ?_
            refine lv_iload hx hb dX11_blow_181 (lv_at hl 0 rfl) ?_
            refine lv_iload hx hb dX11_blow_183 (lv_at hl 1 rfl) ?_
            obtain ⟨j218_38, ej218_38, hf⟩ := jn_of4 hf
            have hj218_37 : ∀ (q39 : Nat) (x40 : Int32) (x41 : Int32) (S42 : MS) (H : Heap) (locs : List Loc) (ls : Array Slot), j218_38 q39 x40 x41 S42 = some (ro, So) → Rp G S42 H → va_S (gA G) s.heap H locs → Ex S S42 → Ok S42 this 11 → Ok S42 q39 12 → lv_has ls 8 [(0, .ref this), (1, .int a1), (3, .int x7), (4, .int x8), (6, .int x33)] → W p l e rX11_blow s m args below meth c H locs 0 0 (MQ below (Qn G S (some (.int ro)) So) args s 0 0 (gA G)) (F0 m 218 ls [.int x41, .int x40, .ref q39]) := by
              intro q39 x40 x41 S42 H locs ls hf hR hS hE ok_this ok_q39 hl
              rw [ej218_38] at hf
              obtain ⟨hi43, hf⟩ := ck_of hf
              refine rB_iast hC hR hS ok_q39 hi43 dX11_blow_218 hf (fun S44 H locs hf hR hS hE45 => ?_)
              have ok_this := hE45 _ _ ok_this
              have ok_q39 := hE45 _ _ ok_q39
              have hE := hE.tr hE45
              refine lv_iload_n hx hb dX11_blow_219 rfl (lv_at hl 2 rfl) ?_
              refine lv_iload hx hb dX11_blow_220 (lv_at hl 4 rfl) ?_
              obtain ⟨j230_47, ej230_47, hf⟩ := jn_of3 hf
              have hj230_46 : ∀ (x48 : Int32) (x49 : Int32) (S50 : MS) (H : Heap) (locs : List Loc) (ls : Array Slot), j230_47 x48 x49 S50 = some (ro, So) → Rp G S50 H → va_S (gA G) s.heap H locs → Ex S S50 → Ok S50 this 11 → lv_has ls 8 [(0, .ref this), (1, .int a1), (4, .int x8)] → W p l e rX11_blow s m args below meth c H locs 0 0 (MQ below (Qn G S (some (.int ro)) So) args s 0 0 (gA G)) (F0 m 230 ls [.int x49, .int x48]) := by
                intro x48 x49 S50 H locs ls hf hR hS hE ok_this hl
                rw [ej230_47] at hf
                refine lv_iadd hx hb dX11_blow_230 ?_
                refine bdi hf (fun x51 hf => ?_)
                refine lv_istore_n (lv' := [(3, .int x51), (0, .ref this), (1, .int a1), (4, .int x8)]) hx hb dX11_blow_231 rfl hl (by decide) rfl (fun ls hl => ?_)
                refine r_iinc (n := 1) (z := 1) (lv' := fun x52 => [(4, .int x52), (3, .int x51), (0, .ref this), (1, .int a1)]) hx hb dX11_blow_232 hl (k := 3) rfl (by decide) (by decide) (fun _ => rfl) hf (fun x52 ls hf hl => ?_)
                refine lv_goto (tgt := 78) hx hb dX11_blow_235 (by decide) ?_
                exact hL78_5 x51 x52 S50 _ _ _ hf hR hS hE ok_this (lv_sub hl [2, 3, 1, 0] rfl)
              refine lv_if_eq (tgt := 229) hx hb dX11_blow_222 (by decide) (fun hc => ?_) (fun hc => ?_)
              · replace hf := if_t hf hc
                refine lv_iconst (v := 0) hx hb dX11_blow_229 (by decide) ?_
                exact hj230_46 x7 (0 : Int32) S44 _ _ _ hf hR hS hE ok_this (lv_sub hl [0, 1, 3] rfl)
              · replace hf := if_f hf hc
                refine lv_iconst (v := 1) hx hb dX11_blow_225 (by decide) ?_
                refine lv_goto (tgt := 230) hx hb dX11_blow_226 (by decide) ?_
                exact hj230_46 x7 (1 : Int32) S44 _ _ _ hf hR hS hE ok_this (lv_sub hl [0, 1, 3] rfl)
            refine lv_if_eq (tgt := 192) hx hb dX11_blow_185 (by decide) (fun hc => ?_) (fun hc => ?_)
            · replace hf := if_t hf hc
              refine lv_aload_n hx hb dX11_blow_192 rfl (lv_at hl 2 rfl) ?_
              obtain ⟨q56, hq57, ok_q56, hf⟩ := gR_of hf
              refine gf_RX11_7 hC hR ok_this hq57 dX11_blow_193 ?_
              refine lv_iload hx hb dX11_blow_196 (lv_at hl 0 rfl) ?_
              obtain ⟨hi58, hf⟩ := ck_of hf
              refine r_iald hC hR ok_q56 hi58 dX11_blow_198 ?_
              refine lv_bipush (v := 99) hx hb dX11_blow_199 (by decide) ?_
              refine lv_icmp_ge (tgt := 216) hx hb dX11_blow_201 (by decide) (fun hc => ?_) (fun hc => ?_)
              · replace hf := if_t hf hc
                refine lv_bipush (v := 99) hx hb dX11_blow_216 (by decide) ?_
                exact hj218_37 q35 x34 (99 : Int32) S30 _ _ _ hf hR hS hE ok_this ok_q35 (lv_sub hl [2, 3, 4, 5, 1] rfl)
              · replace hf := if_f hf hc
                refine lv_aload_n hx hb dX11_blow_204 rfl (lv_at hl 2 rfl) ?_
                obtain ⟨q59, hq60, ok_q59, hf⟩ := gR_of hf
                refine gf_RX11_7 hC hR ok_this hq60 dX11_blow_205 ?_
                refine lv_iload hx hb dX11_blow_208 (lv_at hl 0 rfl) ?_
                obtain ⟨hi61, hf⟩ := ck_of hf
                refine r_iald hC hR ok_q59 hi61 dX11_blow_210 ?_
                refine lv_iconst (v := 1) hx hb dX11_blow_211 (by decide) ?_
                refine lv_iadd hx hb dX11_blow_212 ?_
                refine lv_goto (tgt := 218) hx hb dX11_blow_213 (by decide) ?_
                exact hj218_37 q35 x34 ((mI S30 q59 x34.toNatClampNeg) + (1 : Int32)) S30 _ _ _ hf hR hS hE ok_this ok_q35 (lv_sub hl [2, 3, 4, 5, 1] rfl)
            · replace hf := if_f hf hc
              refine lv_iconst (v := 0) hx hb dX11_blow_188 (by decide) ?_
              refine lv_goto (tgt := 218) hx hb dX11_blow_189 (by decide) ?_
              exact hj218_37 q35 x34 (0 : Int32) S30 _ _ _ hf hR hS hE ok_this ok_q35 (lv_sub hl [2, 3, 4, 5, 1] rfl)
          have hh95 : ∀ k : Nat, ∀ (x68 : Int32) (x69 : Int32) (S70 : MS) (H : Heap) (locs : List Loc) (ls : Array Slot), f_X11_blow_L93 n this a1 x7 x8 j144_21 k x68 x69 S70 = some (ro, So) → Rp G S70 H → va_S (gA G) s.heap H locs → Ex S S70 → Ok S70 this 11 → lv_has ls 8 [(0, .ref this), (1, .int a1), (3, .int x7), (4, .int x8), (5, .int x68), (6, .int x69)] → W p l e rX11_blow s m args below meth c H locs 0 0 (MQ below (Qn G S (some (.int ro)) So) args s 0 0 (gA G)) (F0 m 93 ls []) := by
            intro k
            induction k with
            | zero =>
              intro x68 x69 S70 H locs ls hf hR hS hE ok_this hl
              exact absurd hf (by rw [f_X11_blow_L93]; exact fun h => by cases h)
            | succ k ih =>
              intro x68 x69 S70 H locs ls hf hR hS hE ok_this hl
              rw [f_X11_blow_L93] at hf
              obtain ⟨rec93_67, erec93_67, hf⟩ := jn_of3 hf
              have hL93_66 : ∀ (x68 : Int32) (x69 : Int32) (S70 : MS) (H : Heap) (locs : List Loc) (ls : Array Slot), rec93_67 x68 x69 S70 = some (ro, So) → Rp G S70 H → va_S (gA G) s.heap H locs → Ex S S70 → Ok S70 this 11 → lv_has ls 8 [(0, .ref this), (1, .int a1), (3, .int x7), (4, .int x8), (5, .int x68), (6, .int x69)] → W p l e rX11_blow s m args below meth c H locs 0 0 (MQ below (Qn G S (some (.int ro)) So) args s 0 0 (gA G)) (F0 m 93 ls []) := by
                intro x68 x69 S70 H locs ls hf hR hS hE ok_this hl
                rw [erec93_67] at hf
                exact ih x68 x69 S70 _ _ _ hf hR hS hE ok_this hl
              refine lv_iload hx hb dX11_blow_93 (lv_at hl 5 rfl) ?_
              refine lv_aload_n hx hb dX11_blow_95 rfl (lv_at hl 0 rfl) ?_
              obtain ⟨x74, S71, hc72, hf⟩ := cl_of hf
              refine cl_RX11_316 (As := []) (rest := [.int x69]) hC hR hS (c_X11_bones l G n this S70 x74 S71 hc72 ok_this) ok_this rfl ⟨Nat.le_of_ble_eq_true rfl, Nat.le_of_ble_eq_true rfl⟩ hl.1 rfl (Nat.le_of_ble_eq_true rfl) dX11_blow_96 (Nat.zero_le _) (Nat.zero_le _) (fun H locs hR hS hE73 => ?_)
              have ok_this := hE73 _ _ ok_this
              have hE := hE.tr hE73
              refine lv_icmp_ge (tgt := 144) hx hb dX11_blow_99 (by decide) (fun hc => ?_) (fun hc => ?_)
              · replace hf := if_t hf hc
                exact hj144_20 x68 S71 _ _ _ hf hR hS hE ok_this (lv_sub hl [0, 1, 2, 3, 4] rfl)
              · replace hf := if_f hf hc
                refine lv_aload_n hx hb dX11_blow_102 rfl (lv_at hl 0 rfl) ?_
                obtain ⟨q75, hq76, ok_q75, hf⟩ := gR_of hf
                refine gf_RX11_43 hC hR ok_this hq76 dX11_blow_103 ?_
                refine lv_iload hx hb dX11_blow_106 (lv_at hl 5 rfl) ?_
                obtain ⟨hi77, hf⟩ := ck_of hf
                refine r_zald hC hR ok_q75 hi77 dX11_blow_108 ?_
                obtain ⟨j138_79, ej138_79, hf⟩ := jn_of2 hf
                have hj138_78 : ∀ (x80 : Int32) (S81 : MS) (H : Heap) (locs : List Loc) (ls : Array Slot), j138_79 x80 S81 = some (ro, So) → Rp G S81 H → va_S (gA G) s.heap H locs → Ex S S81 → Ok S81 this 11 → lv_has ls 8 [(0, .ref this), (1, .int a1), (3, .int x7), (4, .int x8), (5, .int x80), (6, .int x69)] → W p l e rX11_blow s m args below meth c H locs 0 0 (MQ below (Qn G S (some (.int ro)) So) args s 0 0 (gA G)) (F0 m 138 ls []) := by
                  intro x80 S81 H locs ls hf hR hS hE ok_this hl
                  rw [ej138_79] at hf
                  refine r_iinc (n := 1) (z := 1) (lv' := fun x82 => [(6, .int x82), (0, .ref this), (1, .int a1), (3, .int x7), (4, .int x8), (5, .int x80)]) hx hb dX11_blow_138 hl (k := 5) rfl (by decide) (by decide) (fun _ => rfl) hf (fun x82 ls hf hl => ?_)
                  refine lv_goto (tgt := 93) hx hb dX11_blow_141 (by decide) ?_
                  exact hL93_66 x80 x82 S81 _ _ _ hf hR hS hE ok_this (lv_sub hl [1, 2, 3, 4, 5, 0] rfl)
                refine lv_if_ne (tgt := 138) hx hb dX11_blow_109 (by decide) (fun hc => ?_) (fun hc => ?_)
                · replace hf := if_f hf hc
                  exact hj138_78 x68 S71 _ _ _ hf hR hS hE ok_this (lv_sub hl [0, 1, 2, 3, 4, 5] rfl)
                · replace hf := if_t hf hc
                  refine lv_iload hx hb dX11_blow_112 (lv_at hl 4 rfl) ?_
                  obtain ⟨j134_84, ej134_84, hf⟩ := jn_of1 hf
                  have hj134_83 : ∀ (S85 : MS) (H : Heap) (locs : List Loc) (ls : Array Slot), j134_84 S85 = some (ro, So) → Rp G S85 H → va_S (gA G) s.heap H locs → Ex S S85 → Ok S85 this 11 → lv_has ls 8 [(0, .ref this), (1, .int a1), (3, .int x7), (4, .int x8), (6, .int x69)] → W p l e rX11_blow s m args below meth c H locs 0 0 (MQ below (Qn G S (some (.int ro)) So) args s 0 0 (gA G)) (F0 m 134 ls []) := by
                    intro S85 H locs ls hf hR hS hE ok_this hl
                    rw [ej134_84] at hf
                    refine lv_iload hx hb dX11_blow_134 (lv_at hl 4 rfl) ?_
                    refine lv_istore (lv' := [(5, .int x69), (0, .ref this), (1, .int a1), (3, .int x7), (4, .int x8), (6, .int x69)]) hx hb dX11_blow_136 hl (by decide) rfl (fun ls hl => ?_)
                    exact hj138_78 x69 S85 _ _ _ hf hR hS hE ok_this (lv_sub hl [1, 2, 3, 4, 0, 5] rfl)
                  refine lv_if_lt (tgt := 134) hx hb dX11_blow_114 (by decide) (fun hc => ?_) (fun hc => ?_)
                  · replace hf := if_t hf hc
                    exact hj134_83 S71 _ _ _ hf hR hS hE ok_this (lv_sub hl [0, 1, 2, 3, 5] rfl)
                  · replace hf := if_f hf hc
                    refine lv_aload_n hx hb dX11_blow_117 rfl (lv_at hl 0 rfl) ?_
                    obtain ⟨q86, hq87, ok_q86, hf⟩ := gR_of hf
                    refine gf_RX11_40 hC hR ok_this hq87 dX11_blow_118 ?_
                    refine lv_iload hx hb dX11_blow_121 (lv_at hl 5 rfl) ?_
                    obtain ⟨hi88, hf⟩ := ck_of hf
                    refine r_iald hC hR ok_q86 hi88 dX11_blow_123 ?_
                    refine lv_aload_n hx hb dX11_blow_124 rfl (lv_at hl 0 rfl) ?_
                    obtain ⟨q89, hq90, ok_q89, hf⟩ := gR_of hf
                    refine gf_RX11_40 hC hR ok_this hq90 dX11_blow_125 ?_
                    refine lv_iload hx hb dX11_blow_128 (lv_at hl 4 rfl) ?_
                    obtain ⟨hi91, hf⟩ := ck_of hf
                    refine r_iald hC hR ok_q89 hi91 dX11_blow_130 ?_
                    refine lv_icmp_le (tgt := 138) hx hb dX11_blow_131 (by decide) (fun hc => ?_) (fun hc => ?_)
                    · replace hf := if_t hf hc
                      exact hj138_78 x68 S71 _ _ _ hf hR hS hE ok_this (lv_sub hl [0, 1, 2, 3, 4, 5] rfl)
                    · replace hf := if_f hf hc
                      exact hj134_83 S71 _ _ _ hf hR hS hE ok_this (lv_sub hl [0, 1, 2, 3, 5] rfl)
          exact hh95 n (-1 : Int32) (0 : Int32) S10 _ _ _ hf hR hS hE ok_this (lv_sub hl [2, 3, 4, 5, 1, 0] rfl)
    exact hh98 n (0 : Int32) (0 : Int32) S4 _ _ _ hf hR hS hE ok_this (lv_sub hl [2, 3, 1, 0] rfl)
  have hh135 : ∀ k : Nat, ∀ (x101 : Int32) (S102 : MS) (H : Heap) (locs : List Loc) (ls : Array Slot), f_X11_blow_L9 n this a1 x1 j73_3 k x101 S102 = some (ro, So) → Rp G S102 H → va_S (gA G) s.heap H locs → Ex S S102 → Ok S102 this 11 → lv_has ls 8 [(0, .ref this), (1, .int a1), (2, .int x1), (3, .int x101)] → W p l e rX11_blow s m args below meth c H locs 0 0 (MQ below (Qn G S (some (.int ro)) So) args s 0 0 (gA G)) (F0 m 9 ls []) := by
    intro k
    induction k with
    | zero =>
      intro x101 S102 H locs ls hf hR hS hE ok_this hl
      exact absurd hf (by rw [f_X11_blow_L9]; exact fun h => by cases h)
    | succ k ih =>
      intro x101 S102 H locs ls hf hR hS hE ok_this hl
      rw [f_X11_blow_L9] at hf
      obtain ⟨rec9_100, erec9_100, hf⟩ := jn_of2 hf
      have hL9_99 : ∀ (x101 : Int32) (S102 : MS) (H : Heap) (locs : List Loc) (ls : Array Slot), rec9_100 x101 S102 = some (ro, So) → Rp G S102 H → va_S (gA G) s.heap H locs → Ex S S102 → Ok S102 this 11 → lv_has ls 8 [(0, .ref this), (1, .int a1), (2, .int x1), (3, .int x101)] → W p l e rX11_blow s m args below meth c H locs 0 0 (MQ below (Qn G S (some (.int ro)) So) args s 0 0 (gA G)) (F0 m 9 ls []) := by
        intro x101 S102 H locs ls hf hR hS hE ok_this hl
        rw [erec9_100] at hf
        exact ih x101 S102 _ _ _ hf hR hS hE ok_this hl
      refine lv_iload_n hx hb dX11_blow_9 rfl (lv_at hl 3 rfl) ?_
      refine lv_aload_n hx hb dX11_blow_10 rfl (lv_at hl 0 rfl) ?_
      obtain ⟨x106, S103, hc104, hf⟩ := cl_of hf
      refine cl_RX11_316 (As := []) (rest := [.int x101]) hC hR hS (c_X11_bones l G n this S102 x106 S103 hc104 ok_this) ok_this rfl ⟨Nat.le_of_ble_eq_true rfl, Nat.le_of_ble_eq_true rfl⟩ hl.1 rfl (Nat.le_of_ble_eq_true rfl) dX11_blow_11 (Nat.zero_le _) (Nat.zero_le _) (fun H locs hR hS hE105 => ?_)
      have ok_this := hE105 _ _ ok_this
      have hE := hE.tr hE105
      refine lv_icmp_ge (tgt := 73) hx hb dX11_blow_14 (by decide) (fun hc => ?_) (fun hc => ?_)
      · replace hf := if_t hf hc
        exact hj73_2 S103 _ _ _ hf hR hS hE ok_this (lv_sub hl [0, 1] rfl)
      · replace hf := if_f hf hc
        refine lv_aload_n hx hb dX11_blow_17 rfl (lv_at hl 0 rfl) ?_
        obtain ⟨q107, hq108, ok_q107, hf⟩ := gR_of hf
        refine gf_RX11_40 hC hR ok_this hq108 dX11_blow_18 ?_
        refine lv_iload_n hx hb dX11_blow_21 rfl (lv_at hl 3 rfl) ?_
        refine lv_aload_n hx hb dX11_blow_22 rfl (lv_at hl 0 rfl) ?_
        refine lv_iload_n hx hb dX11_blow_23 rfl (lv_at hl 3 rfl) ?_
        obtain ⟨x112, S109, hc110, hf⟩ := cl_of hf
        refine cl_RX11_291 (As := [.int x101]) (rest := [.int x101, .ref q107]) hC hR hS (c_X11_cellOf l G n this x101 S103 x112 S109 hc110 ok_this) ok_this rfl ⟨Nat.le_of_ble_eq_true rfl, Nat.le_of_ble_eq_true rfl⟩ hl.1 rfl (Nat.le_of_ble_eq_true rfl) dX11_blow_24 (Nat.zero_le _) (Nat.zero_le _) (fun H locs hR hS hE111 => ?_)
        have ok_this := hE111 _ _ ok_this
        have ok_q107 := hE111 _ _ ok_q107
        have hE := hE.tr hE111
        refine lv_aload_n hx hb dX11_blow_27 rfl (lv_at hl 0 rfl) ?_
        refine gf_RX11_58 hC hR ok_this dX11_blow_28 ?_
        obtain ⟨hn113, hf⟩ := dv_of hf
        refine lv_irem hx hb dX11_blow_31 hn113 ?_
        refine lv_aload_n hx hb dX11_blow_32 rfl (lv_at hl 0 rfl) ?_
        obtain ⟨q114, hq115, ok_q114, hf⟩ := gR_of hf
        refine gf_RX11_7 hC hR ok_this hq115 dX11_blow_33 ?_
        refine lv_iload_n hx hb dX11_blow_36 rfl (lv_at hl 2 rfl) ?_
        obtain ⟨hi116, hf⟩ := ck_of hf
        refine r_iald hC hR ok_q114 hi116 dX11_blow_37 ?_
        refine lv_imul hx hb dX11_blow_38 ?_
        refine lv_aload_n hx hb dX11_blow_39 rfl (lv_at hl 0 rfl) ?_
        refine lv_iload_n hx hb dX11_blow_40 rfl (lv_at hl 3 rfl) ?_
        obtain ⟨x120, S117, hc118, hf⟩ := cl_of hf
        refine cl_RX11_291 (As := [.int x101]) (rest := [.int ((x112 - x112 / (mI S109 this 1) * (mI S109 this 1)) * (mI S109 q114 x1.toNatClampNeg)), .int x101, .ref q107]) hC hR hS (c_X11_cellOf l G n this x101 S109 x120 S117 hc118 ok_this) ok_this rfl ⟨Nat.le_of_ble_eq_true rfl, Nat.le_of_ble_eq_true rfl⟩ hl.1 rfl (Nat.le_of_ble_eq_true rfl) dX11_blow_41 (Nat.zero_le _) (Nat.zero_le _) (fun H locs hR hS hE119 => ?_)
        have ok_this := hE119 _ _ ok_this
        have ok_q107 := hE119 _ _ ok_q107
        have ok_q114 := hE119 _ _ ok_q114
        have hE := hE.tr hE119
        refine lv_aload_n hx hb dX11_blow_44 rfl (lv_at hl 0 rfl) ?_
        refine gf_RX11_58 hC hR ok_this dX11_blow_45 ?_
        obtain ⟨hn121, hf⟩ := dv_of hf
        refine lv_idiv hx hb dX11_blow_48 hn121 ?_
        refine lv_aload_n hx hb dX11_blow_49 rfl (lv_at hl 0 rfl) ?_
        obtain ⟨q122, hq123, ok_q122, hf⟩ := gR_of hf
        refine gf_RX11_7 hC hR ok_this hq123 dX11_blow_50 ?_
        refine lv_iload_n hx hb dX11_blow_53 rfl (lv_at hl 2 rfl) ?_
        refine lv_iconst (v := 1) hx hb dX11_blow_54 (by decide) ?_
        refine lv_iadd hx hb dX11_blow_55 ?_
        obtain ⟨hi124, hf⟩ := ck_of hf
        refine r_iald hC hR ok_q122 hi124 dX11_blow_56 ?_
        refine lv_imul hx hb dX11_blow_57 ?_
        refine lv_iadd hx hb dX11_blow_58 ?_
        obtain ⟨hi125, hf⟩ := ck_of hf
        refine rB_iast hC hR hS ok_q107 hi125 dX11_blow_59 hf (fun S126 H locs hf hR hS hE127 => ?_)
        have ok_this := hE127 _ _ ok_this
        have ok_q107 := hE127 _ _ ok_q107
        have ok_q114 := hE127 _ _ ok_q114
        have ok_q122 := hE127 _ _ ok_q122
        have hE := hE.tr hE127
        refine lv_aload_n hx hb dX11_blow_60 rfl (lv_at hl 0 rfl) ?_
        obtain ⟨q128, hq129, ok_q128, hf⟩ := gR_of hf
        refine gf_RX11_43 hC hR ok_this hq129 dX11_blow_61 ?_
        refine lv_iload_n hx hb dX11_blow_64 rfl (lv_at hl 3 rfl) ?_
        refine lv_iconst (v := 0) hx hb dX11_blow_65 (by decide) ?_
        obtain ⟨hi130, hf⟩ := ck_of hf
        obtain ⟨hz131, hf⟩ := zb_of hf
        refine rB_zast hC hR hS ok_q128 hi130 hz131 dX11_blow_66 hf (fun S132 H locs hf hR hS hE133 => ?_)
        have ok_this := hE133 _ _ ok_this
        have ok_q107 := hE133 _ _ ok_q107
        have ok_q114 := hE133 _ _ ok_q114
        have ok_q122 := hE133 _ _ ok_q122
        have ok_q128 := hE133 _ _ ok_q128
        have hE := hE.tr hE133
        refine r_iinc (n := 1) (z := 1) (lv' := fun x134 => [(3, .int x134), (0, .ref this), (1, .int a1), (2, .int x1)]) hx hb dX11_blow_67 hl (k := 3) rfl (by decide) (by decide) (fun _ => rfl) hf (fun x134 ls hf hl => ?_)
        refine lv_goto (tgt := 9) hx hb dX11_blow_70 (by decide) ?_
        exact hL9_99 x134 S132 _ _ _ hf hR hS hE ok_this (lv_sub hl [1, 2, 3, 0] rfl)
  exact hh135 n (0 : Int32) S _ _ _ hf hR hS hE ok_this (lv_sub hl [2, 3, 1, 0] rfl)
abbrev rX11_hour : Room := { frames := 7, cells := 0, slots := 0, locals := 172 }
def f_X11_hour (n : Nat) (this : Nat) (a1 : Int32) (S : MS) : Option (Int32 × MS) :=
  cl (f_X11_isWind n this a1 S) fun x4 S1 => (if x4 = 0 then some ((-1 : Int32), S1) else gR S1 (mR S1 this 0) 12 fun q5 => ck (inb (0 : Int32) (mN S1 q5)) ((if (999 : Int32) ≤ (mI S1 q5 (0 : Int32).toNatClampNeg) then some ((-1 : Int32), S1) else cl (f_X11_blow n this a1 S1) fun x11 S8 => some (x11, S8))))
set_option maxRecDepth 100000 in
set_option maxHeartbeats 4000000 in
theorem c_X11_hour (l : Launch) (G : Gx) (n : Nat) (this : Nat) (a1 : Int32) (S : MS) (ro : Int32) (So : MS) (hf : f_X11_hour n this a1 S = some (ro, So)) (ok_this : Ok S this 11) : Cn G l yX11_hour cX11_hour 2 (some .int) rX11_hour [.ref this, .int a1] S (some (.int ro)) So := by
  refine Cn.of (by decide) (Nat.le_of_ble_eq_true rfl) ?_
  intro p e s m args below meth c hC hname hR ls hl
  have hC : Cx G RX11 cX11_hour 2 (some .int) p s m args meth c := hC
  have hl : lv_has ls 2 [(0, .ref this), (1, .int a1)] := hl
  have hx := hC.x
  have hb := hC.b
  have hS : va_S (gA G) s.heap s.heap [] := va_S.rf
  have hE : Ex S S := Ex.rf S
  unfold f_X11_hour at hf
  refine lv_aload_n hx hb dX11_hour_0 rfl (lv_at hl 0 rfl) ?_
  refine lv_iload_n hx hb dX11_hour_1 rfl (lv_at hl 1 rfl) ?_
  obtain ⟨x4, S1, hc2, hf⟩ := cl_of hf
  refine cl_RX11_91 (As := [.int a1]) (rest := []) hC hR hS (c_X11_isWind l G n this a1 S x4 S1 hc2 ok_this) ok_this rfl ⟨Nat.le_of_ble_eq_true rfl, Nat.le_of_ble_eq_true rfl⟩ hl.1 rfl (Nat.le_of_ble_eq_true rfl) dX11_hour_2 (Nat.zero_le _) (Nat.zero_le _) (fun H locs hR hS hE3 => ?_)
  have ok_this := hE3 _ _ ok_this
  have hE := hE.tr hE3
  refine lv_if_eq (tgt := 28) hx hb dX11_hour_5 (by decide) (fun hc => ?_) (fun hc => ?_)
  · replace hf := if_t hf hc
    refine lv_iconst (v := -1) hx hb dX11_hour_28 (by decide) ?_
    exact r_iret hC hR hS hE hf dX11_hour_29
  · replace hf := if_f hf hc
    refine lv_aload_n hx hb dX11_hour_8 rfl (lv_at hl 0 rfl) ?_
    obtain ⟨q5, hq6, ok_q5, hf⟩ := gR_of hf
    refine gf_RX11_7 hC hR ok_this hq6 dX11_hour_9 ?_
    refine lv_iconst (v := 0) hx hb dX11_hour_12 (by decide) ?_
    obtain ⟨hi7, hf⟩ := ck_of hf
    refine r_iald hC hR ok_q5 hi7 dX11_hour_13 ?_
    refine lv_sipush (v := 999) hx hb dX11_hour_14 (by decide) ?_
    refine lv_icmp_ge (tgt := 28) hx hb dX11_hour_17 (by decide) (fun hc => ?_) (fun hc => ?_)
    · replace hf := if_t hf hc
      refine lv_iconst (v := -1) hx hb dX11_hour_28 (by decide) ?_
      exact r_iret hC hR hS hE hf dX11_hour_29
    · replace hf := if_f hf hc
      refine lv_aload_n hx hb dX11_hour_20 rfl (lv_at hl 0 rfl) ?_
      refine lv_iload_n hx hb dX11_hour_21 rfl (lv_at hl 1 rfl) ?_
      obtain ⟨x11, S8, hc9, hf⟩ := cl_of hf
      refine cl_RX11_322 (As := [.int a1]) (rest := []) hC hR hS (c_X11_blow l G n this a1 S1 x11 S8 hc9 ok_this) ok_this rfl ⟨Nat.le_of_ble_eq_true rfl, Nat.le_of_ble_eq_true rfl⟩ hl.1 rfl (Nat.le_of_ble_eq_true rfl) dX11_hour_22 (Nat.zero_le _) (Nat.zero_le _) (fun H locs hR hS hE10 => ?_)
      have ok_this := hE10 _ _ ok_this
      have ok_q5 := hE10 _ _ ok_q5
      have hE := hE.tr hE10
      refine lv_goto (tgt := 29) hx hb dX11_hour_25 (by decide) ?_
      exact r_iret hC hR hS hE hf dX11_hour_29
abbrev rX11_findFields : Room := { frames := 3, cells := 0, slots := 0, locals := 69 }
def f_X11_findFields_L65 (n : Nat) (this : Nat) (x15 : Int32) (j142_18 : Int32 → MS → Option (MS)) : Nat → Int32 → Int32 → MS → Option (MS)
  | 0, _, _, _ => none
  | k + 1, x24, x25, S26 => jn (f_X11_findFields_L65 n this x15 j142_18 k) fun rec65_23 => (if (4 : Int32) ≤ x25 then j142_18 x24 S26 else gR S26 (mR S26 this 30) 12 fun q27 => ck (inb x15 (mN S26 q27)) ((if (mI S26 q27 x15.toNatClampNeg) < 0 then j142_18 x24 S26 else cl (f_X11_sideOf n this x15 x25 S26) fun x33 S30 => jn (fun (x36 : Int32) (S37 : MS) => bd (x25 + (1 : Int32)) fun x38 => rec65_23 x36 x38 S37) fun j136_35 => (if x33 < 0 then j136_35 x24 S30 else gR S30 (mR S30 this 30) 12 fun q39 => ck (inb x33 (mN S30 q39)) ((if (mI S30 q39 x33.toNatClampNeg) < 0 then j136_35 x24 S30 else gR S30 (mR S30 this 30) 12 fun q42 => ck (inb x33 (mN S30 q42)) (gR S30 (mR S30 this 30) 12 fun q45 => ck (inb x15 (mN S30 q45)) ((if (mI S30 q42 x33.toNatClampNeg) < (mI S30 q45 x15.toNatClampNeg) then gR S30 (mR S30 this 30) 12 fun q48 => gR S30 (mR S30 this 30) 12 fun q50 => ck (inb x33 (mN S30 q50)) (ck (inb x15 (mN S30 q48)) (bd (sI S30 q48 x15.toNatClampNeg (mI S30 q50 x33.toNatClampNeg)) fun S54 => j136_35 (1 : Int32) S54)) else j136_35 x24 S30)))))))))
def f_X11_findFields_L55 (n : Nat) (this : Nat) (j148_9 : Int32 → MS → Option (MS)) : Nat → Int32 → Int32 → MS → Option (MS)
  | 0, _, _, _ => none
  | k + 1, x14, x15, S16 => jn (f_X11_findFields_L55 n this j148_9 k) fun rec55_13 => (if (mI S16 this 3) ≤ x15 then j148_9 x14 S16 else jn (fun (x19 : Int32) (S20 : MS) => bd (x15 + (1 : Int32)) fun x21 => rec55_13 x19 x21 S20) fun j142_18 => f_X11_findFields_L65 n this x15 j142_18 n x14 (0 : Int32) S16)
def f_X11_findFields_L47 (n : Nat) (this : Nat) : Nat → Int32 → MS → Option (MS)
  | 0, _, _ => none
  | k + 1, x6, S7 => jn (f_X11_findFields_L47 n this k) fun rec47_5 => (if x6 = 0 then some S7 else jn (fun (x10 : Int32) (S11 : MS) => rec47_5 x10 S11) fun j148_9 => f_X11_findFields_L55 n this j148_9 n (0 : Int32) (0 : Int32) S7)
def f_X11_findFields_L2 (n : Nat) (this : Nat) (j45_2 : MS → Option (MS)) : Nat → Int32 → MS → Option (MS)
  | 0, _, _ => none
  | k + 1, x67, S68 => jn (f_X11_findFields_L2 n this j45_2 k) fun rec2_66 => (if (mI S68 this 3) ≤ x67 then j45_2 S68 else gR S68 (mR S68 this 30) 12 fun q69 => gR S68 (mR S68 this 0) 12 fun q71 => ck (inb (((mI S68 this 4) + (290 : Int32)) + x67) (mN S68 q71)) (jn (fun (q76 : Nat) (x77 : Int32) (x78 : Int32) (S79 : MS) => ck (inb x77 (mN S79 q76)) (bd (sI S79 q76 x77.toNatClampNeg x78) fun S81 => bd (x67 + (1 : Int32)) fun x83 => rec2_66 x83 S81)) fun j38_75 => (if (mI S68 q71 (((mI S68 this 4) + (290 : Int32)) + x67).toNatClampNeg) ≤ 0 then j38_75 q69 x67 x67 S68 else j38_75 q69 x67 (-1 : Int32) S68)))
def f_X11_findFields (n : Nat) (this : Nat) (S : MS) : Option (MS) :=
  jn (fun (S3 : MS) => f_X11_findFields_L47 n this n (1 : Int32) S3) fun j45_2 => f_X11_findFields_L2 n this j45_2 n (0 : Int32) S
set_option maxRecDepth 100000 in
set_option maxHeartbeats 4000000 in
theorem c_X11_findFields (l : Launch) (G : Gx) (n : Nat) (this : Nat) (S : MS) (So : MS) (hf : f_X11_findFields n this S = some So) (ok_this : Ok S this 11) : Cn G l yX11_findFields cX11_findFields 5 none rX11_findFields [.ref this] S none So := by
  refine Cn.of (by decide) (Nat.le_of_ble_eq_true rfl) ?_
  intro p e s m args below meth c hC hname hR ls hl
  have hC : Cx G RX11 cX11_findFields 5 none p s m args meth c := hC
  have hl : lv_has ls 5 [(0, .ref this)] := hl
  have hx := hC.x
  have hb := hC.b
  have hS : va_S (gA G) s.heap s.heap [] := va_S.rf
  have hE : Ex S S := Ex.rf S
  unfold f_X11_findFields at hf
  refine lv_iconst (v := 0) hx hb dX11_findFields_0 (by decide) ?_
  refine lv_istore_n (lv' := [(1, .int (0 : Int32)), (0, .ref this)]) hx hb dX11_findFields_1 rfl hl (by decide) rfl (fun ls hl => ?_)
  obtain ⟨j45_2, ej45_2, hf⟩ := jn_of1 hf
  have hj45_1 : ∀ (S3 : MS) (H : Heap) (locs : List Loc) (ls : Array Slot), j45_2 S3 = some So → Rp G S3 H → va_S (gA G) s.heap H locs → Ex S S3 → Ok S3 this 11 → lv_has ls 5 [(0, .ref this)] → W p l e rX11_findFields s m args below meth c H locs 0 0 (MQ below (Qn G S none So) args s 0 0 (gA G)) (F0 m 45 ls []) := by
    intro S3 H locs ls hf hR hS hE ok_this hl
    rw [ej45_2] at hf
    refine lv_iconst (v := 1) hx hb dX11_findFields_45 (by decide) ?_
    refine lv_istore_n (lv' := [(1, .int (1 : Int32)), (0, .ref this)]) hx hb dX11_findFields_46 rfl hl (by decide) rfl (fun ls hl => ?_)
    have hh64 : ∀ k : Nat, ∀ (x6 : Int32) (S7 : MS) (H : Heap) (locs : List Loc) (ls : Array Slot), f_X11_findFields_L47 n this k x6 S7 = some So → Rp G S7 H → va_S (gA G) s.heap H locs → Ex S S7 → Ok S7 this 11 → lv_has ls 5 [(0, .ref this), (1, .int x6)] → W p l e rX11_findFields s m args below meth c H locs 0 0 (MQ below (Qn G S none So) args s 0 0 (gA G)) (F0 m 47 ls []) := by
      intro k
      induction k with
      | zero =>
        intro x6 S7 H locs ls hf hR hS hE ok_this hl
        exact absurd hf (by rw [f_X11_findFields_L47]; exact fun h => by cases h)
      | succ k ih =>
        intro x6 S7 H locs ls hf hR hS hE ok_this hl
        rw [f_X11_findFields_L47] at hf
        obtain ⟨rec47_5, erec47_5, hf⟩ := jn_of2 hf
        have hL47_4 : ∀ (x6 : Int32) (S7 : MS) (H : Heap) (locs : List Loc) (ls : Array Slot), rec47_5 x6 S7 = some So → Rp G S7 H → va_S (gA G) s.heap H locs → Ex S S7 → Ok S7 this 11 → lv_has ls 5 [(0, .ref this), (1, .int x6)] → W p l e rX11_findFields s m args below meth c H locs 0 0 (MQ below (Qn G S none So) args s 0 0 (gA G)) (F0 m 47 ls []) := by
          intro x6 S7 H locs ls hf hR hS hE ok_this hl
          rw [erec47_5] at hf
          exact ih x6 S7 _ _ _ hf hR hS hE ok_this hl
        refine lv_iload_n hx hb dX11_findFields_47 rfl (lv_at hl 1 rfl) ?_
        refine lv_if_eq (tgt := 151) hx hb dX11_findFields_48 (by decide) (fun hc => ?_) (fun hc => ?_)
        · replace hf := if_t hf hc
          exact r_vret hC hR hS hE hf dX11_findFields_151
        · replace hf := if_f hf hc
          refine lv_iconst (v := 0) hx hb dX11_findFields_51 (by decide) ?_
          refine lv_istore_n (lv' := [(1, .int (0 : Int32)), (0, .ref this)]) hx hb dX11_findFields_52 rfl hl (by decide) rfl (fun ls hl => ?_)
          refine lv_iconst (v := 0) hx hb dX11_findFields_53 (by decide) ?_
          refine lv_istore_n (lv' := [(2, .int (0 : Int32)), (1, .int (0 : Int32)), (0, .ref this)]) hx hb dX11_findFields_54 rfl hl (by decide) rfl (fun ls hl => ?_)
          obtain ⟨j148_9, ej148_9, hf⟩ := jn_of2 hf
          have hj148_8 : ∀ (x10 : Int32) (S11 : MS) (H : Heap) (locs : List Loc) (ls : Array Slot), j148_9 x10 S11 = some So → Rp G S11 H → va_S (gA G) s.heap H locs → Ex S S11 → Ok S11 this 11 → lv_has ls 5 [(0, .ref this), (1, .int x10)] → W p l e rX11_findFields s m args below meth c H locs 0 0 (MQ below (Qn G S none So) args s 0 0 (gA G)) (F0 m 148 ls []) := by
            intro x10 S11 H locs ls hf hR hS hE ok_this hl
            rw [ej148_9] at hf
            refine lv_goto (tgt := 47) hx hb dX11_findFields_148 (by decide) ?_
            exact hL47_4 x10 S11 _ _ _ hf hR hS hE ok_this (lv_sub hl [0, 1] rfl)
          have hh61 : ∀ k : Nat, ∀ (x14 : Int32) (x15 : Int32) (S16 : MS) (H : Heap) (locs : List Loc) (ls : Array Slot), f_X11_findFields_L55 n this j148_9 k x14 x15 S16 = some So → Rp G S16 H → va_S (gA G) s.heap H locs → Ex S S16 → Ok S16 this 11 → lv_has ls 5 [(0, .ref this), (1, .int x14), (2, .int x15)] → W p l e rX11_findFields s m args below meth c H locs 0 0 (MQ below (Qn G S none So) args s 0 0 (gA G)) (F0 m 55 ls []) := by
            intro k
            induction k with
            | zero =>
              intro x14 x15 S16 H locs ls hf hR hS hE ok_this hl
              exact absurd hf (by rw [f_X11_findFields_L55]; exact fun h => by cases h)
            | succ k ih =>
              intro x14 x15 S16 H locs ls hf hR hS hE ok_this hl
              rw [f_X11_findFields_L55] at hf
              obtain ⟨rec55_13, erec55_13, hf⟩ := jn_of3 hf
              have hL55_12 : ∀ (x14 : Int32) (x15 : Int32) (S16 : MS) (H : Heap) (locs : List Loc) (ls : Array Slot), rec55_13 x14 x15 S16 = some So → Rp G S16 H → va_S (gA G) s.heap H locs → Ex S S16 → Ok S16 this 11 → lv_has ls 5 [(0, .ref this), (1, .int x14), (2, .int x15)] → W p l e rX11_findFields s m args below meth c H locs 0 0 (MQ below (Qn G S none So) args s 0 0 (gA G)) (F0 m 55 ls []) := by
                intro x14 x15 S16 H locs ls hf hR hS hE ok_this hl
                rw [erec55_13] at hf
                exact ih x14 x15 S16 _ _ _ hf hR hS hE ok_this hl
              refine lv_iload_n hx hb dX11_findFields_55 rfl (lv_at hl 2 rfl) ?_
              refine lv_aload_n hx hb dX11_findFields_56 rfl (lv_at hl 0 rfl) ?_
              refine gf_RX11_64 hC hR ok_this dX11_findFields_57 ?_
              refine lv_icmp_ge (tgt := 148) hx hb dX11_findFields_60 (by decide) (fun hc => ?_) (fun hc => ?_)
              · replace hf := if_t hf hc
                exact hj148_8 x14 S16 _ _ _ hf hR hS hE ok_this (lv_sub hl [0, 1] rfl)
              · replace hf := if_f hf hc
                refine lv_iconst (v := 0) hx hb dX11_findFields_63 (by decide) ?_
                refine lv_istore_n (lv' := [(3, .int (0 : Int32)), (0, .ref this), (1, .int x14), (2, .int x15)]) hx hb dX11_findFields_64 rfl hl (by decide) rfl (fun ls hl => ?_)
                obtain ⟨j142_18, ej142_18, hf⟩ := jn_of2 hf
                have hj142_17 : ∀ (x19 : Int32) (S20 : MS) (H : Heap) (locs : List Loc) (ls : Array Slot), j142_18 x19 S20 = some So → Rp G S20 H → va_S (gA G) s.heap H locs → Ex S S20 → Ok S20 this 11 → lv_has ls 5 [(0, .ref this), (1, .int x19), (2, .int x15)] → W p l e rX11_findFields s m args below meth c H locs 0 0 (MQ below (Qn G S none So) args s 0 0 (gA G)) (F0 m 142 ls []) := by
                  intro x19 S20 H locs ls hf hR hS hE ok_this hl
                  rw [ej142_18] at hf
                  refine r_iinc (n := 1) (z := 1) (lv' := fun x21 => [(2, .int x21), (0, .ref this), (1, .int x19)]) hx hb dX11_findFields_142 hl (k := 2) rfl (by decide) (by decide) (fun _ => rfl) hf (fun x21 ls hf hl => ?_)
                  refine lv_goto (tgt := 55) hx hb dX11_findFields_145 (by decide) ?_
                  exact hL55_12 x19 x21 S20 _ _ _ hf hR hS hE ok_this (lv_sub hl [1, 2, 0] rfl)
                have hh58 : ∀ k : Nat, ∀ (x24 : Int32) (x25 : Int32) (S26 : MS) (H : Heap) (locs : List Loc) (ls : Array Slot), f_X11_findFields_L65 n this x15 j142_18 k x24 x25 S26 = some So → Rp G S26 H → va_S (gA G) s.heap H locs → Ex S S26 → Ok S26 this 11 → lv_has ls 5 [(0, .ref this), (1, .int x24), (2, .int x15), (3, .int x25)] → W p l e rX11_findFields s m args below meth c H locs 0 0 (MQ below (Qn G S none So) args s 0 0 (gA G)) (F0 m 65 ls []) := by
                  intro k
                  induction k with
                  | zero =>
                    intro x24 x25 S26 H locs ls hf hR hS hE ok_this hl
                    exact absurd hf (by rw [f_X11_findFields_L65]; exact fun h => by cases h)
                  | succ k ih =>
                    intro x24 x25 S26 H locs ls hf hR hS hE ok_this hl
                    rw [f_X11_findFields_L65] at hf
                    obtain ⟨rec65_23, erec65_23, hf⟩ := jn_of3 hf
                    have hL65_22 : ∀ (x24 : Int32) (x25 : Int32) (S26 : MS) (H : Heap) (locs : List Loc) (ls : Array Slot), rec65_23 x24 x25 S26 = some So → Rp G S26 H → va_S (gA G) s.heap H locs → Ex S S26 → Ok S26 this 11 → lv_has ls 5 [(0, .ref this), (1, .int x24), (2, .int x15), (3, .int x25)] → W p l e rX11_findFields s m args below meth c H locs 0 0 (MQ below (Qn G S none So) args s 0 0 (gA G)) (F0 m 65 ls []) := by
                      intro x24 x25 S26 H locs ls hf hR hS hE ok_this hl
                      rw [erec65_23] at hf
                      exact ih x24 x25 S26 _ _ _ hf hR hS hE ok_this hl
                    refine lv_iload_n hx hb dX11_findFields_65 rfl (lv_at hl 3 rfl) ?_
                    refine lv_iconst (v := 4) hx hb dX11_findFields_66 (by decide) ?_
                    refine lv_icmp_ge (tgt := 142) hx hb dX11_findFields_67 (by decide) (fun hc => ?_) (fun hc => ?_)
                    · replace hf := if_t hf hc
                      exact hj142_17 x24 S26 _ _ _ hf hR hS hE ok_this (lv_sub hl [0, 1, 2] rfl)
                    · replace hf := if_f hf hc
                      refine lv_aload_n hx hb dX11_findFields_70 rfl (lv_at hl 0 rfl) ?_
                      obtain ⟨q27, hq28, ok_q27, hf⟩ := gR_of hf
                      refine gf_RX11_46 hC hR ok_this hq28 dX11_findFields_71 ?_
                      refine lv_iload_n hx hb dX11_findFields_74 rfl (lv_at hl 2 rfl) ?_
                      obtain ⟨hi29, hf⟩ := ck_of hf
                      refine r_iald hC hR ok_q27 hi29 dX11_findFields_75 ?_
                      refine lv_if_lt (tgt := 142) hx hb dX11_findFields_76 (by decide) (fun hc => ?_) (fun hc => ?_)
                      · replace hf := if_t hf hc
                        exact hj142_17 x24 S26 _ _ _ hf hR hS hE ok_this (lv_sub hl [0, 1, 2] rfl)
                      · replace hf := if_f hf hc
                        refine lv_aload_n hx hb dX11_findFields_79 rfl (lv_at hl 0 rfl) ?_
                        refine lv_iload_n hx hb dX11_findFields_80 rfl (lv_at hl 2 rfl) ?_
                        refine lv_iload_n hx hb dX11_findFields_81 rfl (lv_at hl 3 rfl) ?_
                        obtain ⟨x33, S30, hc31, hf⟩ := cl_of hf
                        refine cl_RX11_294 (As := [.int x15, .int x25]) (rest := []) hC hR hS (c_X11_sideOf l G n this x15 x25 S26 x33 S30 hc31 ok_this) ok_this rfl ⟨Nat.le_of_ble_eq_true rfl, Nat.le_of_ble_eq_true rfl⟩ hl.1 rfl (Nat.le_of_ble_eq_true rfl) dX11_findFields_82 (Nat.zero_le _) (Nat.zero_le _) (fun H locs hR hS hE32 => ?_)
                        have ok_this := hE32 _ _ ok_this
                        have ok_q27 := hE32 _ _ ok_q27
                        have hE := hE.tr hE32
                        refine lv_istore (lv' := [(4, .int x33), (0, .ref this), (1, .int x24), (2, .int x15), (3, .int x25)]) hx hb dX11_findFields_85 hl (by decide) rfl (fun ls hl => ?_)
                        refine lv_iload hx hb dX11_findFields_87 (lv_at hl 0 rfl) ?_
                        obtain ⟨j136_35, ej136_35, hf⟩ := jn_of2 hf
                        have hj136_34 : ∀ (x36 : Int32) (S37 : MS) (H : Heap) (locs : List Loc) (ls : Array Slot), j136_35 x36 S37 = some So → Rp G S37 H → va_S (gA G) s.heap H locs → Ex S S37 → Ok S37 this 11 → lv_has ls 5 [(0, .ref this), (1, .int x36), (2, .int x15), (3, .int x25)] → W p l e rX11_findFields s m args below meth c H locs 0 0 (MQ below (Qn G S none So) args s 0 0 (gA G)) (F0 m 136 ls []) := by
                          intro x36 S37 H locs ls hf hR hS hE ok_this hl
                          rw [ej136_35] at hf
                          refine r_iinc (n := 1) (z := 1) (lv' := fun x38 => [(3, .int x38), (0, .ref this), (1, .int x36), (2, .int x15)]) hx hb dX11_findFields_136 hl (k := 3) rfl (by decide) (by decide) (fun _ => rfl) hf (fun x38 ls hf hl => ?_)
                          refine lv_goto (tgt := 65) hx hb dX11_findFields_139 (by decide) ?_
                          exact hL65_22 x36 x38 S37 _ _ _ hf hR hS hE ok_this (lv_sub hl [1, 2, 3, 0] rfl)
                        refine lv_if_lt (tgt := 136) hx hb dX11_findFields_89 (by decide) (fun hc => ?_) (fun hc => ?_)
                        · replace hf := if_t hf hc
                          exact hj136_34 x24 S30 _ _ _ hf hR hS hE ok_this (lv_sub hl [1, 2, 3, 4] rfl)
                        · replace hf := if_f hf hc
                          refine lv_aload_n hx hb dX11_findFields_92 rfl (lv_at hl 1 rfl) ?_
                          obtain ⟨q39, hq40, ok_q39, hf⟩ := gR_of hf
                          refine gf_RX11_46 hC hR ok_this hq40 dX11_findFields_93 ?_
                          refine lv_iload hx hb dX11_findFields_96 (lv_at hl 0 rfl) ?_
                          obtain ⟨hi41, hf⟩ := ck_of hf
                          refine r_iald hC hR ok_q39 hi41 dX11_findFields_98 ?_
                          refine lv_if_lt (tgt := 136) hx hb dX11_findFields_99 (by decide) (fun hc => ?_) (fun hc => ?_)
                          · replace hf := if_t hf hc
                            exact hj136_34 x24 S30 _ _ _ hf hR hS hE ok_this (lv_sub hl [1, 2, 3, 4] rfl)
                          · replace hf := if_f hf hc
                            refine lv_aload_n hx hb dX11_findFields_102 rfl (lv_at hl 1 rfl) ?_
                            obtain ⟨q42, hq43, ok_q42, hf⟩ := gR_of hf
                            refine gf_RX11_46 hC hR ok_this hq43 dX11_findFields_103 ?_
                            refine lv_iload hx hb dX11_findFields_106 (lv_at hl 0 rfl) ?_
                            obtain ⟨hi44, hf⟩ := ck_of hf
                            refine r_iald hC hR ok_q42 hi44 dX11_findFields_108 ?_
                            refine lv_aload_n hx hb dX11_findFields_109 rfl (lv_at hl 1 rfl) ?_
                            obtain ⟨q45, hq46, ok_q45, hf⟩ := gR_of hf
                            refine gf_RX11_46 hC hR ok_this hq46 dX11_findFields_110 ?_
                            refine lv_iload_n hx hb dX11_findFields_113 rfl (lv_at hl 3 rfl) ?_
                            obtain ⟨hi47, hf⟩ := ck_of hf
                            refine r_iald hC hR ok_q45 hi47 dX11_findFields_114 ?_
                            refine lv_icmp_lt (tgt := 121) hx hb dX11_findFields_115 (by decide) (fun hc => ?_) (fun hc => ?_)
                            · replace hf := if_t hf hc
                              refine lv_aload_n hx hb dX11_findFields_121 rfl (lv_at hl 1 rfl) ?_
                              obtain ⟨q48, hq49, ok_q48, hf⟩ := gR_of hf
                              refine gf_RX11_46 hC hR ok_this hq49 dX11_findFields_122 ?_
                              refine lv_iload_n hx hb dX11_findFields_125 rfl (lv_at hl 3 rfl) ?_
                              refine lv_aload_n hx hb dX11_findFields_126 rfl (lv_at hl 1 rfl) ?_
                              obtain ⟨q50, hq51, ok_q50, hf⟩ := gR_of hf
                              refine gf_RX11_46 hC hR ok_this hq51 dX11_findFields_127 ?_
                              refine lv_iload hx hb dX11_findFields_130 (lv_at hl 0 rfl) ?_
                              obtain ⟨hi52, hf⟩ := ck_of hf
                              refine r_iald hC hR ok_q50 hi52 dX11_findFields_132 ?_
                              obtain ⟨hi53, hf⟩ := ck_of hf
                              refine rB_iast hC hR hS ok_q48 hi53 dX11_findFields_133 hf (fun S54 H locs hf hR hS hE55 => ?_)
                              have ok_this := hE55 _ _ ok_this
                              have ok_q27 := hE55 _ _ ok_q27
                              have ok_q39 := hE55 _ _ ok_q39
                              have ok_q42 := hE55 _ _ ok_q42
                              have ok_q45 := hE55 _ _ ok_q45
                              have ok_q48 := hE55 _ _ ok_q48
                              have ok_q50 := hE55 _ _ ok_q50
                              have hE := hE.tr hE55
                              refine lv_iconst (v := 1) hx hb dX11_findFields_134 (by decide) ?_
                              refine lv_istore_n (lv' := [(1, .int (1 : Int32)), (4, .int x33), (0, .ref this), (2, .int x15), (3, .int x25)]) hx hb dX11_findFields_135 rfl hl (by decide) rfl (fun ls hl => ?_)
                              exact hj136_34 (1 : Int32) S54 _ _ _ hf hR hS hE ok_this (lv_sub hl [2, 0, 3, 4] rfl)
                            · replace hf := if_f hf hc
                              refine lv_goto (tgt := 136) hx hb dX11_findFields_118 (by decide) ?_
                              exact hj136_34 x24 S30 _ _ _ hf hR hS hE ok_this (lv_sub hl [1, 2, 3, 4] rfl)
                exact hh58 n x14 (0 : Int32) S16 _ _ _ hf hR hS hE ok_this (lv_sub hl [1, 2, 3, 0] rfl)
          exact hh61 n (0 : Int32) (0 : Int32) S7 _ _ _ hf hR hS hE ok_this (lv_sub hl [2, 1, 0] rfl)
    exact hh64 n (1 : Int32) S3 _ _ _ hf hR hS hE ok_this (lv_sub hl [1, 0] rfl)
  have hh88 : ∀ k : Nat, ∀ (x67 : Int32) (S68 : MS) (H : Heap) (locs : List Loc) (ls : Array Slot), f_X11_findFields_L2 n this j45_2 k x67 S68 = some So → Rp G S68 H → va_S (gA G) s.heap H locs → Ex S S68 → Ok S68 this 11 → lv_has ls 5 [(0, .ref this), (1, .int x67)] → W p l e rX11_findFields s m args below meth c H locs 0 0 (MQ below (Qn G S none So) args s 0 0 (gA G)) (F0 m 2 ls []) := by
    intro k
    induction k with
    | zero =>
      intro x67 S68 H locs ls hf hR hS hE ok_this hl
      exact absurd hf (by rw [f_X11_findFields_L2]; exact fun h => by cases h)
    | succ k ih =>
      intro x67 S68 H locs ls hf hR hS hE ok_this hl
      rw [f_X11_findFields_L2] at hf
      obtain ⟨rec2_66, erec2_66, hf⟩ := jn_of2 hf
      have hL2_65 : ∀ (x67 : Int32) (S68 : MS) (H : Heap) (locs : List Loc) (ls : Array Slot), rec2_66 x67 S68 = some So → Rp G S68 H → va_S (gA G) s.heap H locs → Ex S S68 → Ok S68 this 11 → lv_has ls 5 [(0, .ref this), (1, .int x67)] → W p l e rX11_findFields s m args below meth c H locs 0 0 (MQ below (Qn G S none So) args s 0 0 (gA G)) (F0 m 2 ls []) := by
        intro x67 S68 H locs ls hf hR hS hE ok_this hl
        rw [erec2_66] at hf
        exact ih x67 S68 _ _ _ hf hR hS hE ok_this hl
      refine lv_iload_n hx hb dX11_findFields_2 rfl (lv_at hl 1 rfl) ?_
      refine lv_aload_n hx hb dX11_findFields_3 rfl (lv_at hl 0 rfl) ?_
      refine gf_RX11_64 hC hR ok_this dX11_findFields_4 ?_
      refine lv_icmp_ge (tgt := 45) hx hb dX11_findFields_7 (by decide) (fun hc => ?_) (fun hc => ?_)
      · replace hf := if_t hf hc
        exact hj45_1 S68 _ _ _ hf hR hS hE ok_this (lv_sub hl [0] rfl)
      · replace hf := if_f hf hc
        refine lv_aload_n hx hb dX11_findFields_10 rfl (lv_at hl 0 rfl) ?_
        obtain ⟨q69, hq70, ok_q69, hf⟩ := gR_of hf
        refine gf_RX11_46 hC hR ok_this hq70 dX11_findFields_11 ?_
        refine lv_iload_n hx hb dX11_findFields_14 rfl (lv_at hl 1 rfl) ?_
        refine lv_aload_n hx hb dX11_findFields_15 rfl (lv_at hl 0 rfl) ?_
        obtain ⟨q71, hq72, ok_q71, hf⟩ := gR_of hf
        refine gf_RX11_7 hC hR ok_this hq72 dX11_findFields_16 ?_
        refine lv_aload_n hx hb dX11_findFields_19 rfl (lv_at hl 0 rfl) ?_
        refine gf_RX11_75 hC hR ok_this dX11_findFields_20 ?_
        refine lv_sipush (v := 290) hx hb dX11_findFields_23 (by decide) ?_
        refine lv_iadd hx hb dX11_findFields_26 ?_
        refine lv_iload_n hx hb dX11_findFields_27 rfl (lv_at hl 1 rfl) ?_
        refine lv_iadd hx hb dX11_findFields_28 ?_
        obtain ⟨hi73, hf⟩ := ck_of hf
        refine r_iald hC hR ok_q71 hi73 dX11_findFields_29 ?_
        obtain ⟨j38_75, ej38_75, hf⟩ := jn_of4 hf
        have hj38_74 : ∀ (q76 : Nat) (x77 : Int32) (x78 : Int32) (S79 : MS) (H : Heap) (locs : List Loc) (ls : Array Slot), j38_75 q76 x77 x78 S79 = some So → Rp G S79 H → va_S (gA G) s.heap H locs → Ex S S79 → Ok S79 this 11 → Ok S79 q76 12 → lv_has ls 5 [(0, .ref this), (1, .int x67)] → W p l e rX11_findFields s m args below meth c H locs 0 0 (MQ below (Qn G S none So) args s 0 0 (gA G)) (F0 m 38 ls [.int x78, .int x77, .ref q76]) := by
          intro q76 x77 x78 S79 H locs ls hf hR hS hE ok_this ok_q76 hl
          rw [ej38_75] at hf
          obtain ⟨hi80, hf⟩ := ck_of hf
          refine rB_iast hC hR hS ok_q76 hi80 dX11_findFields_38 hf (fun S81 H locs hf hR hS hE82 => ?_)
          have ok_this := hE82 _ _ ok_this
          have ok_q76 := hE82 _ _ ok_q76
          have hE := hE.tr hE82
          refine r_iinc (n := 1) (z := 1) (lv' := fun x83 => [(1, .int x83), (0, .ref this)]) hx hb dX11_findFields_39 hl (k := 1) rfl (by decide) (by decide) (fun _ => rfl) hf (fun x83 ls hf hl => ?_)
          refine lv_goto (tgt := 2) hx hb dX11_findFields_42 (by decide) ?_
          exact hL2_65 x83 S81 _ _ _ hf hR hS hE ok_this (lv_sub hl [1, 0] rfl)
        refine lv_if_le (tgt := 37) hx hb dX11_findFields_30 (by decide) (fun hc => ?_) (fun hc => ?_)
        · replace hf := if_t hf hc
          refine lv_iload_n hx hb dX11_findFields_37 rfl (lv_at hl 1 rfl) ?_
          exact hj38_74 q69 x67 x67 S68 _ _ _ hf hR hS hE ok_this ok_q69 (lv_sub hl [0, 1] rfl)
        · replace hf := if_f hf hc
          refine lv_iconst (v := -1) hx hb dX11_findFields_33 (by decide) ?_
          refine lv_goto (tgt := 38) hx hb dX11_findFields_34 (by decide) ?_
          exact hj38_74 q69 x67 (-1 : Int32) S68 _ _ _ hf hR hS hE ok_this ok_q69 (lv_sub hl [0, 1] rfl)
  exact hh88 n (0 : Int32) S _ _ _ hf hR hS hE ok_this (lv_sub hl [1, 0] rfl)
abbrev rX11_stakeOf : Room := { frames := 0, cells := 0, slots := 0, locals := 0 }
def f_X11_stakeOf (_n : Nat) (this : Nat) (a1 : Int32) (S : MS) : Option (Int32 × MS) :=
  gR S (mR S this 0) 12 fun q1 => ck (inb (((mI S this 4) + (85 : Int32)) + a1) (mN S q1)) (some ((mI S q1 (((mI S this 4) + (85 : Int32)) + a1).toNatClampNeg), S))
set_option maxRecDepth 100000 in
set_option maxHeartbeats 4000000 in
theorem c_X11_stakeOf (l : Launch) (G : Gx) (n : Nat) (this : Nat) (a1 : Int32) (S : MS) (ro : Int32) (So : MS) (hf : f_X11_stakeOf n this a1 S = some (ro, So)) (ok_this : Ok S this 11) : Cn G l yX11_stakeOf cX11_stakeOf 2 (some .int) rX11_stakeOf [.ref this, .int a1] S (some (.int ro)) So := by
  refine Cn.of (by decide) (Nat.le_of_ble_eq_true rfl) ?_
  intro p e s m args below meth c hC hname hR ls hl
  have hC : Cx G RX11 cX11_stakeOf 2 (some .int) p s m args meth c := hC
  have hl : lv_has ls 2 [(0, .ref this), (1, .int a1)] := hl
  have hx := hC.x
  have hb := hC.b
  have hS : va_S (gA G) s.heap s.heap [] := va_S.rf
  have hE : Ex S S := Ex.rf S
  unfold f_X11_stakeOf at hf
  refine lv_aload_n hx hb dX11_stakeOf_0 rfl (lv_at hl 0 rfl) ?_
  obtain ⟨q1, hq2, ok_q1, hf⟩ := gR_of hf
  refine gf_RX11_7 hC hR ok_this hq2 dX11_stakeOf_1 ?_
  refine lv_aload_n hx hb dX11_stakeOf_4 rfl (lv_at hl 0 rfl) ?_
  refine gf_RX11_75 hC hR ok_this dX11_stakeOf_5 ?_
  refine lv_bipush (v := 85) hx hb dX11_stakeOf_8 (by decide) ?_
  refine lv_iadd hx hb dX11_stakeOf_10 ?_
  refine lv_iload_n hx hb dX11_stakeOf_11 rfl (lv_at hl 1 rfl) ?_
  refine lv_iadd hx hb dX11_stakeOf_12 ?_
  obtain ⟨hi3, hf⟩ := ck_of hf
  refine r_iald hC hR ok_q1 hi3 dX11_stakeOf_13 ?_
  exact r_iret hC hR hS hE hf dX11_stakeOf_14
abbrev rX11_fieldOf : Room := { frames := 1, cells := 0, slots := 0, locals := 21 }
def f_X11_fieldOf (n : Nat) (this : Nat) (a1 : Int32) (S : MS) : Option (Int32 × MS) :=
  cl (f_X11_stakeOf n this a1 S) fun x4 S1 => (if 0 ≤ x4 then gR S1 (mR S1 this 30) 12 fun q5 => cl (f_X11_stakeOf n this a1 S1) fun x10 S7 => ck (inb x10 (mN S7 q5)) (some ((mI S7 q5 x10.toNatClampNeg), S7)) else some ((-1 : Int32), S1))
set_option maxRecDepth 100000 in
set_option maxHeartbeats 4000000 in
theorem c_X11_fieldOf (l : Launch) (G : Gx) (n : Nat) (this : Nat) (a1 : Int32) (S : MS) (ro : Int32) (So : MS) (hf : f_X11_fieldOf n this a1 S = some (ro, So)) (ok_this : Ok S this 11) : Cn G l yX11_fieldOf cX11_fieldOf 2 (some .int) rX11_fieldOf [.ref this, .int a1] S (some (.int ro)) So := by
  refine Cn.of (by decide) (Nat.le_of_ble_eq_true rfl) ?_
  intro p e s m args below meth c hC hname hR ls hl
  have hC : Cx G RX11 cX11_fieldOf 2 (some .int) p s m args meth c := hC
  have hl : lv_has ls 2 [(0, .ref this), (1, .int a1)] := hl
  have hx := hC.x
  have hb := hC.b
  have hS : va_S (gA G) s.heap s.heap [] := va_S.rf
  have hE : Ex S S := Ex.rf S
  unfold f_X11_fieldOf at hf
  refine lv_aload_n hx hb dX11_fieldOf_0 rfl (lv_at hl 0 rfl) ?_
  refine lv_iload_n hx hb dX11_fieldOf_1 rfl (lv_at hl 1 rfl) ?_
  obtain ⟨x4, S1, hc2, hf⟩ := cl_of hf
  refine cl_RX11_325 (As := [.int a1]) (rest := []) hC hR hS (c_X11_stakeOf l G n this a1 S x4 S1 hc2 ok_this) ok_this rfl ⟨Nat.le_of_ble_eq_true rfl, Nat.le_of_ble_eq_true rfl⟩ hl.1 rfl (Nat.le_of_ble_eq_true rfl) dX11_fieldOf_2 (Nat.zero_le _) (Nat.zero_le _) (fun H locs hR hS hE3 => ?_)
  have ok_this := hE3 _ _ ok_this
  have hE := hE.tr hE3
  refine lv_if_ge (tgt := 12) hx hb dX11_fieldOf_5 (by decide) (fun hc => ?_) (fun hc => ?_)
  · replace hf := if_t hf hc
    refine lv_aload_n hx hb dX11_fieldOf_12 rfl (lv_at hl 0 rfl) ?_
    obtain ⟨q5, hq6, ok_q5, hf⟩ := gR_of hf
    refine gf_RX11_46 hC hR ok_this hq6 dX11_fieldOf_13 ?_
    refine lv_aload_n hx hb dX11_fieldOf_16 rfl (lv_at hl 0 rfl) ?_
    refine lv_iload_n hx hb dX11_fieldOf_17 rfl (lv_at hl 1 rfl) ?_
    obtain ⟨x10, S7, hc8, hf⟩ := cl_of hf
    refine cl_RX11_325 (As := [.int a1]) (rest := [.ref q5]) hC hR hS (c_X11_stakeOf l G n this a1 S1 x10 S7 hc8 ok_this) ok_this rfl ⟨Nat.le_of_ble_eq_true rfl, Nat.le_of_ble_eq_true rfl⟩ hl.1 rfl (Nat.le_of_ble_eq_true rfl) dX11_fieldOf_18 (Nat.zero_le _) (Nat.zero_le _) (fun H locs hR hS hE9 => ?_)
    have ok_this := hE9 _ _ ok_this
    have ok_q5 := hE9 _ _ ok_q5
    have hE := hE.tr hE9
    obtain ⟨hi11, hf⟩ := ck_of hf
    refine r_iald hC hR ok_q5 hi11 dX11_fieldOf_21 ?_
    exact r_iret hC hR hS hE hf dX11_fieldOf_22
  · replace hf := if_f hf hc
    refine lv_iconst (v := -1) hx hb dX11_fieldOf_8 (by decide) ?_
    refine lv_goto (tgt := 22) hx hb dX11_fieldOf_9 (by decide) ?_
    exact r_iret hC hR hS hE hf dX11_fieldOf_22
abbrev rX11_has : Room := { frames := 2, cells := 0, slots := 0, locals := 42 }
def f_X11_has (n : Nat) (this : Nat) (a1 : Int32) (a2 : Int32) (S : MS) : Option (Int32 × MS) :=
  gR S (mR S this 30) 12 fun q1 => ck (inb a2 (mN S q1)) ((if (mI S q1 a2.toNatClampNeg) < 0 then zb (0 : Int32) (some ((0 : Int32), S)) else cl (f_X11_fieldOf n this a1 S) fun x7 S4 => gR S4 (mR S4 this 30) 12 fun q8 => ck (inb a2 (mN S4 q8)) ((if x7 = (mI S4 q8 a2.toNatClampNeg) then zb (1 : Int32) (some ((1 : Int32), S4)) else zb (0 : Int32) (some ((0 : Int32), S4))))))
set_option maxRecDepth 100000 in
set_option maxHeartbeats 4000000 in
theorem c_X11_has (l : Launch) (G : Gx) (n : Nat) (this : Nat) (a1 : Int32) (a2 : Int32) (S : MS) (ro : Int32) (So : MS) (hf : f_X11_has n this a1 a2 S = some (ro, So)) (ok_this : Ok S this 11) : Cn G l yX11_has cX11_has 3 (some .boolean) rX11_has [.ref this, .int a1, .int a2] S (some (.int ro)) So := by
  refine Cn.of (by decide) (Nat.le_of_ble_eq_true rfl) ?_
  intro p e s m args below meth c hC hname hR ls hl
  have hC : Cx G RX11 cX11_has 3 (some .boolean) p s m args meth c := hC
  have hl : lv_has ls 3 [(0, .ref this), (1, .int a1), (2, .int a2)] := hl
  have hx := hC.x
  have hb := hC.b
  have hS : va_S (gA G) s.heap s.heap [] := va_S.rf
  have hE : Ex S S := Ex.rf S
  unfold f_X11_has at hf
  refine lv_aload_n hx hb dX11_has_0 rfl (lv_at hl 0 rfl) ?_
  obtain ⟨q1, hq2, ok_q1, hf⟩ := gR_of hf
  refine gf_RX11_46 hC hR ok_this hq2 dX11_has_1 ?_
  refine lv_iload_n hx hb dX11_has_4 rfl (lv_at hl 2 rfl) ?_
  obtain ⟨hi3, hf⟩ := ck_of hf
  refine r_iald hC hR ok_q1 hi3 dX11_has_5 ?_
  refine lv_if_lt (tgt := 27) hx hb dX11_has_6 (by decide) (fun hc => ?_) (fun hc => ?_)
  · replace hf := if_t hf hc
    refine lv_iconst (v := 0) hx hb dX11_has_27 (by decide) ?_
    exact r_zret hC hR hS hE hf dX11_has_28
  · replace hf := if_f hf hc
    refine lv_aload_n hx hb dX11_has_9 rfl (lv_at hl 0 rfl) ?_
    refine lv_iload_n hx hb dX11_has_10 rfl (lv_at hl 1 rfl) ?_
    obtain ⟨x7, S4, hc5, hf⟩ := cl_of hf
    refine cl_RX11_328 (As := [.int a1]) (rest := []) hC hR hS (c_X11_fieldOf l G n this a1 S x7 S4 hc5 ok_this) ok_this rfl ⟨Nat.le_of_ble_eq_true rfl, Nat.le_of_ble_eq_true rfl⟩ hl.1 rfl (Nat.le_of_ble_eq_true rfl) dX11_has_11 (Nat.zero_le _) (Nat.zero_le _) (fun H locs hR hS hE6 => ?_)
    have ok_this := hE6 _ _ ok_this
    have ok_q1 := hE6 _ _ ok_q1
    have hE := hE.tr hE6
    refine lv_aload_n hx hb dX11_has_14 rfl (lv_at hl 0 rfl) ?_
    obtain ⟨q8, hq9, ok_q8, hf⟩ := gR_of hf
    refine gf_RX11_46 hC hR ok_this hq9 dX11_has_15 ?_
    refine lv_iload_n hx hb dX11_has_18 rfl (lv_at hl 2 rfl) ?_
    obtain ⟨hi10, hf⟩ := ck_of hf
    refine r_iald hC hR ok_q8 hi10 dX11_has_19 ?_
    refine lv_icmp_ne (tgt := 27) hx hb dX11_has_20 (by decide) (fun hc => ?_) (fun hc => ?_)
    · replace hf := if_f hf hc
      refine lv_iconst (v := 0) hx hb dX11_has_27 (by decide) ?_
      exact r_zret hC hR hS hE hf dX11_has_28
    · replace hf := if_t hf hc
      refine lv_iconst (v := 1) hx hb dX11_has_23 (by decide) ?_
      refine lv_goto (tgt := 28) hx hb dX11_has_24 (by decide) ?_
      exact r_zret hC hR hS hE hf dX11_has_28
abbrev rX11_sizeOf : Room := { frames := 0, cells := 0, slots := 0, locals := 0 }
def f_X11_sizeOf_L4 (n : Nat) (this : Nat) (a1 : Int32) : Nat → Int32 → Int32 → MS → Option (Int32 × MS)
  | 0, _, _, _ => none
  | k + 1, x3, x4, S5 => jn (f_X11_sizeOf_L4 n this a1 k) fun rec4_2 => (if (mI S5 this 3) ≤ x4 then some (x3, S5) else gR S5 (mR S5 this 30) 12 fun q6 => ck (inb x4 (mN S5 q6)) (jn (fun (x11 : Int32) (x12 : Int32) (S13 : MS) => bd (x11 + x12) fun x14 => bd (x4 + (1 : Int32)) fun x15 => rec4_2 x14 x15 S13) fun j28_10 => (if (mI S5 q6 x4.toNatClampNeg) = a1 then j28_10 x3 (1 : Int32) S5 else j28_10 x3 (0 : Int32) S5)))
def f_X11_sizeOf (n : Nat) (this : Nat) (a1 : Int32) (S : MS) : Option (Int32 × MS) :=
  f_X11_sizeOf_L4 n this a1 n (0 : Int32) (0 : Int32) S
set_option maxRecDepth 100000 in
set_option maxHeartbeats 4000000 in
theorem c_X11_sizeOf (l : Launch) (G : Gx) (n : Nat) (this : Nat) (a1 : Int32) (S : MS) (ro : Int32) (So : MS) (hf : f_X11_sizeOf n this a1 S = some (ro, So)) (ok_this : Ok S this 11) : Cn G l yX11_sizeOf cX11_sizeOf 4 (some .int) rX11_sizeOf [.ref this, .int a1] S (some (.int ro)) So := by
  refine Cn.of (by decide) (Nat.le_of_ble_eq_true rfl) ?_
  intro p e s m args below meth c hC hname hR ls hl
  have hC : Cx G RX11 cX11_sizeOf 4 (some .int) p s m args meth c := hC
  have hl : lv_has ls 4 [(0, .ref this), (1, .int a1)] := hl
  have hx := hC.x
  have hb := hC.b
  have hS : va_S (gA G) s.heap s.heap [] := va_S.rf
  have hE : Ex S S := Ex.rf S
  unfold f_X11_sizeOf at hf
  refine lv_iconst (v := 0) hx hb dX11_sizeOf_0 (by decide) ?_
  refine lv_istore_n (lv' := [(2, .int (0 : Int32)), (0, .ref this), (1, .int a1)]) hx hb dX11_sizeOf_1 rfl hl (by decide) rfl (fun ls hl => ?_)
  refine lv_iconst (v := 0) hx hb dX11_sizeOf_2 (by decide) ?_
  refine lv_istore_n (lv' := [(3, .int (0 : Int32)), (2, .int (0 : Int32)), (0, .ref this), (1, .int a1)]) hx hb dX11_sizeOf_3 rfl hl (by decide) rfl (fun ls hl => ?_)
  have hh19 : ∀ k : Nat, ∀ (x3 : Int32) (x4 : Int32) (S5 : MS) (H : Heap) (locs : List Loc) (ls : Array Slot), f_X11_sizeOf_L4 n this a1 k x3 x4 S5 = some (ro, So) → Rp G S5 H → va_S (gA G) s.heap H locs → Ex S S5 → Ok S5 this 11 → lv_has ls 4 [(0, .ref this), (1, .int a1), (2, .int x3), (3, .int x4)] → W p l e rX11_sizeOf s m args below meth c H locs 0 0 (MQ below (Qn G S (some (.int ro)) So) args s 0 0 (gA G)) (F0 m 4 ls []) := by
    intro k
    induction k with
    | zero =>
      intro x3 x4 S5 H locs ls hf hR hS hE ok_this hl
      exact absurd hf (by rw [f_X11_sizeOf_L4]; exact fun h => by cases h)
    | succ k ih =>
      intro x3 x4 S5 H locs ls hf hR hS hE ok_this hl
      rw [f_X11_sizeOf_L4] at hf
      obtain ⟨rec4_2, erec4_2, hf⟩ := jn_of3 hf
      have hL4_1 : ∀ (x3 : Int32) (x4 : Int32) (S5 : MS) (H : Heap) (locs : List Loc) (ls : Array Slot), rec4_2 x3 x4 S5 = some (ro, So) → Rp G S5 H → va_S (gA G) s.heap H locs → Ex S S5 → Ok S5 this 11 → lv_has ls 4 [(0, .ref this), (1, .int a1), (2, .int x3), (3, .int x4)] → W p l e rX11_sizeOf s m args below meth c H locs 0 0 (MQ below (Qn G S (some (.int ro)) So) args s 0 0 (gA G)) (F0 m 4 ls []) := by
        intro x3 x4 S5 H locs ls hf hR hS hE ok_this hl
        rw [erec4_2] at hf
        exact ih x3 x4 S5 _ _ _ hf hR hS hE ok_this hl
      refine lv_iload_n hx hb dX11_sizeOf_4 rfl (lv_at hl 3 rfl) ?_
      refine lv_aload_n hx hb dX11_sizeOf_5 rfl (lv_at hl 0 rfl) ?_
      refine gf_RX11_64 hC hR ok_this dX11_sizeOf_6 ?_
      refine lv_icmp_ge (tgt := 36) hx hb dX11_sizeOf_9 (by decide) (fun hc => ?_) (fun hc => ?_)
      · replace hf := if_t hf hc
        refine lv_iload_n hx hb dX11_sizeOf_36 rfl (lv_at hl 2 rfl) ?_
        exact r_iret hC hR hS hE hf dX11_sizeOf_37
      · replace hf := if_f hf hc
        refine lv_iload_n hx hb dX11_sizeOf_12 rfl (lv_at hl 2 rfl) ?_
        refine lv_aload_n hx hb dX11_sizeOf_13 rfl (lv_at hl 0 rfl) ?_
        obtain ⟨q6, hq7, ok_q6, hf⟩ := gR_of hf
        refine gf_RX11_46 hC hR ok_this hq7 dX11_sizeOf_14 ?_
        refine lv_iload_n hx hb dX11_sizeOf_17 rfl (lv_at hl 3 rfl) ?_
        obtain ⟨hi8, hf⟩ := ck_of hf
        refine r_iald hC hR ok_q6 hi8 dX11_sizeOf_18 ?_
        refine lv_iload_n hx hb dX11_sizeOf_19 rfl (lv_at hl 1 rfl) ?_
        obtain ⟨j28_10, ej28_10, hf⟩ := jn_of3 hf
        have hj28_9 : ∀ (x11 : Int32) (x12 : Int32) (S13 : MS) (H : Heap) (locs : List Loc) (ls : Array Slot), j28_10 x11 x12 S13 = some (ro, So) → Rp G S13 H → va_S (gA G) s.heap H locs → Ex S S13 → Ok S13 this 11 → lv_has ls 4 [(0, .ref this), (1, .int a1), (3, .int x4)] → W p l e rX11_sizeOf s m args below meth c H locs 0 0 (MQ below (Qn G S (some (.int ro)) So) args s 0 0 (gA G)) (F0 m 28 ls [.int x12, .int x11]) := by
          intro x11 x12 S13 H locs ls hf hR hS hE ok_this hl
          rw [ej28_10] at hf
          refine lv_iadd hx hb dX11_sizeOf_28 ?_
          refine bdi hf (fun x14 hf => ?_)
          refine lv_istore_n (lv' := [(2, .int x14), (0, .ref this), (1, .int a1), (3, .int x4)]) hx hb dX11_sizeOf_29 rfl hl (by decide) rfl (fun ls hl => ?_)
          refine r_iinc (n := 1) (z := 1) (lv' := fun x15 => [(3, .int x15), (2, .int x14), (0, .ref this), (1, .int a1)]) hx hb dX11_sizeOf_30 hl (k := 3) rfl (by decide) (by decide) (fun _ => rfl) hf (fun x15 ls hf hl => ?_)
          refine lv_goto (tgt := 4) hx hb dX11_sizeOf_33 (by decide) ?_
          exact hL4_1 x14 x15 S13 _ _ _ hf hR hS hE ok_this (lv_sub hl [2, 3, 1, 0] rfl)
        refine lv_icmp_ne (tgt := 27) hx hb dX11_sizeOf_20 (by decide) (fun hc => ?_) (fun hc => ?_)
        · replace hf := if_f hf hc
          refine lv_iconst (v := 0) hx hb dX11_sizeOf_27 (by decide) ?_
          exact hj28_9 x3 (0 : Int32) S5 _ _ _ hf hR hS hE ok_this (lv_sub hl [0, 1, 3] rfl)
        · replace hf := if_t hf hc
          refine lv_iconst (v := 1) hx hb dX11_sizeOf_23 (by decide) ?_
          refine lv_goto (tgt := 28) hx hb dX11_sizeOf_24 (by decide) ?_
          exact hj28_9 x3 (1 : Int32) S5 _ _ _ hf hR hS hE ok_this (lv_sub hl [0, 1, 3] rfl)
  exact hh19 n (0 : Int32) (0 : Int32) S _ _ _ hf hR hS hE ok_this (lv_sub hl [2, 3, 1, 0] rfl)
abbrev rX11_havers : Room := { frames := 2, cells := 0, slots := 0, locals := 42 }
def f_X11_havers_L4 (n : Nat) (this : Nat) (a1 : Int32) : Nat → Int32 → Int32 → MS → Option (Int32 × MS)
  | 0, _, _, _ => none
  | k + 1, x3, x4, S5 => jn (f_X11_havers_L4 n this a1 k) fun rec4_2 => (if (6 : Int32) ≤ x4 then some (x3, S5) else cl (f_X11_fieldOf n this x4 S5) fun x9 S6 => jn (fun (x12 : Int32) (x13 : Int32) (S14 : MS) => bd (x12 + x13) fun x15 => bd (x4 + (1 : Int32)) fun x16 => rec4_2 x15 x16 S14) fun j25_11 => (if x9 = a1 then j25_11 x3 (1 : Int32) S6 else j25_11 x3 (0 : Int32) S6))
def f_X11_havers (n : Nat) (this : Nat) (a1 : Int32) (S : MS) : Option (Int32 × MS) :=
  f_X11_havers_L4 n this a1 n (0 : Int32) (0 : Int32) S
set_option maxRecDepth 100000 in
set_option maxHeartbeats 4000000 in
theorem c_X11_havers (l : Launch) (G : Gx) (n : Nat) (this : Nat) (a1 : Int32) (S : MS) (ro : Int32) (So : MS) (hf : f_X11_havers n this a1 S = some (ro, So)) (ok_this : Ok S this 11) : Cn G l yX11_havers cX11_havers 4 (some .int) rX11_havers [.ref this, .int a1] S (some (.int ro)) So := by
  refine Cn.of (by decide) (Nat.le_of_ble_eq_true rfl) ?_
  intro p e s m args below meth c hC hname hR ls hl
  have hC : Cx G RX11 cX11_havers 4 (some .int) p s m args meth c := hC
  have hl : lv_has ls 4 [(0, .ref this), (1, .int a1)] := hl
  have hx := hC.x
  have hb := hC.b
  have hS : va_S (gA G) s.heap s.heap [] := va_S.rf
  have hE : Ex S S := Ex.rf S
  unfold f_X11_havers at hf
  refine lv_iconst (v := 0) hx hb dX11_havers_0 (by decide) ?_
  refine lv_istore_n (lv' := [(2, .int (0 : Int32)), (0, .ref this), (1, .int a1)]) hx hb dX11_havers_1 rfl hl (by decide) rfl (fun ls hl => ?_)
  refine lv_iconst (v := 0) hx hb dX11_havers_2 (by decide) ?_
  refine lv_istore_n (lv' := [(3, .int (0 : Int32)), (2, .int (0 : Int32)), (0, .ref this), (1, .int a1)]) hx hb dX11_havers_3 rfl hl (by decide) rfl (fun ls hl => ?_)
  have hh20 : ∀ k : Nat, ∀ (x3 : Int32) (x4 : Int32) (S5 : MS) (H : Heap) (locs : List Loc) (ls : Array Slot), f_X11_havers_L4 n this a1 k x3 x4 S5 = some (ro, So) → Rp G S5 H → va_S (gA G) s.heap H locs → Ex S S5 → Ok S5 this 11 → lv_has ls 4 [(0, .ref this), (1, .int a1), (2, .int x3), (3, .int x4)] → W p l e rX11_havers s m args below meth c H locs 0 0 (MQ below (Qn G S (some (.int ro)) So) args s 0 0 (gA G)) (F0 m 4 ls []) := by
    intro k
    induction k with
    | zero =>
      intro x3 x4 S5 H locs ls hf hR hS hE ok_this hl
      exact absurd hf (by rw [f_X11_havers_L4]; exact fun h => by cases h)
    | succ k ih =>
      intro x3 x4 S5 H locs ls hf hR hS hE ok_this hl
      rw [f_X11_havers_L4] at hf
      obtain ⟨rec4_2, erec4_2, hf⟩ := jn_of3 hf
      have hL4_1 : ∀ (x3 : Int32) (x4 : Int32) (S5 : MS) (H : Heap) (locs : List Loc) (ls : Array Slot), rec4_2 x3 x4 S5 = some (ro, So) → Rp G S5 H → va_S (gA G) s.heap H locs → Ex S S5 → Ok S5 this 11 → lv_has ls 4 [(0, .ref this), (1, .int a1), (2, .int x3), (3, .int x4)] → W p l e rX11_havers s m args below meth c H locs 0 0 (MQ below (Qn G S (some (.int ro)) So) args s 0 0 (gA G)) (F0 m 4 ls []) := by
        intro x3 x4 S5 H locs ls hf hR hS hE ok_this hl
        rw [erec4_2] at hf
        exact ih x3 x4 S5 _ _ _ hf hR hS hE ok_this hl
      refine lv_iload_n hx hb dX11_havers_4 rfl (lv_at hl 3 rfl) ?_
      refine lv_bipush (v := 6) hx hb dX11_havers_5 (by decide) ?_
      refine lv_icmp_ge (tgt := 33) hx hb dX11_havers_7 (by decide) (fun hc => ?_) (fun hc => ?_)
      · replace hf := if_t hf hc
        refine lv_iload_n hx hb dX11_havers_33 rfl (lv_at hl 2 rfl) ?_
        exact r_iret hC hR hS hE hf dX11_havers_34
      · replace hf := if_f hf hc
        refine lv_iload_n hx hb dX11_havers_10 rfl (lv_at hl 2 rfl) ?_
        refine lv_aload_n hx hb dX11_havers_11 rfl (lv_at hl 0 rfl) ?_
        refine lv_iload_n hx hb dX11_havers_12 rfl (lv_at hl 3 rfl) ?_
        obtain ⟨x9, S6, hc7, hf⟩ := cl_of hf
        refine cl_RX11_328 (As := [.int x4]) (rest := [.int x3]) hC hR hS (c_X11_fieldOf l G n this x4 S5 x9 S6 hc7 ok_this) ok_this rfl ⟨Nat.le_of_ble_eq_true rfl, Nat.le_of_ble_eq_true rfl⟩ hl.1 rfl (Nat.le_of_ble_eq_true rfl) dX11_havers_13 (Nat.zero_le _) (Nat.zero_le _) (fun H locs hR hS hE8 => ?_)
        have ok_this := hE8 _ _ ok_this
        have hE := hE.tr hE8
        refine lv_iload_n hx hb dX11_havers_16 rfl (lv_at hl 1 rfl) ?_
        obtain ⟨j25_11, ej25_11, hf⟩ := jn_of3 hf
        have hj25_10 : ∀ (x12 : Int32) (x13 : Int32) (S14 : MS) (H : Heap) (locs : List Loc) (ls : Array Slot), j25_11 x12 x13 S14 = some (ro, So) → Rp G S14 H → va_S (gA G) s.heap H locs → Ex S S14 → Ok S14 this 11 → lv_has ls 4 [(0, .ref this), (1, .int a1), (3, .int x4)] → W p l e rX11_havers s m args below meth c H locs 0 0 (MQ below (Qn G S (some (.int ro)) So) args s 0 0 (gA G)) (F0 m 25 ls [.int x13, .int x12]) := by
          intro x12 x13 S14 H locs ls hf hR hS hE ok_this hl
          rw [ej25_11] at hf
          refine lv_iadd hx hb dX11_havers_25 ?_
          refine bdi hf (fun x15 hf => ?_)
          refine lv_istore_n (lv' := [(2, .int x15), (0, .ref this), (1, .int a1), (3, .int x4)]) hx hb dX11_havers_26 rfl hl (by decide) rfl (fun ls hl => ?_)
          refine r_iinc (n := 1) (z := 1) (lv' := fun x16 => [(3, .int x16), (2, .int x15), (0, .ref this), (1, .int a1)]) hx hb dX11_havers_27 hl (k := 3) rfl (by decide) (by decide) (fun _ => rfl) hf (fun x16 ls hf hl => ?_)
          refine lv_goto (tgt := 4) hx hb dX11_havers_30 (by decide) ?_
          exact hL4_1 x15 x16 S14 _ _ _ hf hR hS hE ok_this (lv_sub hl [2, 3, 1, 0] rfl)
        refine lv_icmp_ne (tgt := 24) hx hb dX11_havers_17 (by decide) (fun hc => ?_) (fun hc => ?_)
        · replace hf := if_f hf hc
          refine lv_iconst (v := 0) hx hb dX11_havers_24 (by decide) ?_
          exact hj25_10 x3 (0 : Int32) S6 _ _ _ hf hR hS hE ok_this (lv_sub hl [0, 1, 3] rfl)
        · replace hf := if_t hf hc
          refine lv_iconst (v := 1) hx hb dX11_havers_20 (by decide) ?_
          refine lv_goto (tgt := 25) hx hb dX11_havers_21 (by decide) ?_
          exact hj25_10 x3 (1 : Int32) S6 _ _ _ hf hR hS hE ok_this (lv_sub hl [0, 1, 3] rfl)
  exact hh20 n (0 : Int32) (0 : Int32) S _ _ _ hf hR hS hE ok_this (lv_sub hl [2, 3, 1, 0] rfl)
abbrev rX11_areaOf : Room := { frames := 3, cells := 0, slots := 0, locals := 65 }
def f_X11_areaOf (n : Nat) (this : Nat) (a1 : Int32) (S : MS) : Option (Int32 × MS) :=
  cl (f_X11_stakeOf n this a1 S) fun x4 S1 => (if 0 ≤ x4 then cl (f_X11_fieldOf n this a1 S1) fun x8 S5 => cl (f_X11_sizeOf n this x8 S5) fun x12 S9 => cl (f_X11_fieldOf n this a1 S9) fun x16 S13 => cl (f_X11_havers n this x16 S13) fun x20 S17 => dv x20 (some ((x12 / x20), S17)) else some ((0 : Int32), S1))
set_option maxRecDepth 100000 in
set_option maxHeartbeats 4000000 in
theorem c_X11_areaOf (l : Launch) (G : Gx) (n : Nat) (this : Nat) (a1 : Int32) (S : MS) (ro : Int32) (So : MS) (hf : f_X11_areaOf n this a1 S = some (ro, So)) (ok_this : Ok S this 11) : Cn G l yX11_areaOf cX11_areaOf 2 (some .int) rX11_areaOf [.ref this, .int a1] S (some (.int ro)) So := by
  refine Cn.of (by decide) (Nat.le_of_ble_eq_true rfl) ?_
  intro p e s m args below meth c hC hname hR ls hl
  have hC : Cx G RX11 cX11_areaOf 2 (some .int) p s m args meth c := hC
  have hl : lv_has ls 2 [(0, .ref this), (1, .int a1)] := hl
  have hx := hC.x
  have hb := hC.b
  have hS : va_S (gA G) s.heap s.heap [] := va_S.rf
  have hE : Ex S S := Ex.rf S
  unfold f_X11_areaOf at hf
  refine lv_aload_n hx hb dX11_areaOf_0 rfl (lv_at hl 0 rfl) ?_
  refine lv_iload_n hx hb dX11_areaOf_1 rfl (lv_at hl 1 rfl) ?_
  obtain ⟨x4, S1, hc2, hf⟩ := cl_of hf
  refine cl_RX11_325 (As := [.int a1]) (rest := []) hC hR hS (c_X11_stakeOf l G n this a1 S x4 S1 hc2 ok_this) ok_this rfl ⟨Nat.le_of_ble_eq_true rfl, Nat.le_of_ble_eq_true rfl⟩ hl.1 rfl (Nat.le_of_ble_eq_true rfl) dX11_areaOf_2 (Nat.zero_le _) (Nat.zero_le _) (fun H locs hR hS hE3 => ?_)
  have ok_this := hE3 _ _ ok_this
  have hE := hE.tr hE3
  refine lv_if_ge (tgt := 12) hx hb dX11_areaOf_5 (by decide) (fun hc => ?_) (fun hc => ?_)
  · replace hf := if_t hf hc
    refine lv_aload_n hx hb dX11_areaOf_12 rfl (lv_at hl 0 rfl) ?_
    refine lv_aload_n hx hb dX11_areaOf_13 rfl (lv_at hl 0 rfl) ?_
    refine lv_iload_n hx hb dX11_areaOf_14 rfl (lv_at hl 1 rfl) ?_
    obtain ⟨x8, S5, hc6, hf⟩ := cl_of hf
    refine cl_RX11_328 (As := [.int a1]) (rest := [.ref this]) hC hR hS (c_X11_fieldOf l G n this a1 S1 x8 S5 hc6 ok_this) ok_this rfl ⟨Nat.le_of_ble_eq_true rfl, Nat.le_of_ble_eq_true rfl⟩ hl.1 rfl (Nat.le_of_ble_eq_true rfl) dX11_areaOf_15 (Nat.zero_le _) (Nat.zero_le _) (fun H locs hR hS hE7 => ?_)
    have ok_this := hE7 _ _ ok_this
    have hE := hE.tr hE7
    obtain ⟨x12, S9, hc10, hf⟩ := cl_of hf
    refine cl_RX11_331 (As := [.int x8]) (rest := []) hC hR hS (c_X11_sizeOf l G n this x8 S5 x12 S9 hc10 ok_this) ok_this rfl ⟨Nat.le_of_ble_eq_true rfl, Nat.le_of_ble_eq_true rfl⟩ hl.1 rfl (Nat.le_of_ble_eq_true rfl) dX11_areaOf_18 (Nat.zero_le _) (Nat.zero_le _) (fun H locs hR hS hE11 => ?_)
    have ok_this := hE11 _ _ ok_this
    have hE := hE.tr hE11
    refine lv_aload_n hx hb dX11_areaOf_21 rfl (lv_at hl 0 rfl) ?_
    refine lv_aload_n hx hb dX11_areaOf_22 rfl (lv_at hl 0 rfl) ?_
    refine lv_iload_n hx hb dX11_areaOf_23 rfl (lv_at hl 1 rfl) ?_
    obtain ⟨x16, S13, hc14, hf⟩ := cl_of hf
    refine cl_RX11_328 (As := [.int a1]) (rest := [.ref this, .int x12]) hC hR hS (c_X11_fieldOf l G n this a1 S9 x16 S13 hc14 ok_this) ok_this rfl ⟨Nat.le_of_ble_eq_true rfl, Nat.le_of_ble_eq_true rfl⟩ hl.1 rfl (Nat.le_of_ble_eq_true rfl) dX11_areaOf_24 (Nat.zero_le _) (Nat.zero_le _) (fun H locs hR hS hE15 => ?_)
    have ok_this := hE15 _ _ ok_this
    have hE := hE.tr hE15
    obtain ⟨x20, S17, hc18, hf⟩ := cl_of hf
    refine cl_RX11_334 (As := [.int x16]) (rest := [.int x12]) hC hR hS (c_X11_havers l G n this x16 S13 x20 S17 hc18 ok_this) ok_this rfl ⟨Nat.le_of_ble_eq_true rfl, Nat.le_of_ble_eq_true rfl⟩ hl.1 rfl (Nat.le_of_ble_eq_true rfl) dX11_areaOf_27 (Nat.zero_le _) (Nat.zero_le _) (fun H locs hR hS hE19 => ?_)
    have ok_this := hE19 _ _ ok_this
    have hE := hE.tr hE19
    obtain ⟨hn21, hf⟩ := dv_of hf
    refine lv_idiv hx hb dX11_areaOf_30 hn21 ?_
    exact r_iret hC hR hS hE hf dX11_areaOf_31
  · replace hf := if_f hf hc
    refine lv_iconst (v := 0) hx hb dX11_areaOf_8 (by decide) ?_
    refine lv_goto (tgt := 31) hx hb dX11_areaOf_9 (by decide) ?_
    exact r_iret hC hR hS hE hf dX11_areaOf_31
abbrev rX11_wellsIn : Room := { frames := 0, cells := 0, slots := 0, locals := 0 }
def f_X11_wellsIn_L4 (n : Nat) (this : Nat) (a1 : Int32) : Nat → Int32 → Int32 → MS → Option (Int32 × MS)
  | 0, _, _, _ => none
  | k + 1, x3, x4, S5 => jn (f_X11_wellsIn_L4 n this a1 k) fun rec4_2 => (if (mI S5 this 3) ≤ x4 then some (x3, S5) else gR S5 (mR S5 this 30) 12 fun q6 => ck (inb x4 (mN S5 q6)) (jn (fun (x11 : Int32) (x12 : Int32) (S13 : MS) => bd (x11 + x12) fun x14 => bd (x4 + (1 : Int32)) fun x15 => rec4_2 x14 x15 S13) fun j47_10 => jn (fun (x18 : Int32) (S19 : MS) => j47_10 x18 (0 : Int32) S19) fun j46_17 => (if (mI S5 q6 x4.toNatClampNeg) = a1 then gR S5 (mR S5 this 0) 12 fun q20 => ck (inb (((mI S5 this 4) + (190 : Int32)) + x4) (mN S5 q20)) ((if (mI S5 q20 (((mI S5 this 4) + (190 : Int32)) + x4).toNatClampNeg) = (1 : Int32) then j47_10 x3 (1 : Int32) S5 else j46_17 x3 S5)) else j46_17 x3 S5)))
def f_X11_wellsIn (n : Nat) (this : Nat) (a1 : Int32) (S : MS) : Option (Int32 × MS) :=
  f_X11_wellsIn_L4 n this a1 n (0 : Int32) (0 : Int32) S
set_option maxRecDepth 100000 in
set_option maxHeartbeats 4000000 in
theorem c_X11_wellsIn (l : Launch) (G : Gx) (n : Nat) (this : Nat) (a1 : Int32) (S : MS) (ro : Int32) (So : MS) (hf : f_X11_wellsIn n this a1 S = some (ro, So)) (ok_this : Ok S this 11) : Cn G l yX11_wellsIn cX11_wellsIn 4 (some .int) rX11_wellsIn [.ref this, .int a1] S (some (.int ro)) So := by
  refine Cn.of (by decide) (Nat.le_of_ble_eq_true rfl) ?_
  intro p e s m args below meth c hC hname hR ls hl
  have hC : Cx G RX11 cX11_wellsIn 4 (some .int) p s m args meth c := hC
  have hl : lv_has ls 4 [(0, .ref this), (1, .int a1)] := hl
  have hx := hC.x
  have hb := hC.b
  have hS : va_S (gA G) s.heap s.heap [] := va_S.rf
  have hE : Ex S S := Ex.rf S
  unfold f_X11_wellsIn at hf
  refine lv_iconst (v := 0) hx hb dX11_wellsIn_0 (by decide) ?_
  refine lv_istore_n (lv' := [(2, .int (0 : Int32)), (0, .ref this), (1, .int a1)]) hx hb dX11_wellsIn_1 rfl hl (by decide) rfl (fun ls hl => ?_)
  refine lv_iconst (v := 0) hx hb dX11_wellsIn_2 (by decide) ?_
  refine lv_istore_n (lv' := [(3, .int (0 : Int32)), (2, .int (0 : Int32)), (0, .ref this), (1, .int a1)]) hx hb dX11_wellsIn_3 rfl hl (by decide) rfl (fun ls hl => ?_)
  have hh28 : ∀ k : Nat, ∀ (x3 : Int32) (x4 : Int32) (S5 : MS) (H : Heap) (locs : List Loc) (ls : Array Slot), f_X11_wellsIn_L4 n this a1 k x3 x4 S5 = some (ro, So) → Rp G S5 H → va_S (gA G) s.heap H locs → Ex S S5 → Ok S5 this 11 → lv_has ls 4 [(0, .ref this), (1, .int a1), (2, .int x3), (3, .int x4)] → W p l e rX11_wellsIn s m args below meth c H locs 0 0 (MQ below (Qn G S (some (.int ro)) So) args s 0 0 (gA G)) (F0 m 4 ls []) := by
    intro k
    induction k with
    | zero =>
      intro x3 x4 S5 H locs ls hf hR hS hE ok_this hl
      exact absurd hf (by rw [f_X11_wellsIn_L4]; exact fun h => by cases h)
    | succ k ih =>
      intro x3 x4 S5 H locs ls hf hR hS hE ok_this hl
      rw [f_X11_wellsIn_L4] at hf
      obtain ⟨rec4_2, erec4_2, hf⟩ := jn_of3 hf
      have hL4_1 : ∀ (x3 : Int32) (x4 : Int32) (S5 : MS) (H : Heap) (locs : List Loc) (ls : Array Slot), rec4_2 x3 x4 S5 = some (ro, So) → Rp G S5 H → va_S (gA G) s.heap H locs → Ex S S5 → Ok S5 this 11 → lv_has ls 4 [(0, .ref this), (1, .int a1), (2, .int x3), (3, .int x4)] → W p l e rX11_wellsIn s m args below meth c H locs 0 0 (MQ below (Qn G S (some (.int ro)) So) args s 0 0 (gA G)) (F0 m 4 ls []) := by
        intro x3 x4 S5 H locs ls hf hR hS hE ok_this hl
        rw [erec4_2] at hf
        exact ih x3 x4 S5 _ _ _ hf hR hS hE ok_this hl
      refine lv_iload_n hx hb dX11_wellsIn_4 rfl (lv_at hl 3 rfl) ?_
      refine lv_aload_n hx hb dX11_wellsIn_5 rfl (lv_at hl 0 rfl) ?_
      refine gf_RX11_64 hC hR ok_this dX11_wellsIn_6 ?_
      refine lv_icmp_ge (tgt := 55) hx hb dX11_wellsIn_9 (by decide) (fun hc => ?_) (fun hc => ?_)
      · replace hf := if_t hf hc
        refine lv_iload_n hx hb dX11_wellsIn_55 rfl (lv_at hl 2 rfl) ?_
        exact r_iret hC hR hS hE hf dX11_wellsIn_56
      · replace hf := if_f hf hc
        refine lv_iload_n hx hb dX11_wellsIn_12 rfl (lv_at hl 2 rfl) ?_
        refine lv_aload_n hx hb dX11_wellsIn_13 rfl (lv_at hl 0 rfl) ?_
        obtain ⟨q6, hq7, ok_q6, hf⟩ := gR_of hf
        refine gf_RX11_46 hC hR ok_this hq7 dX11_wellsIn_14 ?_
        refine lv_iload_n hx hb dX11_wellsIn_17 rfl (lv_at hl 3 rfl) ?_
        obtain ⟨hi8, hf⟩ := ck_of hf
        refine r_iald hC hR ok_q6 hi8 dX11_wellsIn_18 ?_
        refine lv_iload_n hx hb dX11_wellsIn_19 rfl (lv_at hl 1 rfl) ?_
        obtain ⟨j47_10, ej47_10, hf⟩ := jn_of3 hf
        have hj47_9 : ∀ (x11 : Int32) (x12 : Int32) (S13 : MS) (H : Heap) (locs : List Loc) (ls : Array Slot), j47_10 x11 x12 S13 = some (ro, So) → Rp G S13 H → va_S (gA G) s.heap H locs → Ex S S13 → Ok S13 this 11 → lv_has ls 4 [(0, .ref this), (1, .int a1), (3, .int x4)] → W p l e rX11_wellsIn s m args below meth c H locs 0 0 (MQ below (Qn G S (some (.int ro)) So) args s 0 0 (gA G)) (F0 m 47 ls [.int x12, .int x11]) := by
          intro x11 x12 S13 H locs ls hf hR hS hE ok_this hl
          rw [ej47_10] at hf
          refine lv_iadd hx hb dX11_wellsIn_47 ?_
          refine bdi hf (fun x14 hf => ?_)
          refine lv_istore_n (lv' := [(2, .int x14), (0, .ref this), (1, .int a1), (3, .int x4)]) hx hb dX11_wellsIn_48 rfl hl (by decide) rfl (fun ls hl => ?_)
          refine r_iinc (n := 1) (z := 1) (lv' := fun x15 => [(3, .int x15), (2, .int x14), (0, .ref this), (1, .int a1)]) hx hb dX11_wellsIn_49 hl (k := 3) rfl (by decide) (by decide) (fun _ => rfl) hf (fun x15 ls hf hl => ?_)
          refine lv_goto (tgt := 4) hx hb dX11_wellsIn_52 (by decide) ?_
          exact hL4_1 x14 x15 S13 _ _ _ hf hR hS hE ok_this (lv_sub hl [2, 3, 1, 0] rfl)
        obtain ⟨j46_17, ej46_17, hf⟩ := jn_of2 hf
        have hj46_16 : ∀ (x18 : Int32) (S19 : MS) (H : Heap) (locs : List Loc) (ls : Array Slot), j46_17 x18 S19 = some (ro, So) → Rp G S19 H → va_S (gA G) s.heap H locs → Ex S S19 → Ok S19 this 11 → lv_has ls 4 [(0, .ref this), (1, .int a1), (3, .int x4)] → W p l e rX11_wellsIn s m args below meth c H locs 0 0 (MQ below (Qn G S (some (.int ro)) So) args s 0 0 (gA G)) (F0 m 46 ls [.int x18]) := by
          intro x18 S19 H locs ls hf hR hS hE ok_this hl
          rw [ej46_17] at hf
          refine lv_iconst (v := 0) hx hb dX11_wellsIn_46 (by decide) ?_
          exact hj47_9 x18 (0 : Int32) S19 _ _ _ hf hR hS hE ok_this (lv_sub hl [0, 1, 2] rfl)
        refine lv_icmp_ne (tgt := 46) hx hb dX11_wellsIn_20 (by decide) (fun hc => ?_) (fun hc => ?_)
        · replace hf := if_f hf hc
          exact hj46_16 x3 S5 _ _ _ hf hR hS hE ok_this (lv_sub hl [0, 1, 3] rfl)
        · replace hf := if_t hf hc
          refine lv_aload_n hx hb dX11_wellsIn_23 rfl (lv_at hl 0 rfl) ?_
          obtain ⟨q20, hq21, ok_q20, hf⟩ := gR_of hf
          refine gf_RX11_7 hC hR ok_this hq21 dX11_wellsIn_24 ?_
          refine lv_aload_n hx hb dX11_wellsIn_27 rfl (lv_at hl 0 rfl) ?_
          refine gf_RX11_75 hC hR ok_this dX11_wellsIn_28 ?_
          refine lv_sipush (v := 190) hx hb dX11_wellsIn_31 (by decide) ?_
          refine lv_iadd hx hb dX11_wellsIn_34 ?_
          refine lv_iload_n hx hb dX11_wellsIn_35 rfl (lv_at hl 3 rfl) ?_
          refine lv_iadd hx hb dX11_wellsIn_36 ?_
          obtain ⟨hi22, hf⟩ := ck_of hf
          refine r_iald hC hR ok_q20 hi22 dX11_wellsIn_37 ?_
          refine lv_iconst (v := 1) hx hb dX11_wellsIn_38 (by decide) ?_
          refine lv_icmp_ne (tgt := 46) hx hb dX11_wellsIn_39 (by decide) (fun hc => ?_) (fun hc => ?_)
          · replace hf := if_f hf hc
            exact hj46_16 x3 S5 _ _ _ hf hR hS hE ok_this (lv_sub hl [0, 1, 3] rfl)
          · replace hf := if_t hf hc
            refine lv_iconst (v := 1) hx hb dX11_wellsIn_42 (by decide) ?_
            refine lv_goto (tgt := 47) hx hb dX11_wellsIn_43 (by decide) ?_
            exact hj47_9 x3 (1 : Int32) S5 _ _ _ hf hR hS hE ok_this (lv_sub hl [0, 1, 3] rfl)
  exact hh28 n (0 : Int32) (0 : Int32) S _ _ _ hf hR hS hE ok_this (lv_sub hl [2, 3, 1, 0] rfl)
abbrev rX11_isRing : Room := { frames := 0, cells := 0, slots := 0, locals := 0 }
def f_X11_isRing_L2 (n : Nat) (this : Nat) (a1 : Int32) : Nat → Int32 → MS → Option (Int32 × MS)
  | 0, _, _ => none
  | k + 1, x3, S4 => jn (f_X11_isRing_L2 n this a1 k) fun rec2_2 => (if (mI S4 this 3) ≤ x3 then zb (1 : Int32) (some ((1 : Int32), S4)) else gR S4 (mR S4 this 30) 12 fun q5 => ck (inb x3 (mN S4 q5)) (jn (fun (S10 : MS) => bd (x3 + (1 : Int32)) fun x11 => rec2_2 x11 S10) fun j70_9 => (if (mI S4 q5 x3.toNatClampNeg) = a1 then dv (mI S4 this 1) ((if (x3 - x3 / (mI S4 this 1) * (mI S4 this 1)) = 0 then zb (0 : Int32) (some ((0 : Int32), S4)) else dv (mI S4 this 1) ((if (x3 - x3 / (mI S4 this 1) * (mI S4 this 1)) = ((mI S4 this 1) - (1 : Int32)) then zb (0 : Int32) (some ((0 : Int32), S4)) else dv (mI S4 this 1) ((if (x3 / (mI S4 this 1)) = 0 then zb (0 : Int32) (some ((0 : Int32), S4)) else dv (mI S4 this 1) ((if (x3 / (mI S4 this 1)) = ((mI S4 this 2) - (1 : Int32)) then zb (0 : Int32) (some ((0 : Int32), S4)) else j70_9 S4)))))))) else j70_9 S4)))
def f_X11_isRing (n : Nat) (this : Nat) (a1 : Int32) (S : MS) : Option (Int32 × MS) :=
  f_X11_isRing_L2 n this a1 n (0 : Int32) S
set_option maxRecDepth 100000 in
set_option maxHeartbeats 4000000 in
theorem c_X11_isRing (l : Launch) (G : Gx) (n : Nat) (this : Nat) (a1 : Int32) (S : MS) (ro : Int32) (So : MS) (hf : f_X11_isRing n this a1 S = some (ro, So)) (ok_this : Ok S this 11) : Cn G l yX11_isRing cX11_isRing 3 (some .boolean) rX11_isRing [.ref this, .int a1] S (some (.int ro)) So := by
  refine Cn.of (by decide) (Nat.le_of_ble_eq_true rfl) ?_
  intro p e s m args below meth c hC hname hR ls hl
  have hC : Cx G RX11 cX11_isRing 3 (some .boolean) p s m args meth c := hC
  have hl : lv_has ls 3 [(0, .ref this), (1, .int a1)] := hl
  have hx := hC.x
  have hb := hC.b
  have hS : va_S (gA G) s.heap s.heap [] := va_S.rf
  have hE : Ex S S := Ex.rf S
  unfold f_X11_isRing at hf
  refine lv_iconst (v := 0) hx hb dX11_isRing_0 (by decide) ?_
  refine lv_istore_n (lv' := [(2, .int (0 : Int32)), (0, .ref this), (1, .int a1)]) hx hb dX11_isRing_1 rfl hl (by decide) rfl (fun ls hl => ?_)
  have hh17 : ∀ k : Nat, ∀ (x3 : Int32) (S4 : MS) (H : Heap) (locs : List Loc) (ls : Array Slot), f_X11_isRing_L2 n this a1 k x3 S4 = some (ro, So) → Rp G S4 H → va_S (gA G) s.heap H locs → Ex S S4 → Ok S4 this 11 → lv_has ls 3 [(0, .ref this), (1, .int a1), (2, .int x3)] → W p l e rX11_isRing s m args below meth c H locs 0 0 (MQ below (Qn G S (some (.int ro)) So) args s 0 0 (gA G)) (F0 m 2 ls []) := by
    intro k
    induction k with
    | zero =>
      intro x3 S4 H locs ls hf hR hS hE ok_this hl
      exact absurd hf (by rw [f_X11_isRing_L2]; exact fun h => by cases h)
    | succ k ih =>
      intro x3 S4 H locs ls hf hR hS hE ok_this hl
      rw [f_X11_isRing_L2] at hf
      obtain ⟨rec2_2, erec2_2, hf⟩ := jn_of2 hf
      have hL2_1 : ∀ (x3 : Int32) (S4 : MS) (H : Heap) (locs : List Loc) (ls : Array Slot), rec2_2 x3 S4 = some (ro, So) → Rp G S4 H → va_S (gA G) s.heap H locs → Ex S S4 → Ok S4 this 11 → lv_has ls 3 [(0, .ref this), (1, .int a1), (2, .int x3)] → W p l e rX11_isRing s m args below meth c H locs 0 0 (MQ below (Qn G S (some (.int ro)) So) args s 0 0 (gA G)) (F0 m 2 ls []) := by
        intro x3 S4 H locs ls hf hR hS hE ok_this hl
        rw [erec2_2] at hf
        exact ih x3 S4 _ _ _ hf hR hS hE ok_this hl
      refine lv_iload_n hx hb dX11_isRing_2 rfl (lv_at hl 2 rfl) ?_
      refine lv_aload_n hx hb dX11_isRing_3 rfl (lv_at hl 0 rfl) ?_
      refine gf_RX11_64 hC hR ok_this dX11_isRing_4 ?_
      refine lv_icmp_ge (tgt := 76) hx hb dX11_isRing_7 (by decide) (fun hc => ?_) (fun hc => ?_)
      · replace hf := if_t hf hc
        refine lv_iconst (v := 1) hx hb dX11_isRing_76 (by decide) ?_
        exact r_zret hC hR hS hE hf dX11_isRing_77
      · replace hf := if_f hf hc
        refine lv_aload_n hx hb dX11_isRing_10 rfl (lv_at hl 0 rfl) ?_
        obtain ⟨q5, hq6, ok_q5, hf⟩ := gR_of hf
        refine gf_RX11_46 hC hR ok_this hq6 dX11_isRing_11 ?_
        refine lv_iload_n hx hb dX11_isRing_14 rfl (lv_at hl 2 rfl) ?_
        obtain ⟨hi7, hf⟩ := ck_of hf
        refine r_iald hC hR ok_q5 hi7 dX11_isRing_15 ?_
        refine lv_iload_n hx hb dX11_isRing_16 rfl (lv_at hl 1 rfl) ?_
        obtain ⟨j70_9, ej70_9, hf⟩ := jn_of1 hf
        have hj70_8 : ∀ (S10 : MS) (H : Heap) (locs : List Loc) (ls : Array Slot), j70_9 S10 = some (ro, So) → Rp G S10 H → va_S (gA G) s.heap H locs → Ex S S10 → Ok S10 this 11 → lv_has ls 3 [(0, .ref this), (1, .int a1), (2, .int x3)] → W p l e rX11_isRing s m args below meth c H locs 0 0 (MQ below (Qn G S (some (.int ro)) So) args s 0 0 (gA G)) (F0 m 70 ls []) := by
          intro S10 H locs ls hf hR hS hE ok_this hl
          rw [ej70_9] at hf
          refine r_iinc (n := 1) (z := 1) (lv' := fun x11 => [(2, .int x11), (0, .ref this), (1, .int a1)]) hx hb dX11_isRing_70 hl (k := 2) rfl (by decide) (by decide) (fun _ => rfl) hf (fun x11 ls hf hl => ?_)
          refine lv_goto (tgt := 2) hx hb dX11_isRing_73 (by decide) ?_
          exact hL2_1 x11 S10 _ _ _ hf hR hS hE ok_this (lv_sub hl [1, 2, 0] rfl)
        refine lv_icmp_ne (tgt := 70) hx hb dX11_isRing_17 (by decide) (fun hc => ?_) (fun hc => ?_)
        · replace hf := if_f hf hc
          exact hj70_8 S4 _ _ _ hf hR hS hE ok_this (lv_sub hl [0, 1, 2] rfl)
        · replace hf := if_t hf hc
          refine lv_iload_n hx hb dX11_isRing_20 rfl (lv_at hl 2 rfl) ?_
          refine lv_aload_n hx hb dX11_isRing_21 rfl (lv_at hl 0 rfl) ?_
          refine gf_RX11_58 hC hR ok_this dX11_isRing_22 ?_
          obtain ⟨hn12, hf⟩ := dv_of hf
          refine lv_irem hx hb dX11_isRing_25 hn12 ?_
          refine lv_if_eq (tgt := 68) hx hb dX11_isRing_26 (by decide) (fun hc => ?_) (fun hc => ?_)
          · replace hf := if_t hf hc
            refine lv_iconst (v := 0) hx hb dX11_isRing_68 (by decide) ?_
            exact r_zret hC hR hS hE hf dX11_isRing_69
          · replace hf := if_f hf hc
            refine lv_iload_n hx hb dX11_isRing_29 rfl (lv_at hl 2 rfl) ?_
            refine lv_aload_n hx hb dX11_isRing_30 rfl (lv_at hl 0 rfl) ?_
            refine gf_RX11_58 hC hR ok_this dX11_isRing_31 ?_
            obtain ⟨hn13, hf⟩ := dv_of hf
            refine lv_irem hx hb dX11_isRing_34 hn13 ?_
            refine lv_aload_n hx hb dX11_isRing_35 rfl (lv_at hl 0 rfl) ?_
            refine gf_RX11_58 hC hR ok_this dX11_isRing_36 ?_
            refine lv_iconst (v := 1) hx hb dX11_isRing_39 (by decide) ?_
            refine lv_isub hx hb dX11_isRing_40 ?_
            refine lv_icmp_eq (tgt := 68) hx hb dX11_isRing_41 (by decide) (fun hc => ?_) (fun hc => ?_)
            · replace hf := if_t hf hc
              refine lv_iconst (v := 0) hx hb dX11_isRing_68 (by decide) ?_
              exact r_zret hC hR hS hE hf dX11_isRing_69
            · replace hf := if_f hf hc
              refine lv_iload_n hx hb dX11_isRing_44 rfl (lv_at hl 2 rfl) ?_
              refine lv_aload_n hx hb dX11_isRing_45 rfl (lv_at hl 0 rfl) ?_
              refine gf_RX11_58 hC hR ok_this dX11_isRing_46 ?_
              obtain ⟨hn14, hf⟩ := dv_of hf
              refine lv_idiv hx hb dX11_isRing_49 hn14 ?_
              refine lv_if_eq (tgt := 68) hx hb dX11_isRing_50 (by decide) (fun hc => ?_) (fun hc => ?_)
              · replace hf := if_t hf hc
                refine lv_iconst (v := 0) hx hb dX11_isRing_68 (by decide) ?_
                exact r_zret hC hR hS hE hf dX11_isRing_69
              · replace hf := if_f hf hc
                refine lv_iload_n hx hb dX11_isRing_53 rfl (lv_at hl 2 rfl) ?_
                refine lv_aload_n hx hb dX11_isRing_54 rfl (lv_at hl 0 rfl) ?_
                refine gf_RX11_58 hC hR ok_this dX11_isRing_55 ?_
                obtain ⟨hn15, hf⟩ := dv_of hf
                refine lv_idiv hx hb dX11_isRing_58 hn15 ?_
                refine lv_aload_n hx hb dX11_isRing_59 rfl (lv_at hl 0 rfl) ?_
                refine gf_RX11_61 hC hR ok_this dX11_isRing_60 ?_
                refine lv_iconst (v := 1) hx hb dX11_isRing_63 (by decide) ?_
                refine lv_isub hx hb dX11_isRing_64 ?_
                refine lv_icmp_ne (tgt := 70) hx hb dX11_isRing_65 (by decide) (fun hc => ?_) (fun hc => ?_)
                · replace hf := if_f hf hc
                  exact hj70_8 S4 _ _ _ hf hR hS hE ok_this (lv_sub hl [0, 1, 2] rfl)
                · replace hf := if_t hf hc
                  refine lv_iconst (v := 0) hx hb dX11_isRing_68 (by decide) ?_
                  exact r_zret hC hR hS hE hf dX11_isRing_69
  exact hh17 n (0 : Int32) S _ _ _ hf hR hS hE ok_this (lv_sub hl [1, 2, 0] rfl)
