abbrev rX10_time : Room := { frames := 7, cells := 0, slots := 0, locals := 186 }
def f_X10_time (n : Nat) (this : Nat) (a1 : Int32) (a2 : Int32) (a3 : Int32) (S : MS) : Option (Int32 × MS) :=
  cl (f_X10_isFarmer n a1 S) fun x4 S1 => (if x4 = 0 then some ((-1 : Int32), S1) else gR S1 (mR S1 this 0) 1 fun q5 => cl (f_X1_holds n q5 a2 S1) fun x10 S7 => (if x10 = 0 then some ((-1 : Int32), S7) else (if a3 < (1 : Int32) then some ((-1 : Int32), S7) else (if (20 : Int32) < a3 then some ((-1 : Int32), S7) else gR S7 (mR S7 this 3) 8 fun q11 => (if (mI S7 q11 6) = 0 then some ((-1 : Int32), S7) else gR S7 (mR S7 this 10) 2 fun q13 => cl (f_X2_firstSowing n q13 a1 a2 a3 S7) fun x18 S15 => some (x18, S15))))))
set_option maxRecDepth 100000 in
set_option maxHeartbeats 4000000 in
theorem c_X10_time (l : Launch) (G : Gx) (n : Nat) (this : Nat) (a1 : Int32) (a2 : Int32) (a3 : Int32) (S : MS) (ro : Int32) (So : MS) (hf : f_X10_time n this a1 a2 a3 S = some (ro, So)) (ok_this : Ok S this 10) : Cn G l yX10_time cX10_time 4 (some .int) rX10_time [.ref this, .int a1, .int a2, .int a3] S (some (.int ro)) So := by
  refine Cn.of (by decide) (Nat.le_of_ble_eq_true rfl) ?_
  intro p e s m args below meth c hC hname hR ls hl
  have hC : Cx G RX10 cX10_time 4 (some .int) p s m args meth c := hC
  have hl : lv_has ls 4 [(0, .ref this), (1, .int a1), (2, .int a2), (3, .int a3)] := hl
  have hx := hC.x
  have hb := hC.b
  have hS : va_S (gA G) s.heap s.heap [] := va_S.rf
  have hE : Ex S S := Ex.rf S
  unfold f_X10_time at hf
  refine lv_iload_n hx hb dX10_time_0 rfl (lv_at hl 1 rfl) ?_
  obtain ⟨x4, S1, hc2, hf⟩ := cl_of hf
  refine cl_RX10_203 (As := [.int a1]) (rest := []) hC hR hS (c_X10_isFarmer l G n a1 S x4 S1 hc2 ) rfl ⟨Nat.le_of_ble_eq_true rfl, Nat.le_of_ble_eq_true rfl⟩ hl.1 rfl (Nat.le_of_ble_eq_true rfl) dX10_time_1 (Nat.zero_le _) (Nat.zero_le _) (fun H locs hR hS hE3 => ?_)
  have ok_this := hE3 _ _ ok_this
  have hE := hE.tr hE3
  refine lv_if_eq (tgt := 39) hx hb dX10_time_4 (by decide) (fun hc => ?_) (fun hc => ?_)
  · replace hf := if_t hf hc
    refine lv_iconst (v := -1) hx hb dX10_time_39 (by decide) ?_
    exact r_iret hC hR hS hE hf dX10_time_40
  · replace hf := if_f hf hc
    refine lv_aload_n hx hb dX10_time_7 rfl (lv_at hl 0 rfl) ?_
    obtain ⟨q5, hq6, ok_q5, hf⟩ := gR_of hf
    refine gf_RX10_69 hC hR ok_this hq6 dX10_time_8 ?_
    refine lv_iload_n hx hb dX10_time_11 rfl (lv_at hl 2 rfl) ?_
    obtain ⟨x10, S7, hc8, hf⟩ := cl_of hf
    refine cl_RX10_101 (As := [.int a2]) (rest := []) hC hR hS (c_X1_holds l G n q5 a2 S1 x10 S7 hc8 ok_q5) ok_q5 rfl ⟨Nat.le_of_ble_eq_true rfl, Nat.le_of_ble_eq_true rfl⟩ hl.1 rfl (Nat.le_of_ble_eq_true rfl) dX10_time_12 (Nat.zero_le _) (Nat.zero_le _) (fun H locs hR hS hE9 => ?_)
    have ok_this := hE9 _ _ ok_this
    have ok_q5 := hE9 _ _ ok_q5
    have hE := hE.tr hE9
    refine lv_if_eq (tgt := 39) hx hb dX10_time_15 (by decide) (fun hc => ?_) (fun hc => ?_)
    · replace hf := if_t hf hc
      refine lv_iconst (v := -1) hx hb dX10_time_39 (by decide) ?_
      exact r_iret hC hR hS hE hf dX10_time_40
    · replace hf := if_f hf hc
      refine lv_iload_n hx hb dX10_time_18 rfl (lv_at hl 3 rfl) ?_
      refine lv_iconst (v := 1) hx hb dX10_time_19 (by decide) ?_
      refine lv_icmp_lt (tgt := 39) hx hb dX10_time_20 (by decide) (fun hc => ?_) (fun hc => ?_)
      · replace hf := if_t hf hc
        refine lv_iconst (v := -1) hx hb dX10_time_39 (by decide) ?_
        exact r_iret hC hR hS hE hf dX10_time_40
      · replace hf := if_f hf hc
        refine lv_iload_n hx hb dX10_time_23 rfl (lv_at hl 3 rfl) ?_
        refine lv_bipush (v := 20) hx hb dX10_time_24 (by decide) ?_
        refine lv_icmp_gt (tgt := 39) hx hb dX10_time_26 (by decide) (fun hc => ?_) (fun hc => ?_)
        · replace hf := if_t hf hc
          refine lv_iconst (v := -1) hx hb dX10_time_39 (by decide) ?_
          exact r_iret hC hR hS hE hf dX10_time_40
        · replace hf := if_f hf hc
          refine lv_aload_n hx hb dX10_time_29 rfl (lv_at hl 0 rfl) ?_
          obtain ⟨q11, hq12, ok_q11, hf⟩ := gR_of hf
          refine gf_RX10_10 hC hR ok_this hq12 dX10_time_30 ?_
          refine gf_RX10_274 hC hR ok_q11 dX10_time_33 ?_
          refine lv_if_ne (tgt := 41) hx hb dX10_time_36 (by decide) (fun hc => ?_) (fun hc => ?_)
          · replace hf := if_f hf hc
            refine lv_aload_n hx hb dX10_time_41 rfl (lv_at hl 0 rfl) ?_
            obtain ⟨q13, hq14, ok_q13, hf⟩ := gR_of hf
            refine gf_RX10_90 hC hR ok_this hq14 dX10_time_42 ?_
            refine lv_iload_n hx hb dX10_time_45 rfl (lv_at hl 1 rfl) ?_
            refine lv_iload_n hx hb dX10_time_46 rfl (lv_at hl 2 rfl) ?_
            refine lv_iload_n hx hb dX10_time_47 rfl (lv_at hl 3 rfl) ?_
            obtain ⟨x18, S15, hc16, hf⟩ := cl_of hf
            refine cl_RX10_277 (As := [.int a1, .int a2, .int a3]) (rest := []) hC hR hS (c_X2_firstSowing l G n q13 a1 a2 a3 S7 x18 S15 hc16 ok_q13) ok_q13 rfl ⟨Nat.le_of_ble_eq_true rfl, Nat.le_of_ble_eq_true rfl⟩ hl.1 rfl (Nat.le_of_ble_eq_true rfl) dX10_time_48 (Nat.zero_le _) (Nat.zero_le _) (fun H locs hR hS hE17 => ?_)
            have ok_this := hE17 _ _ ok_this
            have ok_q5 := hE17 _ _ ok_q5
            have ok_q11 := hE17 _ _ ok_q11
            have ok_q13 := hE17 _ _ ok_q13
            have hE := hE.tr hE17
            exact r_iret hC hR hS hE hf dX10_time_51
          · replace hf := if_t hf hc
            refine lv_iconst (v := -1) hx hb dX10_time_39 (by decide) ?_
            exact r_iret hC hR hS hE hf dX10_time_40
abbrev rX10_keeps : Room := { frames := 8, cells := 0, slots := 0, locals := 209 }
def f_X10_keeps (n : Nat) (this : Nat) (a1 : Int32) (a2 : Int32) (a3 : Int32) (a4 : Int32) (S : MS) : Option (Int32 × MS) :=
  cl (f_X10_isFarmer n a1 S) fun x4 S1 => (if x4 = 0 then some ((-1 : Int32), S1) else gR S1 (mR S1 this 0) 1 fun q5 => cl (f_X1_holds n q5 a2 S1) fun x10 S7 => (if x10 = 0 then some ((-1 : Int32), S7) else gR S7 (mR S7 this 1) 3 fun q11 => cl (f_X3_isBone n q11 a3 S7) fun x16 S13 => (if x16 = 0 then some ((-1 : Int32), S13) else (if a4 < (1 : Int32) then some ((-1 : Int32), S13) else (if (40 : Int32) < a4 then some ((-1 : Int32), S13) else gR S13 (mR S13 this 3) 8 fun q17 => (if (mI S13 q17 6) = 0 then some ((-1 : Int32), S13) else gR S13 (mR S13 this 10) 2 fun q19 => cl (f_X2_leastMore n q19 a1 a2 a3 a4 S13) fun x24 S21 => some (x24, S21)))))))
set_option maxRecDepth 100000 in
set_option maxHeartbeats 4000000 in
theorem c_X10_keeps (l : Launch) (G : Gx) (n : Nat) (this : Nat) (a1 : Int32) (a2 : Int32) (a3 : Int32) (a4 : Int32) (S : MS) (ro : Int32) (So : MS) (hf : f_X10_keeps n this a1 a2 a3 a4 S = some (ro, So)) (ok_this : Ok S this 10) : Cn G l yX10_keeps cX10_keeps 5 (some .int) rX10_keeps [.ref this, .int a1, .int a2, .int a3, .int a4] S (some (.int ro)) So := by
  refine Cn.of (by decide) (Nat.le_of_ble_eq_true rfl) ?_
  intro p e s m args below meth c hC hname hR ls hl
  have hC : Cx G RX10 cX10_keeps 5 (some .int) p s m args meth c := hC
  have hl : lv_has ls 5 [(0, .ref this), (1, .int a1), (2, .int a2), (3, .int a3), (4, .int a4)] := hl
  have hx := hC.x
  have hb := hC.b
  have hS : va_S (gA G) s.heap s.heap [] := va_S.rf
  have hE : Ex S S := Ex.rf S
  unfold f_X10_keeps at hf
  refine lv_iload_n hx hb dX10_keeps_0 rfl (lv_at hl 1 rfl) ?_
  obtain ⟨x4, S1, hc2, hf⟩ := cl_of hf
  refine cl_RX10_203 (As := [.int a1]) (rest := []) hC hR hS (c_X10_isFarmer l G n a1 S x4 S1 hc2 ) rfl ⟨Nat.le_of_ble_eq_true rfl, Nat.le_of_ble_eq_true rfl⟩ hl.1 rfl (Nat.le_of_ble_eq_true rfl) dX10_keeps_1 (Nat.zero_le _) (Nat.zero_le _) (fun H locs hR hS hE3 => ?_)
  have ok_this := hE3 _ _ ok_this
  have hE := hE.tr hE3
  refine lv_if_eq (tgt := 29) hx hb dX10_keeps_4 (by decide) (fun hc => ?_) (fun hc => ?_)
  · replace hf := if_t hf hc
    refine lv_iconst (v := -1) hx hb dX10_keeps_29 (by decide) ?_
    exact r_iret hC hR hS hE hf dX10_keeps_30
  · replace hf := if_f hf hc
    refine lv_aload_n hx hb dX10_keeps_7 rfl (lv_at hl 0 rfl) ?_
    obtain ⟨q5, hq6, ok_q5, hf⟩ := gR_of hf
    refine gf_RX10_69 hC hR ok_this hq6 dX10_keeps_8 ?_
    refine lv_iload_n hx hb dX10_keeps_11 rfl (lv_at hl 2 rfl) ?_
    obtain ⟨x10, S7, hc8, hf⟩ := cl_of hf
    refine cl_RX10_101 (As := [.int a2]) (rest := []) hC hR hS (c_X1_holds l G n q5 a2 S1 x10 S7 hc8 ok_q5) ok_q5 rfl ⟨Nat.le_of_ble_eq_true rfl, Nat.le_of_ble_eq_true rfl⟩ hl.1 rfl (Nat.le_of_ble_eq_true rfl) dX10_keeps_12 (Nat.zero_le _) (Nat.zero_le _) (fun H locs hR hS hE9 => ?_)
    have ok_this := hE9 _ _ ok_this
    have ok_q5 := hE9 _ _ ok_q5
    have hE := hE.tr hE9
    refine lv_if_eq (tgt := 29) hx hb dX10_keeps_15 (by decide) (fun hc => ?_) (fun hc => ?_)
    · replace hf := if_t hf hc
      refine lv_iconst (v := -1) hx hb dX10_keeps_29 (by decide) ?_
      exact r_iret hC hR hS hE hf dX10_keeps_30
    · replace hf := if_f hf hc
      refine lv_aload_n hx hb dX10_keeps_18 rfl (lv_at hl 0 rfl) ?_
      obtain ⟨q11, hq12, ok_q11, hf⟩ := gR_of hf
      refine gf_RX10_78 hC hR ok_this hq12 dX10_keeps_19 ?_
      refine lv_iload_n hx hb dX10_keeps_22 rfl (lv_at hl 3 rfl) ?_
      obtain ⟨x16, S13, hc14, hf⟩ := cl_of hf
      refine cl_RX10_163 (As := [.int a3]) (rest := []) hC hR hS (c_X3_isBone l G n q11 a3 S7 x16 S13 hc14 ok_q11) ok_q11 rfl ⟨Nat.le_of_ble_eq_true rfl, Nat.le_of_ble_eq_true rfl⟩ hl.1 rfl (Nat.le_of_ble_eq_true rfl) dX10_keeps_23 (Nat.zero_le _) (Nat.zero_le _) (fun H locs hR hS hE15 => ?_)
      have ok_this := hE15 _ _ ok_this
      have ok_q5 := hE15 _ _ ok_q5
      have ok_q11 := hE15 _ _ ok_q11
      have hE := hE.tr hE15
      refine lv_if_ne (tgt := 31) hx hb dX10_keeps_26 (by decide) (fun hc => ?_) (fun hc => ?_)
      · replace hf := if_f hf hc
        refine lv_iload hx hb dX10_keeps_31 (lv_at hl 4 rfl) ?_
        refine lv_iconst (v := 1) hx hb dX10_keeps_33 (by decide) ?_
        refine lv_icmp_lt (tgt := 54) hx hb dX10_keeps_34 (by decide) (fun hc => ?_) (fun hc => ?_)
        · replace hf := if_t hf hc
          refine lv_iconst (v := -1) hx hb dX10_keeps_54 (by decide) ?_
          exact r_iret hC hR hS hE hf dX10_keeps_55
        · replace hf := if_f hf hc
          refine lv_iload hx hb dX10_keeps_37 (lv_at hl 4 rfl) ?_
          refine lv_bipush (v := 40) hx hb dX10_keeps_39 (by decide) ?_
          refine lv_icmp_gt (tgt := 54) hx hb dX10_keeps_41 (by decide) (fun hc => ?_) (fun hc => ?_)
          · replace hf := if_t hf hc
            refine lv_iconst (v := -1) hx hb dX10_keeps_54 (by decide) ?_
            exact r_iret hC hR hS hE hf dX10_keeps_55
          · replace hf := if_f hf hc
            refine lv_aload_n hx hb dX10_keeps_44 rfl (lv_at hl 0 rfl) ?_
            obtain ⟨q17, hq18, ok_q17, hf⟩ := gR_of hf
            refine gf_RX10_10 hC hR ok_this hq18 dX10_keeps_45 ?_
            refine gf_RX10_274 hC hR ok_q17 dX10_keeps_48 ?_
            refine lv_if_ne (tgt := 56) hx hb dX10_keeps_51 (by decide) (fun hc => ?_) (fun hc => ?_)
            · replace hf := if_f hf hc
              refine lv_aload_n hx hb dX10_keeps_56 rfl (lv_at hl 0 rfl) ?_
              obtain ⟨q19, hq20, ok_q19, hf⟩ := gR_of hf
              refine gf_RX10_90 hC hR ok_this hq20 dX10_keeps_57 ?_
              refine lv_iload_n hx hb dX10_keeps_60 rfl (lv_at hl 1 rfl) ?_
              refine lv_iload_n hx hb dX10_keeps_61 rfl (lv_at hl 2 rfl) ?_
              refine lv_iload_n hx hb dX10_keeps_62 rfl (lv_at hl 3 rfl) ?_
              refine lv_iload hx hb dX10_keeps_63 (lv_at hl 4 rfl) ?_
              obtain ⟨x24, S21, hc22, hf⟩ := cl_of hf
              refine cl_RX10_281 (As := [.int a1, .int a2, .int a3, .int a4]) (rest := []) hC hR hS (c_X2_leastMore l G n q19 a1 a2 a3 a4 S13 x24 S21 hc22 ok_q19) ok_q19 rfl ⟨Nat.le_of_ble_eq_true rfl, Nat.le_of_ble_eq_true rfl⟩ hl.1 rfl (Nat.le_of_ble_eq_true rfl) dX10_keeps_65 (Nat.zero_le _) (Nat.zero_le _) (fun H locs hR hS hE23 => ?_)
              have ok_this := hE23 _ _ ok_this
              have ok_q5 := hE23 _ _ ok_q5
              have ok_q11 := hE23 _ _ ok_q11
              have ok_q17 := hE23 _ _ ok_q17
              have ok_q19 := hE23 _ _ ok_q19
              have hE := hE.tr hE23
              exact r_iret hC hR hS hE hf dX10_keeps_68
            · replace hf := if_t hf hc
              refine lv_iconst (v := -1) hx hb dX10_keeps_54 (by decide) ?_
              exact r_iret hC hR hS hE hf dX10_keeps_55
      · replace hf := if_t hf hc
        refine lv_iconst (v := -1) hx hb dX10_keeps_29 (by decide) ?_
        exact r_iret hC hR hS hE hf dX10_keeps_30
abbrev rX10_calm : Room := { frames := 7, cells := 0, slots := 0, locals := 181 }
def f_X10_calm (n : Nat) (this : Nat) (S : MS) : Option (Int32 × MS) :=
  gR S (mR S this 3) 8 fun q1 => (if (mI S q1 6) = 0 then some ((-1 : Int32), S) else gR S (mR S this 10) 2 fun q3 => cl (f_X2_calmHours n q3 S) fun x8 S5 => some (x8, S5))
set_option maxRecDepth 100000 in
set_option maxHeartbeats 4000000 in
theorem c_X10_calm (l : Launch) (G : Gx) (n : Nat) (this : Nat) (S : MS) (ro : Int32) (So : MS) (hf : f_X10_calm n this S = some (ro, So)) (ok_this : Ok S this 10) : Cn G l yX10_calm cX10_calm 1 (some .int) rX10_calm [.ref this] S (some (.int ro)) So := by
  refine Cn.of (by decide) (Nat.le_of_ble_eq_true rfl) ?_
  intro p e s m args below meth c hC hname hR ls hl
  have hC : Cx G RX10 cX10_calm 1 (some .int) p s m args meth c := hC
  have hl : lv_has ls 1 [(0, .ref this)] := hl
  have hx := hC.x
  have hb := hC.b
  have hS : va_S (gA G) s.heap s.heap [] := va_S.rf
  have hE : Ex S S := Ex.rf S
  unfold f_X10_calm at hf
  refine lv_aload_n hx hb dX10_calm_0 rfl (lv_at hl 0 rfl) ?_
  obtain ⟨q1, hq2, ok_q1, hf⟩ := gR_of hf
  refine gf_RX10_10 hC hR ok_this hq2 dX10_calm_1 ?_
  refine gf_RX10_274 hC hR ok_q1 dX10_calm_4 ?_
  refine lv_if_ne (tgt := 14) hx hb dX10_calm_7 (by decide) (fun hc => ?_) (fun hc => ?_)
  · replace hf := if_f hf hc
    refine lv_aload_n hx hb dX10_calm_14 rfl (lv_at hl 0 rfl) ?_
    obtain ⟨q3, hq4, ok_q3, hf⟩ := gR_of hf
    refine gf_RX10_90 hC hR ok_this hq4 dX10_calm_15 ?_
    obtain ⟨x8, S5, hc6, hf⟩ := cl_of hf
    refine cl_RX10_284 (As := []) (rest := []) hC hR hS (c_X2_calmHours l G n q3 S x8 S5 hc6 ok_q3) ok_q3 rfl ⟨Nat.le_of_ble_eq_true rfl, Nat.le_of_ble_eq_true rfl⟩ hl.1 rfl (Nat.le_of_ble_eq_true rfl) dX10_calm_18 (Nat.zero_le _) (Nat.zero_le _) (fun H locs hR hS hE7 => ?_)
    have ok_this := hE7 _ _ ok_this
    have ok_q1 := hE7 _ _ ok_q1
    have ok_q3 := hE7 _ _ ok_q3
    have hE := hE.tr hE7
    exact r_iret hC hR hS hE hf dX10_calm_21
  · replace hf := if_t hf hc
    refine lv_iconst (v := -1) hx hb dX10_calm_10 (by decide) ?_
    refine lv_goto (tgt := 21) hx hb dX10_calm_11 (by decide) ?_
    exact r_iret hC hR hS hE hf dX10_calm_21
abbrev rX10_disputes : Room := { frames := 7, cells := 0, slots := 0, locals := 183 }
def f_X10_disputes (n : Nat) (this : Nat) (a1 : Int32) (S : MS) : Option (Int32 × MS) :=
  (if a1 < 0 then some ((-1 : Int32), S) else (if a1 ≤ (40 : Int32) then (if a1 = 0 then gR S (mR S this 1) 3 fun q9 => cl (f_X3_disputed n q9 S) fun x14 S11 => some (x14, S11) else gR S (mR S this 3) 8 fun q1 => (if (mI S q1 6) = 0 then some ((-1 : Int32), S) else gR S (mR S this 10) 2 fun q3 => cl (f_X2_disputedBehind n q3 a1 S) fun x8 S5 => some (x8, S5))) else some ((-1 : Int32), S)))
set_option maxRecDepth 100000 in
set_option maxHeartbeats 4000000 in
theorem c_X10_disputes (l : Launch) (G : Gx) (n : Nat) (this : Nat) (a1 : Int32) (S : MS) (ro : Int32) (So : MS) (hf : f_X10_disputes n this a1 S = some (ro, So)) (ok_this : Ok S this 10) : Cn G l yX10_disputes cX10_disputes 2 (some .int) rX10_disputes [.ref this, .int a1] S (some (.int ro)) So := by
  refine Cn.of (by decide) (Nat.le_of_ble_eq_true rfl) ?_
  intro p e s m args below meth c hC hname hR ls hl
  have hC : Cx G RX10 cX10_disputes 2 (some .int) p s m args meth c := hC
  have hl : lv_has ls 2 [(0, .ref this), (1, .int a1)] := hl
  have hx := hC.x
  have hb := hC.b
  have hS : va_S (gA G) s.heap s.heap [] := va_S.rf
  have hE : Ex S S := Ex.rf S
  unfold f_X10_disputes at hf
  refine lv_iload_n hx hb dX10_disputes_0 rfl (lv_at hl 1 rfl) ?_
  refine lv_if_lt (tgt := 10) hx hb dX10_disputes_1 (by decide) (fun hc => ?_) (fun hc => ?_)
  · replace hf := if_t hf hc
    refine lv_iconst (v := -1) hx hb dX10_disputes_10 (by decide) ?_
    exact r_iret hC hR hS hE hf dX10_disputes_11
  · replace hf := if_f hf hc
    refine lv_iload_n hx hb dX10_disputes_4 rfl (lv_at hl 1 rfl) ?_
    refine lv_bipush (v := 40) hx hb dX10_disputes_5 (by decide) ?_
    refine lv_icmp_le (tgt := 12) hx hb dX10_disputes_7 (by decide) (fun hc => ?_) (fun hc => ?_)
    · replace hf := if_t hf hc
      refine lv_iload_n hx hb dX10_disputes_12 rfl (lv_at hl 1 rfl) ?_
      refine lv_if_ne (tgt := 24) hx hb dX10_disputes_13 (by decide) (fun hc => ?_) (fun hc => ?_)
      · replace hf := if_f hf hc
        refine lv_aload_n hx hb dX10_disputes_24 rfl (lv_at hl 0 rfl) ?_
        obtain ⟨q1, hq2, ok_q1, hf⟩ := gR_of hf
        refine gf_RX10_10 hC hR ok_this hq2 dX10_disputes_25 ?_
        refine gf_RX10_274 hC hR ok_q1 dX10_disputes_28 ?_
        refine lv_if_ne (tgt := 38) hx hb dX10_disputes_31 (by decide) (fun hc => ?_) (fun hc => ?_)
        · replace hf := if_f hf hc
          refine lv_aload_n hx hb dX10_disputes_38 rfl (lv_at hl 0 rfl) ?_
          obtain ⟨q3, hq4, ok_q3, hf⟩ := gR_of hf
          refine gf_RX10_90 hC hR ok_this hq4 dX10_disputes_39 ?_
          refine lv_iload_n hx hb dX10_disputes_42 rfl (lv_at hl 1 rfl) ?_
          obtain ⟨x8, S5, hc6, hf⟩ := cl_of hf
          refine cl_RX10_291 (As := [.int a1]) (rest := []) hC hR hS (c_X2_disputedBehind l G n q3 a1 S x8 S5 hc6 ok_q3) ok_q3 rfl ⟨Nat.le_of_ble_eq_true rfl, Nat.le_of_ble_eq_true rfl⟩ hl.1 rfl (Nat.le_of_ble_eq_true rfl) dX10_disputes_43 (Nat.zero_le _) (Nat.zero_le _) (fun H locs hR hS hE7 => ?_)
          have ok_this := hE7 _ _ ok_this
          have ok_q1 := hE7 _ _ ok_q1
          have ok_q3 := hE7 _ _ ok_q3
          have hE := hE.tr hE7
          exact r_iret hC hR hS hE hf dX10_disputes_46
        · replace hf := if_t hf hc
          refine lv_iconst (v := -1) hx hb dX10_disputes_34 (by decide) ?_
          refine lv_goto (tgt := 46) hx hb dX10_disputes_35 (by decide) ?_
          exact r_iret hC hR hS hE hf dX10_disputes_46
      · replace hf := if_t hf hc
        refine lv_aload_n hx hb dX10_disputes_16 rfl (lv_at hl 0 rfl) ?_
        obtain ⟨q9, hq10, ok_q9, hf⟩ := gR_of hf
        refine gf_RX10_78 hC hR ok_this hq10 dX10_disputes_17 ?_
        obtain ⟨x14, S11, hc12, hf⟩ := cl_of hf
        refine cl_RX10_288 (As := []) (rest := []) hC hR hS (c_X3_disputed l G n q9 S x14 S11 hc12 ok_q9) ok_q9 rfl ⟨Nat.le_of_ble_eq_true rfl, Nat.le_of_ble_eq_true rfl⟩ hl.1 rfl (Nat.le_of_ble_eq_true rfl) dX10_disputes_20 (Nat.zero_le _) (Nat.zero_le _) (fun H locs hR hS hE13 => ?_)
        have ok_this := hE13 _ _ ok_this
        have ok_q9 := hE13 _ _ ok_q9
        have hE := hE.tr hE13
        exact r_iret hC hR hS hE hf dX10_disputes_23
    · replace hf := if_f hf hc
      refine lv_iconst (v := -1) hx hb dX10_disputes_10 (by decide) ?_
      exact r_iret hC hR hS hE hf dX10_disputes_11
abbrev rX10_map : Room := { frames := 1, cells := 0, slots := 0, locals := 21 }
def f_X10_map (n : Nat) (this : Nat) (a1 : Int32) (a2 : Int32) (S : MS) : Option (Int32 × MS) :=
  gR S (mR S this 1) 3 fun q1 => cl (f_X3_isBone n q1 a1 S) fun x6 S3 => (if x6 = 0 then zb (0 : Int32) (some ((0 : Int32), S3)) else (if a2 = (-1 : Int32) then gR S3 (mR S3 this 3) 8 fun q7 => gR S3 (mR S3 q7 5) 12 fun q9 => ck (inb a1 (mN S3 q9)) (bd (sI S3 q9 a1.toNatClampNeg a2) fun S12 => zb (1 : Int32) (some ((1 : Int32), S12))) else gR S3 (mR S3 this 0) 1 fun q14 => cl (f_X1_holds n q14 a2 S3) fun x19 S16 => (if x19 = 0 then zb (0 : Int32) (some ((0 : Int32), S16)) else gR S16 (mR S16 this 3) 8 fun q20 => gR S16 (mR S16 q20 5) 12 fun q22 => ck (inb a1 (mN S16 q22)) (bd (sI S16 q22 a1.toNatClampNeg a2) fun S25 => zb (1 : Int32) (some ((1 : Int32), S25))))))
set_option maxRecDepth 100000 in
set_option maxHeartbeats 4000000 in
theorem c_X10_map (l : Launch) (G : Gx) (n : Nat) (this : Nat) (a1 : Int32) (a2 : Int32) (S : MS) (ro : Int32) (So : MS) (hf : f_X10_map n this a1 a2 S = some (ro, So)) (ok_this : Ok S this 10) : Cn G l yX10_map cX10_map 3 (some .boolean) rX10_map [.ref this, .int a1, .int a2] S (some (.int ro)) So := by
  refine Cn.of (by decide) (Nat.le_of_ble_eq_true rfl) ?_
  intro p e s m args below meth c hC hname hR ls hl
  have hC : Cx G RX10 cX10_map 3 (some .boolean) p s m args meth c := hC
  have hl : lv_has ls 3 [(0, .ref this), (1, .int a1), (2, .int a2)] := hl
  have hx := hC.x
  have hb := hC.b
  have hS : va_S (gA G) s.heap s.heap [] := va_S.rf
  have hE : Ex S S := Ex.rf S
  unfold f_X10_map at hf
  refine lv_aload_n hx hb dX10_map_0 rfl (lv_at hl 0 rfl) ?_
  obtain ⟨q1, hq2, ok_q1, hf⟩ := gR_of hf
  refine gf_RX10_78 hC hR ok_this hq2 dX10_map_1 ?_
  refine lv_iload_n hx hb dX10_map_4 rfl (lv_at hl 1 rfl) ?_
  obtain ⟨x6, S3, hc4, hf⟩ := cl_of hf
  refine cl_RX10_163 (As := [.int a1]) (rest := []) hC hR hS (c_X3_isBone l G n q1 a1 S x6 S3 hc4 ok_q1) ok_q1 rfl ⟨Nat.le_of_ble_eq_true rfl, Nat.le_of_ble_eq_true rfl⟩ hl.1 rfl (Nat.le_of_ble_eq_true rfl) dX10_map_5 (Nat.zero_le _) (Nat.zero_le _) (fun H locs hR hS hE5 => ?_)
  have ok_this := hE5 _ _ ok_this
  have ok_q1 := hE5 _ _ ok_q1
  have hE := hE.tr hE5
  refine lv_if_eq (tgt := 27) hx hb dX10_map_8 (by decide) (fun hc => ?_) (fun hc => ?_)
  · replace hf := if_t hf hc
    refine lv_iconst (v := 0) hx hb dX10_map_27 (by decide) ?_
    exact r_zret hC hR hS hE hf dX10_map_28
  · replace hf := if_f hf hc
    refine lv_iload_n hx hb dX10_map_11 rfl (lv_at hl 2 rfl) ?_
    refine lv_iconst (v := -1) hx hb dX10_map_12 (by decide) ?_
    refine lv_icmp_eq (tgt := 29) hx hb dX10_map_13 (by decide) (fun hc => ?_) (fun hc => ?_)
    · replace hf := if_t hf hc
      refine lv_aload_n hx hb dX10_map_29 rfl (lv_at hl 0 rfl) ?_
      obtain ⟨q7, hq8, ok_q7, hf⟩ := gR_of hf
      refine gf_RX10_10 hC hR ok_this hq8 dX10_map_30 ?_
      obtain ⟨q9, hq10, ok_q9, hf⟩ := gR_of hf
      refine gf_RX10_294 hC hR ok_q7 hq10 dX10_map_33 ?_
      refine lv_iload_n hx hb dX10_map_36 rfl (lv_at hl 1 rfl) ?_
      refine lv_iload_n hx hb dX10_map_37 rfl (lv_at hl 2 rfl) ?_
      obtain ⟨hi11, hf⟩ := ck_of hf
      refine rB_iast hC hR hS ok_q9 hi11 dX10_map_38 hf (fun S12 H locs hf hR hS hE13 => ?_)
      have ok_this := hE13 _ _ ok_this
      have ok_q1 := hE13 _ _ ok_q1
      have ok_q7 := hE13 _ _ ok_q7
      have ok_q9 := hE13 _ _ ok_q9
      have hE := hE.tr hE13
      refine lv_iconst (v := 1) hx hb dX10_map_39 (by decide) ?_
      exact r_zret hC hR hS hE hf dX10_map_40
    · replace hf := if_f hf hc
      refine lv_aload_n hx hb dX10_map_16 rfl (lv_at hl 0 rfl) ?_
      obtain ⟨q14, hq15, ok_q14, hf⟩ := gR_of hf
      refine gf_RX10_69 hC hR ok_this hq15 dX10_map_17 ?_
      refine lv_iload_n hx hb dX10_map_20 rfl (lv_at hl 2 rfl) ?_
      obtain ⟨x19, S16, hc17, hf⟩ := cl_of hf
      refine cl_RX10_101 (As := [.int a2]) (rest := []) hC hR hS (c_X1_holds l G n q14 a2 S3 x19 S16 hc17 ok_q14) ok_q14 rfl ⟨Nat.le_of_ble_eq_true rfl, Nat.le_of_ble_eq_true rfl⟩ hl.1 rfl (Nat.le_of_ble_eq_true rfl) dX10_map_21 (Nat.zero_le _) (Nat.zero_le _) (fun H locs hR hS hE18 => ?_)
      have ok_this := hE18 _ _ ok_this
      have ok_q1 := hE18 _ _ ok_q1
      have ok_q14 := hE18 _ _ ok_q14
      have hE := hE.tr hE18
      refine lv_if_ne (tgt := 29) hx hb dX10_map_24 (by decide) (fun hc => ?_) (fun hc => ?_)
      · replace hf := if_f hf hc
        refine lv_aload_n hx hb dX10_map_29 rfl (lv_at hl 0 rfl) ?_
        obtain ⟨q20, hq21, ok_q20, hf⟩ := gR_of hf
        refine gf_RX10_10 hC hR ok_this hq21 dX10_map_30 ?_
        obtain ⟨q22, hq23, ok_q22, hf⟩ := gR_of hf
        refine gf_RX10_294 hC hR ok_q20 hq23 dX10_map_33 ?_
        refine lv_iload_n hx hb dX10_map_36 rfl (lv_at hl 1 rfl) ?_
        refine lv_iload_n hx hb dX10_map_37 rfl (lv_at hl 2 rfl) ?_
        obtain ⟨hi24, hf⟩ := ck_of hf
        refine rB_iast hC hR hS ok_q22 hi24 dX10_map_38 hf (fun S25 H locs hf hR hS hE26 => ?_)
        have ok_this := hE26 _ _ ok_this
        have ok_q1 := hE26 _ _ ok_q1
        have ok_q14 := hE26 _ _ ok_q14
        have ok_q20 := hE26 _ _ ok_q20
        have ok_q22 := hE26 _ _ ok_q22
        have hE := hE.tr hE26
        refine lv_iconst (v := 1) hx hb dX10_map_39 (by decide) ?_
        exact r_zret hC hR hS hE hf dX10_map_40
      · replace hf := if_t hf hc
        refine lv_iconst (v := 0) hx hb dX10_map_27 (by decide) ?_
        exact r_zret hC hR hS hE hf dX10_map_28
abbrev rX10_made : Room := { frames := 6, cells := 0, slots := 0, locals := 163 }
def f_X10_made (n : Nat) (this : Nat) (S : MS) : Option (Int32 × MS) :=
  gR S (mR S this 10) 2 fun q1 => cl (f_X2_makers n q1 S) fun x6 S3 => some (x6, S3)
set_option maxRecDepth 100000 in
set_option maxHeartbeats 4000000 in
theorem c_X10_made (l : Launch) (G : Gx) (n : Nat) (this : Nat) (S : MS) (ro : Int32) (So : MS) (hf : f_X10_made n this S = some (ro, So)) (ok_this : Ok S this 10) : Cn G l yX10_made cX10_made 1 (some .int) rX10_made [.ref this] S (some (.int ro)) So := by
  refine Cn.of (by decide) (Nat.le_of_ble_eq_true rfl) ?_
  intro p e s m args below meth c hC hname hR ls hl
  have hC : Cx G RX10 cX10_made 1 (some .int) p s m args meth c := hC
  have hl : lv_has ls 1 [(0, .ref this)] := hl
  have hx := hC.x
  have hb := hC.b
  have hS : va_S (gA G) s.heap s.heap [] := va_S.rf
  have hE : Ex S S := Ex.rf S
  unfold f_X10_made at hf
  refine lv_aload_n hx hb dX10_made_0 rfl (lv_at hl 0 rfl) ?_
  obtain ⟨q1, hq2, ok_q1, hf⟩ := gR_of hf
  refine gf_RX10_90 hC hR ok_this hq2 dX10_made_1 ?_
  obtain ⟨x6, S3, hc4, hf⟩ := cl_of hf
  refine cl_RX10_297 (As := []) (rest := []) hC hR hS (c_X2_makers l G n q1 S x6 S3 hc4 ok_q1) ok_q1 rfl ⟨Nat.le_of_ble_eq_true rfl, Nat.le_of_ble_eq_true rfl⟩ hl.1 rfl (Nat.le_of_ble_eq_true rfl) dX10_made_4 (Nat.zero_le _) (Nat.zero_le _) (fun H locs hR hS hE5 => ?_)
  have ok_this := hE5 _ _ ok_this
  have ok_q1 := hE5 _ _ ok_q1
  have hE := hE.tr hE5
  exact r_iret hC hR hS hE hf dX10_made_7
abbrev rX10_hours : Room := { frames := 5, cells := 0, slots := 0, locals := 139 }
def f_X10_hours_L65 (n : Nat) (this : Nat) (a2 : Int32) (x6 : Int32) : Nat → Int32 → Int32 → Int32 → MS → Option (Int32 × MS)
  | 0, _, _, _, _ => none
  | k + 1, x12, x13, x14, S15 => jn (f_X10_hours_L65 n this a2 x6 k) fun rec65_11 => (if a2 ≤ x14 then some (x13, S15) else gR S15 (mR S15 this 9) 9 fun q16 => gR S15 (mR S15 this 1) 3 fun q18 => gR S15 (mR S15 this 3) 8 fun q20 => dv x6 (cl (f_X8_windAt n q20 (x12 - x12 / x6 * x6) S15) fun x26 S23 => cl (f_X9_blow n q16 q18 x26 S23) fun x30 S27 => bd (x13 + x30) fun x31 => dv (30103 : Int32) (bd (((x12 * (179 : Int32)) + (41 : Int32)) - ((x12 * (179 : Int32)) + (41 : Int32)) / (30103 : Int32) * (30103 : Int32)) fun x33 => bd (x14 + (1 : Int32)) fun x34 => rec65_11 x33 x31 x34 S27)))
def f_X10_hours (n : Nat) (this : Nat) (a1 : Int32) (a2 : Int32) (S : MS) : Option (Int32 × MS) :=
  gR S (mR S this 3) 8 fun q1 => cl (f_X8_allChances n q1 S) fun x6 S3 => (if a1 < 0 then some ((-1 : Int32), S3) else (if (9999 : Int32) < a1 then some ((-1 : Int32), S3) else (if a2 < (1 : Int32) then some ((-1 : Int32), S3) else (if (40 : Int32) < a2 then some ((-1 : Int32), S3) else (if x6 ≤ 0 then some ((-1 : Int32), S3) else gR S3 (mR S3 this 1) 3 fun q7 => (if ((mI S3 q7 8) + a2) ≤ (999 : Int32) then bd ((a1 * (3 : Int32)) + (8 : Int32)) fun x9 => f_X10_hours_L65 n this a2 x6 n x9 (0 : Int32) (0 : Int32) S3 else some ((-1 : Int32), S3)))))))
set_option maxRecDepth 100000 in
set_option maxHeartbeats 4000000 in
theorem c_X10_hours (l : Launch) (G : Gx) (n : Nat) (this : Nat) (a1 : Int32) (a2 : Int32) (S : MS) (ro : Int32) (So : MS) (hf : f_X10_hours n this a1 a2 S = some (ro, So)) (ok_this : Ok S this 10) : Cn G l yX10_hours cX10_hours 7 (some .int) rX10_hours [.ref this, .int a1, .int a2] S (some (.int ro)) So := by
  refine Cn.of (by decide) (Nat.le_of_ble_eq_true rfl) ?_
  intro p e s m args below meth c hC hname hR ls hl
  have hC : Cx G RX10 cX10_hours 7 (some .int) p s m args meth c := hC
  have hl : lv_has ls 7 [(0, .ref this), (1, .int a1), (2, .int a2)] := hl
  have hx := hC.x
  have hb := hC.b
  have hS : va_S (gA G) s.heap s.heap [] := va_S.rf
  have hE : Ex S S := Ex.rf S
  unfold f_X10_hours at hf
  refine lv_aload_n hx hb dX10_hours_0 rfl (lv_at hl 0 rfl) ?_
  obtain ⟨q1, hq2, ok_q1, hf⟩ := gR_of hf
  refine gf_RX10_10 hC hR ok_this hq2 dX10_hours_1 ?_
  obtain ⟨x6, S3, hc4, hf⟩ := cl_of hf
  refine cl_RX10_300 (As := []) (rest := []) hC hR hS (c_X8_allChances l G n q1 S x6 S3 hc4 ok_q1) ok_q1 rfl ⟨Nat.le_of_ble_eq_true rfl, Nat.le_of_ble_eq_true rfl⟩ hl.1 rfl (Nat.le_of_ble_eq_true rfl) dX10_hours_4 (Nat.zero_le _) (Nat.zero_le _) (fun H locs hR hS hE5 => ?_)
  have ok_this := hE5 _ _ ok_this
  have ok_q1 := hE5 _ _ ok_q1
  have hE := hE.tr hE5
  refine lv_istore_n (lv' := [(3, .int x6), (0, .ref this), (1, .int a1), (2, .int a2)]) hx hb dX10_hours_7 rfl hl (by decide) rfl (fun ls hl => ?_)
  refine lv_iload_n hx hb dX10_hours_8 rfl (lv_at hl 2 rfl) ?_
  refine lv_if_lt (tgt := 49) hx hb dX10_hours_9 (by decide) (fun hc => ?_) (fun hc => ?_)
  · replace hf := if_t hf hc
    refine lv_iconst (v := -1) hx hb dX10_hours_49 (by decide) ?_
    exact r_iret hC hR hS hE hf dX10_hours_50
  · replace hf := if_f hf hc
    refine lv_iload_n hx hb dX10_hours_12 rfl (lv_at hl 2 rfl) ?_
    refine lv_sipush (v := 9999) hx hb dX10_hours_13 (by decide) ?_
    refine lv_icmp_gt (tgt := 49) hx hb dX10_hours_16 (by decide) (fun hc => ?_) (fun hc => ?_)
    · replace hf := if_t hf hc
      refine lv_iconst (v := -1) hx hb dX10_hours_49 (by decide) ?_
      exact r_iret hC hR hS hE hf dX10_hours_50
    · replace hf := if_f hf hc
      refine lv_iload_n hx hb dX10_hours_19 rfl (lv_at hl 3 rfl) ?_
      refine lv_iconst (v := 1) hx hb dX10_hours_20 (by decide) ?_
      refine lv_icmp_lt (tgt := 49) hx hb dX10_hours_21 (by decide) (fun hc => ?_) (fun hc => ?_)
      · replace hf := if_t hf hc
        refine lv_iconst (v := -1) hx hb dX10_hours_49 (by decide) ?_
        exact r_iret hC hR hS hE hf dX10_hours_50
      · replace hf := if_f hf hc
        refine lv_iload_n hx hb dX10_hours_24 rfl (lv_at hl 3 rfl) ?_
        refine lv_bipush (v := 40) hx hb dX10_hours_25 (by decide) ?_
        refine lv_icmp_gt (tgt := 49) hx hb dX10_hours_27 (by decide) (fun hc => ?_) (fun hc => ?_)
        · replace hf := if_t hf hc
          refine lv_iconst (v := -1) hx hb dX10_hours_49 (by decide) ?_
          exact r_iret hC hR hS hE hf dX10_hours_50
        · replace hf := if_f hf hc
          refine lv_iload_n hx hb dX10_hours_30 rfl (lv_at hl 0 rfl) ?_
          refine lv_if_le (tgt := 49) hx hb dX10_hours_31 (by decide) (fun hc => ?_) (fun hc => ?_)
          · replace hf := if_t hf hc
            refine lv_iconst (v := -1) hx hb dX10_hours_49 (by decide) ?_
            exact r_iret hC hR hS hE hf dX10_hours_50
          · replace hf := if_f hf hc
            refine lv_aload_n hx hb dX10_hours_34 rfl (lv_at hl 1 rfl) ?_
            obtain ⟨q7, hq8, ok_q7, hf⟩ := gR_of hf
            refine gf_RX10_78 hC hR ok_this hq8 dX10_hours_35 ?_
            refine gf_RX10_224 hC hR ok_q7 dX10_hours_38 ?_
            refine lv_iload_n hx hb dX10_hours_41 rfl (lv_at hl 3 rfl) ?_
            refine lv_iadd hx hb dX10_hours_42 ?_
            refine lv_sipush (v := 999) hx hb dX10_hours_43 (by decide) ?_
            refine lv_icmp_le (tgt := 51) hx hb dX10_hours_46 (by decide) (fun hc => ?_) (fun hc => ?_)
            · replace hf := if_t hf hc
              refine lv_iload_n hx hb dX10_hours_51 rfl (lv_at hl 2 rfl) ?_
              refine lv_iconst (v := 3) hx hb dX10_hours_52 (by decide) ?_
              refine lv_imul hx hb dX10_hours_53 ?_
              refine lv_bipush (v := 8) hx hb dX10_hours_54 (by decide) ?_
              refine lv_iadd hx hb dX10_hours_56 ?_
              refine bdi hf (fun x9 hf => ?_)
              refine lv_istore (lv' := [(4, .int x9), (3, .int x6), (0, .ref this), (1, .int a1), (2, .int a2)]) hx hb dX10_hours_57 hl (by decide) rfl (fun ls hl => ?_)
              refine lv_iconst (v := 0) hx hb dX10_hours_59 (by decide) ?_
              refine lv_istore (lv' := [(5, .int (0 : Int32)), (4, .int x9), (3, .int x6), (0, .ref this), (1, .int a1), (2, .int a2)]) hx hb dX10_hours_60 hl (by decide) rfl (fun ls hl => ?_)
              refine lv_iconst (v := 0) hx hb dX10_hours_62 (by decide) ?_
              refine lv_istore (lv' := [(6, .int (0 : Int32)), (5, .int (0 : Int32)), (4, .int x9), (3, .int x6), (0, .ref this), (1, .int a1), (2, .int a2)]) hx hb dX10_hours_63 hl (by decide) rfl (fun ls hl => ?_)
              have hh35 : ∀ k : Nat, ∀ (x12 : Int32) (x13 : Int32) (x14 : Int32) (S15 : MS) (H : Heap) (locs : List Loc) (ls : Array Slot), f_X10_hours_L65 n this a2 x6 k x12 x13 x14 S15 = some (ro, So) → Rp G S15 H → va_S (gA G) s.heap H locs → Ex S S15 → Ok S15 this 10 → lv_has ls 7 [(0, .ref this), (2, .int a2), (3, .int x6), (4, .int x12), (5, .int x13), (6, .int x14)] → W p l e rX10_hours s m args below meth c H locs 0 0 (MQ below (Qn G S (some (.int ro)) So) args s 0 0 (gA G)) (F0 m 65 ls []) := by
                intro k
                induction k with
                | zero =>
                  intro x12 x13 x14 S15 H locs ls hf hR hS hE ok_this hl
                  exact absurd hf (by rw [f_X10_hours_L65]; exact fun h => by cases h)
                | succ k ih =>
                  intro x12 x13 x14 S15 H locs ls hf hR hS hE ok_this hl
                  rw [f_X10_hours_L65] at hf
                  obtain ⟨rec65_11, erec65_11, hf⟩ := jn_of4 hf
                  have hL65_10 : ∀ (x12 : Int32) (x13 : Int32) (x14 : Int32) (S15 : MS) (H : Heap) (locs : List Loc) (ls : Array Slot), rec65_11 x12 x13 x14 S15 = some (ro, So) → Rp G S15 H → va_S (gA G) s.heap H locs → Ex S S15 → Ok S15 this 10 → lv_has ls 7 [(0, .ref this), (2, .int a2), (3, .int x6), (4, .int x12), (5, .int x13), (6, .int x14)] → W p l e rX10_hours s m args below meth c H locs 0 0 (MQ below (Qn G S (some (.int ro)) So) args s 0 0 (gA G)) (F0 m 65 ls []) := by
                    intro x12 x13 x14 S15 H locs ls hf hR hS hE ok_this hl
                    rw [erec65_11] at hf
                    exact ih x12 x13 x14 S15 _ _ _ hf hR hS hE ok_this hl
                  refine lv_iload hx hb dX10_hours_65 (lv_at hl 5 rfl) ?_
                  refine lv_iload_n hx hb dX10_hours_67 rfl (lv_at hl 1 rfl) ?_
                  refine lv_icmp_ge (tgt := 119) hx hb dX10_hours_68 (by decide) (fun hc => ?_) (fun hc => ?_)
                  · replace hf := if_t hf hc
                    refine lv_iload hx hb dX10_hours_119 (lv_at hl 4 rfl) ?_
                    exact r_iret hC hR hS hE hf dX10_hours_121
                  · replace hf := if_f hf hc
                    refine lv_iload hx hb dX10_hours_71 (lv_at hl 4 rfl) ?_
                    refine lv_aload_n hx hb dX10_hours_73 rfl (lv_at hl 0 rfl) ?_
                    obtain ⟨q16, hq17, ok_q16, hf⟩ := gR_of hf
                    refine gf_RX10_51 hC hR ok_this hq17 dX10_hours_74 ?_
                    refine lv_aload_n hx hb dX10_hours_77 rfl (lv_at hl 0 rfl) ?_
                    obtain ⟨q18, hq19, ok_q18, hf⟩ := gR_of hf
                    refine gf_RX10_78 hC hR ok_this hq19 dX10_hours_78 ?_
                    refine lv_aload_n hx hb dX10_hours_81 rfl (lv_at hl 0 rfl) ?_
                    obtain ⟨q20, hq21, ok_q20, hf⟩ := gR_of hf
                    refine gf_RX10_10 hC hR ok_this hq21 dX10_hours_82 ?_
                    refine lv_iload hx hb dX10_hours_85 (lv_at hl 3 rfl) ?_
                    refine lv_iload_n hx hb dX10_hours_87 rfl (lv_at hl 2 rfl) ?_
                    obtain ⟨hn22, hf⟩ := dv_of hf
                    refine lv_irem hx hb dX10_hours_88 hn22 ?_
                    obtain ⟨x26, S23, hc24, hf⟩ := cl_of hf
                    refine cl_RX10_303 (As := [.int (x12 - x12 / x6 * x6)]) (rest := [.ref q18, .ref q16, .int x13]) hC hR hS (c_X8_windAt l G n q20 (x12 - x12 / x6 * x6) S15 x26 S23 hc24 ok_q20) ok_q20 rfl ⟨Nat.le_of_ble_eq_true rfl, Nat.le_of_ble_eq_true rfl⟩ hl.1 rfl (Nat.le_of_ble_eq_true rfl) dX10_hours_89 (Nat.zero_le _) (Nat.zero_le _) (fun H locs hR hS hE25 => ?_)
                    have ok_this := hE25 _ _ ok_this
                    have ok_q16 := hE25 _ _ ok_q16
                    have ok_q18 := hE25 _ _ ok_q18
                    have ok_q20 := hE25 _ _ ok_q20
                    have hE := hE.tr hE25
                    obtain ⟨x30, S27, hc28, hf⟩ := cl_of hf
                    refine cl_RX10_227 (As := [.ref q18, .int x26]) (rest := [.int x13]) hC hR hS (c_X9_blow l G n q16 q18 x26 S23 x30 S27 hc28 ok_q16 ok_q18) ok_q16 rfl ⟨Nat.le_of_ble_eq_true rfl, Nat.le_of_ble_eq_true rfl⟩ hl.1 rfl (Nat.le_of_ble_eq_true rfl) dX10_hours_92 (Nat.zero_le _) (Nat.zero_le _) (fun H locs hR hS hE29 => ?_)
                    have ok_this := hE29 _ _ ok_this
                    have ok_q16 := hE29 _ _ ok_q16
                    have ok_q18 := hE29 _ _ ok_q18
                    have ok_q20 := hE29 _ _ ok_q20
                    have hE := hE.tr hE29
                    refine lv_iadd hx hb dX10_hours_95 ?_
                    refine bdi hf (fun x31 hf => ?_)
                    refine lv_istore (lv' := [(5, .int x31), (0, .ref this), (2, .int a2), (3, .int x6), (4, .int x12), (6, .int x14)]) hx hb dX10_hours_96 hl (by decide) rfl (fun ls hl => ?_)
                    refine lv_iload hx hb dX10_hours_98 (lv_at hl 4 rfl) ?_
                    refine lv_sipush (v := 179) hx hb dX10_hours_100 (by decide) ?_
                    refine lv_imul hx hb dX10_hours_103 ?_
                    refine lv_bipush (v := 41) hx hb dX10_hours_104 (by decide) ?_
                    refine lv_iadd hx hb dX10_hours_106 ?_
                    refine lv_sipush (v := 30103) hx hb dX10_hours_107 (by decide) ?_
                    obtain ⟨hn32, hf⟩ := dv_of hf
                    refine lv_irem hx hb dX10_hours_110 hn32 ?_
                    refine bdi hf (fun x33 hf => ?_)
                    refine lv_istore (lv' := [(4, .int x33), (5, .int x31), (0, .ref this), (2, .int a2), (3, .int x6), (6, .int x14)]) hx hb dX10_hours_111 hl (by decide) rfl (fun ls hl => ?_)
                    refine r_iinc (n := 1) (z := 1) (lv' := fun x34 => [(6, .int x34), (4, .int x33), (5, .int x31), (0, .ref this), (2, .int a2), (3, .int x6)]) hx hb dX10_hours_113 hl (k := 5) rfl (by decide) (by decide) (fun _ => rfl) hf (fun x34 ls hf hl => ?_)
                    refine lv_goto (tgt := 65) hx hb dX10_hours_116 (by decide) ?_
                    exact hL65_10 x33 x31 x34 S27 _ _ _ hf hR hS hE ok_this (lv_sub hl [3, 4, 5, 1, 2, 0] rfl)
              exact hh35 n x9 (0 : Int32) (0 : Int32) S3 _ _ _ hf hR hS hE ok_this (lv_sub hl [4, 6, 3, 2, 1, 0] rfl)
            · replace hf := if_f hf hc
              refine lv_iconst (v := -1) hx hb dX10_hours_49 (by decide) ?_
              exact r_iret hC hR hS hE hf dX10_hours_50
abbrev rX10_image : Room := { frames := 2, cells := 0, slots := 0, locals := 141 }
def f_X10_image (n : Nat) (this : Nat) (S : MS) : Option (Int32 × MS) :=
  gR S (mR S this 2) 3 fun q1 => gR S (mR S this 1) 3 fun q3 => cv (f_X3_copyFrom n q1 q3 S) fun S5 => gR S5 (mR S5 this 4) 8 fun q8 => gR S5 (mR S5 this 3) 8 fun q10 => cv (f_X8_copyFrom n q8 q10 S5) fun S12 => gR S12 (mR S12 this 1) 3 fun q15 => some ((mI S12 q15 8), S12)
set_option maxRecDepth 100000 in
set_option maxHeartbeats 4000000 in
theorem c_X10_image (l : Launch) (G : Gx) (n : Nat) (this : Nat) (S : MS) (ro : Int32) (So : MS) (hf : f_X10_image n this S = some (ro, So)) (ok_this : Ok S this 10) : Cn G l yX10_image cX10_image 1 (some .int) rX10_image [.ref this] S (some (.int ro)) So := by
  refine Cn.of (by decide) (Nat.le_of_ble_eq_true rfl) ?_
  intro p e s m args below meth c hC hname hR ls hl
  have hC : Cx G RX10 cX10_image 1 (some .int) p s m args meth c := hC
  have hl : lv_has ls 1 [(0, .ref this)] := hl
  have hx := hC.x
  have hb := hC.b
  have hS : va_S (gA G) s.heap s.heap [] := va_S.rf
  have hE : Ex S S := Ex.rf S
  unfold f_X10_image at hf
  refine lv_aload_n hx hb dX10_image_0 rfl (lv_at hl 0 rfl) ?_
  obtain ⟨q1, hq2, ok_q1, hf⟩ := gR_of hf
  refine gf_RX10_82 hC hR ok_this hq2 dX10_image_1 ?_
  refine lv_aload_n hx hb dX10_image_4 rfl (lv_at hl 0 rfl) ?_
  obtain ⟨q3, hq4, ok_q3, hf⟩ := gR_of hf
  refine gf_RX10_78 hC hR ok_this hq4 dX10_image_5 ?_
  obtain ⟨S5, hc6, hf⟩ := cv_of hf
  refine cl_RX10_306 (As := [.ref q3]) (rest := []) hC hR hS (c_X3_copyFrom l G n q1 q3 S S5 hc6 ok_q1 ok_q3) ok_q1 rfl ⟨Nat.le_of_ble_eq_true rfl, Nat.le_of_ble_eq_true rfl⟩ hl.1 rfl (Nat.le_of_ble_eq_true rfl) dX10_image_8 (Nat.zero_le _) (Nat.zero_le _) (fun H locs hR hS hE7 => ?_)
  have ok_this := hE7 _ _ ok_this
  have ok_q1 := hE7 _ _ ok_q1
  have ok_q3 := hE7 _ _ ok_q3
  have hE := hE.tr hE7
  refine lv_aload_n hx hb dX10_image_11 rfl (lv_at hl 0 rfl) ?_
  obtain ⟨q8, hq9, ok_q8, hf⟩ := gR_of hf
  refine gf_RX10_16 hC hR ok_this hq9 dX10_image_12 ?_
  refine lv_aload_n hx hb dX10_image_15 rfl (lv_at hl 0 rfl) ?_
  obtain ⟨q10, hq11, ok_q10, hf⟩ := gR_of hf
  refine gf_RX10_10 hC hR ok_this hq11 dX10_image_16 ?_
  obtain ⟨S12, hc13, hf⟩ := cv_of hf
  refine cl_RX10_310 (As := [.ref q10]) (rest := []) hC hR hS (c_X8_copyFrom l G n q8 q10 S5 S12 hc13 ok_q8 ok_q10) ok_q8 rfl ⟨Nat.le_of_ble_eq_true rfl, Nat.le_of_ble_eq_true rfl⟩ hl.1 rfl (Nat.le_of_ble_eq_true rfl) dX10_image_19 (Nat.zero_le _) (Nat.zero_le _) (fun H locs hR hS hE14 => ?_)
  have ok_this := hE14 _ _ ok_this
  have ok_q1 := hE14 _ _ ok_q1
  have ok_q3 := hE14 _ _ ok_q3
  have ok_q8 := hE14 _ _ ok_q8
  have ok_q10 := hE14 _ _ ok_q10
  have hE := hE.tr hE14
  refine lv_aload_n hx hb dX10_image_22 rfl (lv_at hl 0 rfl) ?_
  obtain ⟨q15, hq16, ok_q15, hf⟩ := gR_of hf
  refine gf_RX10_78 hC hR ok_this hq16 dX10_image_23 ?_
  refine gf_RX10_224 hC hR ok_q15 dX10_image_26 ?_
  exact r_iret hC hR hS hE hf dX10_image_29
abbrev rX10_back : Room := { frames := 2, cells := 0, slots := 0, locals := 141 }
def f_X10_back (n : Nat) (this : Nat) (S : MS) : Option (Int32 × MS) :=
  gR S (mR S this 1) 3 fun q1 => gR S (mR S this 2) 3 fun q3 => cv (f_X3_copyFrom n q1 q3 S) fun S5 => gR S5 (mR S5 this 3) 8 fun q8 => gR S5 (mR S5 this 4) 8 fun q10 => cv (f_X8_copyFrom n q8 q10 S5) fun S12 => gR S12 (mR S12 this 1) 3 fun q15 => some ((mI S12 q15 8), S12)
set_option maxRecDepth 100000 in
set_option maxHeartbeats 4000000 in
theorem c_X10_back (l : Launch) (G : Gx) (n : Nat) (this : Nat) (S : MS) (ro : Int32) (So : MS) (hf : f_X10_back n this S = some (ro, So)) (ok_this : Ok S this 10) : Cn G l yX10_back cX10_back 1 (some .int) rX10_back [.ref this] S (some (.int ro)) So := by
  refine Cn.of (by decide) (Nat.le_of_ble_eq_true rfl) ?_
  intro p e s m args below meth c hC hname hR ls hl
  have hC : Cx G RX10 cX10_back 1 (some .int) p s m args meth c := hC
  have hl : lv_has ls 1 [(0, .ref this)] := hl
  have hx := hC.x
  have hb := hC.b
  have hS : va_S (gA G) s.heap s.heap [] := va_S.rf
  have hE : Ex S S := Ex.rf S
  unfold f_X10_back at hf
  refine lv_aload_n hx hb dX10_back_0 rfl (lv_at hl 0 rfl) ?_
  obtain ⟨q1, hq2, ok_q1, hf⟩ := gR_of hf
  refine gf_RX10_78 hC hR ok_this hq2 dX10_back_1 ?_
  refine lv_aload_n hx hb dX10_back_4 rfl (lv_at hl 0 rfl) ?_
  obtain ⟨q3, hq4, ok_q3, hf⟩ := gR_of hf
  refine gf_RX10_82 hC hR ok_this hq4 dX10_back_5 ?_
  obtain ⟨S5, hc6, hf⟩ := cv_of hf
  refine cl_RX10_306 (As := [.ref q3]) (rest := []) hC hR hS (c_X3_copyFrom l G n q1 q3 S S5 hc6 ok_q1 ok_q3) ok_q1 rfl ⟨Nat.le_of_ble_eq_true rfl, Nat.le_of_ble_eq_true rfl⟩ hl.1 rfl (Nat.le_of_ble_eq_true rfl) dX10_back_8 (Nat.zero_le _) (Nat.zero_le _) (fun H locs hR hS hE7 => ?_)
  have ok_this := hE7 _ _ ok_this
  have ok_q1 := hE7 _ _ ok_q1
  have ok_q3 := hE7 _ _ ok_q3
  have hE := hE.tr hE7
  refine lv_aload_n hx hb dX10_back_11 rfl (lv_at hl 0 rfl) ?_
  obtain ⟨q8, hq9, ok_q8, hf⟩ := gR_of hf
  refine gf_RX10_10 hC hR ok_this hq9 dX10_back_12 ?_
  refine lv_aload_n hx hb dX10_back_15 rfl (lv_at hl 0 rfl) ?_
  obtain ⟨q10, hq11, ok_q10, hf⟩ := gR_of hf
  refine gf_RX10_16 hC hR ok_this hq11 dX10_back_16 ?_
  obtain ⟨S12, hc13, hf⟩ := cv_of hf
  refine cl_RX10_310 (As := [.ref q10]) (rest := []) hC hR hS (c_X8_copyFrom l G n q8 q10 S5 S12 hc13 ok_q8 ok_q10) ok_q8 rfl ⟨Nat.le_of_ble_eq_true rfl, Nat.le_of_ble_eq_true rfl⟩ hl.1 rfl (Nat.le_of_ble_eq_true rfl) dX10_back_19 (Nat.zero_le _) (Nat.zero_le _) (fun H locs hR hS hE14 => ?_)
  have ok_this := hE14 _ _ ok_this
  have ok_q1 := hE14 _ _ ok_q1
  have ok_q3 := hE14 _ _ ok_q3
  have ok_q8 := hE14 _ _ ok_q8
  have ok_q10 := hE14 _ _ ok_q10
  have hE := hE.tr hE14
  refine lv_aload_n hx hb dX10_back_22 rfl (lv_at hl 0 rfl) ?_
  obtain ⟨q15, hq16, ok_q15, hf⟩ := gR_of hf
  refine gf_RX10_78 hC hR ok_this hq16 dX10_back_23 ?_
  refine gf_RX10_224 hC hR ok_q15 dX10_back_26 ?_
  exact r_iret hC hR hS hE hf dX10_back_29
abbrev rX10_about : Room := { frames := 3, cells := 0, slots := 0, locals := 77 }
def f_X10_about (n : Nat) (this : Nat) (a1 : Int32) (S : MS) : Option (Int32 × MS) :=
  jn (fun (S3 : MS) => jn (fun (S6 : MS) => (if a1 = (0 : Int32) then gR S6 (mR S6 this 0) 1 fun q7 => some ((mI S6 q7 0), S6) else (if a1 = (1 : Int32) then gR S6 (mR S6 this 0) 1 fun q9 => some ((mI S6 q9 1), S6) else (if a1 = (2 : Int32) then gR S6 (mR S6 this 1) 3 fun q11 => some ((mI S6 q11 8), S6) else (if a1 = (3 : Int32) then gR S6 (mR S6 this 1) 3 fun q13 => some ((mI S6 q13 7), S6) else (if a1 = (4 : Int32) then gR S6 (mR S6 this 3) 8 fun q15 => some ((mI S6 q15 6), S6) else (if a1 = (5 : Int32) then gR S6 (mR S6 this 3) 8 fun q17 => some ((mI S6 q17 7), S6) else (if a1 = (6 : Int32) then gR S6 (mR S6 this 3) 8 fun q19 => some ((mI S6 q19 8), S6) else (if a1 = (7 : Int32) then gR S6 (mR S6 this 1) 3 fun q21 => cl (f_X3_fields n q21 S6) fun x26 S23 => some (x26, S23) else (if a1 = (8 : Int32) then gR S6 (mR S6 this 5) 6 fun q27 => some ((mI S6 q27 1), S6) else (if a1 = (9 : Int32) then gR S6 (mR S6 this 1) 3 fun q29 => cl (f_X3_sown n q29 S6) fun x34 S31 => some (x34, S31) else some ((-2 : Int32), S6)))))))))))) fun j64_5 => (if a1 < (60 : Int32) then j64_5 S3 else (if (84 : Int32) ≤ a1 then j64_5 S3 else gR S3 (mR S3 this 1) 3 fun q35 => cl (f_X3_isBone n q35 (a1 - (60 : Int32)) S3) fun x40 S37 => (if x40 = 0 then j64_5 S37 else gR S37 (mR S37 this 3) 8 fun q41 => gR S37 (mR S37 q41 5) 12 fun q43 => ck (inb (a1 - (60 : Int32)) (mN S37 q43)) (some ((mI S37 q43 (a1 - (60 : Int32)).toNatClampNeg), S37)))))) fun j25_2 => (if a1 < (10 : Int32) then j25_2 S else (if (50 : Int32) ≤ a1 then j25_2 S else gR S (mR S this 3) 8 fun q47 => gR S (mR S q47 4) 12 fun q49 => ck (inb (a1 - (10 : Int32)) (mN S q49)) (some ((mI S q49 (a1 - (10 : Int32)).toNatClampNeg), S))))
set_option maxRecDepth 100000 in
set_option maxHeartbeats 4000000 in
theorem c_X10_about (l : Launch) (G : Gx) (n : Nat) (this : Nat) (a1 : Int32) (S : MS) (ro : Int32) (So : MS) (hf : f_X10_about n this a1 S = some (ro, So)) (ok_this : Ok S this 10) : Cn G l yX10_about cX10_about 2 (some .int) rX10_about [.ref this, .int a1] S (some (.int ro)) So := by
  refine Cn.of (by decide) (Nat.le_of_ble_eq_true rfl) ?_
  intro p e s m args below meth c hC hname hR ls hl
  have hC : Cx G RX10 cX10_about 2 (some .int) p s m args meth c := hC
  have hl : lv_has ls 2 [(0, .ref this), (1, .int a1)] := hl
  have hx := hC.x
  have hb := hC.b
  have hS : va_S (gA G) s.heap s.heap [] := va_S.rf
  have hE : Ex S S := Ex.rf S
  unfold f_X10_about at hf
  refine lv_iload_n hx hb dX10_about_0 rfl (lv_at hl 1 rfl) ?_
  refine lv_bipush (v := 10) hx hb dX10_about_1 (by decide) ?_
  obtain ⟨j25_2, ej25_2, hf⟩ := jn_of1 hf
  have hj25_1 : ∀ (S3 : MS) (H : Heap) (locs : List Loc) (ls : Array Slot), j25_2 S3 = some (ro, So) → Rp G S3 H → va_S (gA G) s.heap H locs → Ex S S3 → Ok S3 this 10 → lv_has ls 2 [(0, .ref this), (1, .int a1)] → W p l e rX10_about s m args below meth c H locs 0 0 (MQ below (Qn G S (some (.int ro)) So) args s 0 0 (gA G)) (F0 m 25 ls []) := by
    intro S3 H locs ls hf hR hS hE ok_this hl
    rw [ej25_2] at hf
    refine lv_iload_n hx hb dX10_about_25 rfl (lv_at hl 1 rfl) ?_
    refine lv_bipush (v := 60) hx hb dX10_about_26 (by decide) ?_
    obtain ⟨j64_5, ej64_5, hf⟩ := jn_of1 hf
    have hj64_4 : ∀ (S6 : MS) (H : Heap) (locs : List Loc) (ls : Array Slot), j64_5 S6 = some (ro, So) → Rp G S6 H → va_S (gA G) s.heap H locs → Ex S S6 → Ok S6 this 10 → lv_has ls 2 [(0, .ref this), (1, .int a1)] → W p l e rX10_about s m args below meth c H locs 0 0 (MQ below (Qn G S (some (.int ro)) So) args s 0 0 (gA G)) (F0 m 64 ls []) := by
      intro S6 H locs ls hf hR hS hE ok_this hl
      rw [ej64_5] at hf
      refine lv_iload_n hx hb dX10_about_64 rfl (lv_at hl 1 rfl) ?_
      by_cases hc0 : a1 = (0 : Int32)
      · replace hf := if_t hf hc0
        rw [hc0]
        refine lv_tableIn (tgt := 120) hx hb dX10_about_65 (by decide) (by decide) rfl (by decide) ?_
        refine lv_aload_n hx hb dX10_about_120 rfl (lv_at hl 0 rfl) ?_
        obtain ⟨q7, hq8, ok_q7, hf⟩ := gR_of hf
        refine gf_RX10_69 hC hR ok_this hq8 dX10_about_121 ?_
        refine gf_RX10_313 hC hR ok_q7 dX10_about_124 ?_
        exact r_iret hC hR hS hE hf dX10_about_127
      · replace hf := if_f hf hc0
        by_cases hc1 : a1 = (1 : Int32)
        · replace hf := if_t hf hc1
          rw [hc1]
          refine lv_tableIn (tgt := 128) hx hb dX10_about_65 (by decide) (by decide) rfl (by decide) ?_
          refine lv_aload_n hx hb dX10_about_128 rfl (lv_at hl 0 rfl) ?_
          obtain ⟨q9, hq10, ok_q9, hf⟩ := gR_of hf
          refine gf_RX10_69 hC hR ok_this hq10 dX10_about_129 ?_
          refine gf_RX10_316 hC hR ok_q9 dX10_about_132 ?_
          exact r_iret hC hR hS hE hf dX10_about_135
        · replace hf := if_f hf hc1
          by_cases hc2 : a1 = (2 : Int32)
          · replace hf := if_t hf hc2
            rw [hc2]
            refine lv_tableIn (tgt := 136) hx hb dX10_about_65 (by decide) (by decide) rfl (by decide) ?_
            refine lv_aload_n hx hb dX10_about_136 rfl (lv_at hl 0 rfl) ?_
            obtain ⟨q11, hq12, ok_q11, hf⟩ := gR_of hf
            refine gf_RX10_78 hC hR ok_this hq12 dX10_about_137 ?_
            refine gf_RX10_224 hC hR ok_q11 dX10_about_140 ?_
            exact r_iret hC hR hS hE hf dX10_about_143
          · replace hf := if_f hf hc2
            by_cases hc3 : a1 = (3 : Int32)
            · replace hf := if_t hf hc3
              rw [hc3]
              refine lv_tableIn (tgt := 144) hx hb dX10_about_65 (by decide) (by decide) rfl (by decide) ?_
              refine lv_aload_n hx hb dX10_about_144 rfl (lv_at hl 0 rfl) ?_
              obtain ⟨q13, hq14, ok_q13, hf⟩ := gR_of hf
              refine gf_RX10_78 hC hR ok_this hq14 dX10_about_145 ?_
              refine gf_RX10_319 hC hR ok_q13 dX10_about_148 ?_
              exact r_iret hC hR hS hE hf dX10_about_151
            · replace hf := if_f hf hc3
              by_cases hc4 : a1 = (4 : Int32)
              · replace hf := if_t hf hc4
                rw [hc4]
                refine lv_tableIn (tgt := 152) hx hb dX10_about_65 (by decide) (by decide) rfl (by decide) ?_
                refine lv_aload_n hx hb dX10_about_152 rfl (lv_at hl 0 rfl) ?_
                obtain ⟨q15, hq16, ok_q15, hf⟩ := gR_of hf
                refine gf_RX10_10 hC hR ok_this hq16 dX10_about_153 ?_
                refine gf_RX10_274 hC hR ok_q15 dX10_about_156 ?_
                exact r_iret hC hR hS hE hf dX10_about_159
              · replace hf := if_f hf hc4
                by_cases hc5 : a1 = (5 : Int32)
                · replace hf := if_t hf hc5
                  rw [hc5]
                  refine lv_tableIn (tgt := 160) hx hb dX10_about_65 (by decide) (by decide) rfl (by decide) ?_
                  refine lv_aload_n hx hb dX10_about_160 rfl (lv_at hl 0 rfl) ?_
                  obtain ⟨q17, hq18, ok_q17, hf⟩ := gR_of hf
                  refine gf_RX10_10 hC hR ok_this hq18 dX10_about_161 ?_
                  refine gf_RX10_130 hC hR ok_q17 dX10_about_164 ?_
                  exact r_iret hC hR hS hE hf dX10_about_167
                · replace hf := if_f hf hc5
                  by_cases hc6 : a1 = (6 : Int32)
                  · replace hf := if_t hf hc6
                    rw [hc6]
                    refine lv_tableIn (tgt := 168) hx hb dX10_about_65 (by decide) (by decide) rfl (by decide) ?_
                    refine lv_aload_n hx hb dX10_about_168 rfl (lv_at hl 0 rfl) ?_
                    obtain ⟨q19, hq20, ok_q19, hf⟩ := gR_of hf
                    refine gf_RX10_10 hC hR ok_this hq20 dX10_about_169 ?_
                    refine gf_RX10_153 hC hR ok_q19 dX10_about_172 ?_
                    exact r_iret hC hR hS hE hf dX10_about_175
                  · replace hf := if_f hf hc6
                    by_cases hc7 : a1 = (7 : Int32)
                    · replace hf := if_t hf hc7
                      rw [hc7]
                      refine lv_tableIn (tgt := 176) hx hb dX10_about_65 (by decide) (by decide) rfl (by decide) ?_
                      refine lv_aload_n hx hb dX10_about_176 rfl (lv_at hl 0 rfl) ?_
                      obtain ⟨q21, hq22, ok_q21, hf⟩ := gR_of hf
                      refine gf_RX10_78 hC hR ok_this hq22 dX10_about_177 ?_
                      obtain ⟨x26, S23, hc24, hf⟩ := cl_of hf
                      refine cl_RX10_322 (As := []) (rest := []) hC hR hS (c_X3_fields l G n q21 S6 x26 S23 hc24 ok_q21) ok_q21 rfl ⟨Nat.le_of_ble_eq_true rfl, Nat.le_of_ble_eq_true rfl⟩ hl.1 rfl (Nat.le_of_ble_eq_true rfl) dX10_about_180 (Nat.zero_le _) (Nat.zero_le _) (fun H locs hR hS hE25 => ?_)
                      have ok_this := hE25 _ _ ok_this
                      have ok_q21 := hE25 _ _ ok_q21
                      have hE := hE.tr hE25
                      exact r_iret hC hR hS hE hf dX10_about_183
                    · replace hf := if_f hf hc7
                      by_cases hc8 : a1 = (8 : Int32)
                      · replace hf := if_t hf hc8
                        rw [hc8]
                        refine lv_tableIn (tgt := 184) hx hb dX10_about_65 (by decide) (by decide) rfl (by decide) ?_
                        refine lv_aload_n hx hb dX10_about_184 rfl (lv_at hl 0 rfl) ?_
                        obtain ⟨q27, hq28, ok_q27, hf⟩ := gR_of hf
                        refine gf_RX10_22 hC hR ok_this hq28 dX10_about_185 ?_
                        refine gf_RX10_122 hC hR ok_q27 dX10_about_188 ?_
                        exact r_iret hC hR hS hE hf dX10_about_191
                      · replace hf := if_f hf hc8
                        by_cases hc9 : a1 = (9 : Int32)
                        · replace hf := if_t hf hc9
                          rw [hc9]
                          refine lv_tableIn (tgt := 192) hx hb dX10_about_65 (by decide) (by decide) rfl (by decide) ?_
                          refine lv_aload_n hx hb dX10_about_192 rfl (lv_at hl 0 rfl) ?_
                          obtain ⟨q29, hq30, ok_q29, hf⟩ := gR_of hf
                          refine gf_RX10_78 hC hR ok_this hq30 dX10_about_193 ?_
                          obtain ⟨x34, S31, hc32, hf⟩ := cl_of hf
                          refine cl_RX10_325 (As := []) (rest := []) hC hR hS (c_X3_sown l G n q29 S6 x34 S31 hc32 ok_q29) ok_q29 rfl ⟨Nat.le_of_ble_eq_true rfl, Nat.le_of_ble_eq_true rfl⟩ hl.1 rfl (Nat.le_of_ble_eq_true rfl) dX10_about_196 (Nat.zero_le _) (Nat.zero_le _) (fun H locs hR hS hE33 => ?_)
                          have ok_this := hE33 _ _ ok_this
                          have ok_q29 := hE33 _ _ ok_q29
                          have hE := hE.tr hE33
                          exact r_iret hC hR hS hE hf dX10_about_199
                        · replace hf := if_f hf hc9
                          refine lv_tableOut (tgt := 200) hx hb dX10_about_65 (by have := ne_toInt hc0 (z := 0) (by decide); have := ne_toInt hc1 (z := 1) (by decide); have := ne_toInt hc2 (z := 2) (by decide); have := ne_toInt hc3 (z := 3) (by decide); have := ne_toInt hc4 (z := 4) (by decide); have := ne_toInt hc5 (z := 5) (by decide); have := ne_toInt hc6 (z := 6) (by decide); have := ne_toInt hc7 (z := 7) (by decide); have := ne_toInt hc8 (z := 8) (by decide); have := ne_toInt hc9 (z := 9) (by decide); omega) (by decide) ?_
                          refine lv_bipush (v := -2) hx hb dX10_about_200 (by decide) ?_
                          exact r_iret hC hR hS hE hf dX10_about_202
    refine lv_icmp_lt (tgt := 64) hx hb dX10_about_28 (by decide) (fun hc => ?_) (fun hc => ?_)
    · replace hf := if_t hf hc
      exact hj64_4 S3 _ _ _ hf hR hS hE ok_this (lv_sub hl [0, 1] rfl)
    · replace hf := if_f hf hc
      refine lv_iload_n hx hb dX10_about_31 rfl (lv_at hl 1 rfl) ?_
      refine lv_bipush (v := 84) hx hb dX10_about_32 (by decide) ?_
      refine lv_icmp_ge (tgt := 64) hx hb dX10_about_34 (by decide) (fun hc => ?_) (fun hc => ?_)
      · replace hf := if_t hf hc
        exact hj64_4 S3 _ _ _ hf hR hS hE ok_this (lv_sub hl [0, 1] rfl)
      · replace hf := if_f hf hc
        refine lv_aload_n hx hb dX10_about_37 rfl (lv_at hl 0 rfl) ?_
        obtain ⟨q35, hq36, ok_q35, hf⟩ := gR_of hf
        refine gf_RX10_78 hC hR ok_this hq36 dX10_about_38 ?_
        refine lv_iload_n hx hb dX10_about_41 rfl (lv_at hl 1 rfl) ?_
        refine lv_bipush (v := 60) hx hb dX10_about_42 (by decide) ?_
        refine lv_isub hx hb dX10_about_44 ?_
        obtain ⟨x40, S37, hc38, hf⟩ := cl_of hf
        refine cl_RX10_163 (As := [.int (a1 - (60 : Int32))]) (rest := []) hC hR hS (c_X3_isBone l G n q35 (a1 - (60 : Int32)) S3 x40 S37 hc38 ok_q35) ok_q35 rfl ⟨Nat.le_of_ble_eq_true rfl, Nat.le_of_ble_eq_true rfl⟩ hl.1 rfl (Nat.le_of_ble_eq_true rfl) dX10_about_45 (Nat.zero_le _) (Nat.zero_le _) (fun H locs hR hS hE39 => ?_)
        have ok_this := hE39 _ _ ok_this
        have ok_q35 := hE39 _ _ ok_q35
        have hE := hE.tr hE39
        refine lv_if_eq (tgt := 64) hx hb dX10_about_48 (by decide) (fun hc => ?_) (fun hc => ?_)
        · replace hf := if_t hf hc
          exact hj64_4 S37 _ _ _ hf hR hS hE ok_this (lv_sub hl [0, 1] rfl)
        · replace hf := if_f hf hc
          refine lv_aload_n hx hb dX10_about_51 rfl (lv_at hl 0 rfl) ?_
          obtain ⟨q41, hq42, ok_q41, hf⟩ := gR_of hf
          refine gf_RX10_10 hC hR ok_this hq42 dX10_about_52 ?_
          obtain ⟨q43, hq44, ok_q43, hf⟩ := gR_of hf
          refine gf_RX10_294 hC hR ok_q41 hq44 dX10_about_55 ?_
          refine lv_iload_n hx hb dX10_about_58 rfl (lv_at hl 1 rfl) ?_
          refine lv_bipush (v := 60) hx hb dX10_about_59 (by decide) ?_
          refine lv_isub hx hb dX10_about_61 ?_
          obtain ⟨hi45, hf⟩ := ck_of hf
          refine r_iald hC hR ok_q43 hi45 dX10_about_62 ?_
          exact r_iret hC hR hS hE hf dX10_about_63
  refine lv_icmp_lt (tgt := 25) hx hb dX10_about_3 (by decide) (fun hc => ?_) (fun hc => ?_)
  · replace hf := if_t hf hc
    exact hj25_1 S _ _ _ hf hR hS hE ok_this (lv_sub hl [0, 1] rfl)
  · replace hf := if_f hf hc
    refine lv_iload_n hx hb dX10_about_6 rfl (lv_at hl 1 rfl) ?_
    refine lv_bipush (v := 50) hx hb dX10_about_7 (by decide) ?_
    refine lv_icmp_ge (tgt := 25) hx hb dX10_about_9 (by decide) (fun hc => ?_) (fun hc => ?_)
    · replace hf := if_t hf hc
      exact hj25_1 S _ _ _ hf hR hS hE ok_this (lv_sub hl [0, 1] rfl)
    · replace hf := if_f hf hc
      refine lv_aload_n hx hb dX10_about_12 rfl (lv_at hl 0 rfl) ?_
      obtain ⟨q47, hq48, ok_q47, hf⟩ := gR_of hf
      refine gf_RX10_10 hC hR ok_this hq48 dX10_about_13 ?_
      obtain ⟨q49, hq50, ok_q49, hf⟩ := gR_of hf
      refine gf_RX10_118 hC hR ok_q47 hq50 dX10_about_16 ?_
      refine lv_iload_n hx hb dX10_about_19 rfl (lv_at hl 1 rfl) ?_
      refine lv_bipush (v := 10) hx hb dX10_about_20 (by decide) ?_
      refine lv_isub hx hb dX10_about_22 ?_
      obtain ⟨hi51, hf⟩ := ck_of hf
      refine r_iald hC hR ok_q49 hi51 dX10_about_23 ?_
      exact r_iret hC hR hS hE hf dX10_about_24
