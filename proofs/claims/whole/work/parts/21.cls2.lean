abbrev rX5_stepsBy : Room := { frames := 3, cells := 0, slots := 0, locals := 79 }
def f_X5_stepsBy (n : Nat) (this : Nat) (a1 : Nat) (a2 : Int32) (a3 : Int32) (a4 : Option Nat) (S : MS) : Option (Int32 × MS) :=
  jn (fun (x3 : Int32) (S4 : MS) => jn (fun (x7 : Int32) (S8 : MS) => jn (fun (S11 : MS) => jn (fun (x14 : Int32) (x15 : Int32) (S16 : MS) => bd (x14 - x15) fun x17 => (if 0 < x17 then (if x7 = 0 then dv (20 : Int32) (some ((imin (9 : Int32) ((1 : Int32) + (x17 / (20 : Int32)))), S16)) else gR S16 (mR S16 this 0) 12 fun q18 => ck (inb (6 : Int32) (mN S16 q18)) (bd (sI S16 q18 (6 : Int32).toNatClampNeg a3) fun S21 => gR S21 (mR S21 this 0) 12 fun q23 => ck (inb (7 : Int32) (mN S21 q23)) (bd (sI S21 q23 (7 : Int32).toNatClampNeg x17) fun S26 => nn a4 fun q28 => cl (f_X5_value n this a4 (mI S26 q28 8) S26) fun x33 S30 => some ((imax (0 : Int32) (imin (9 : Int32) x33)), S30)))) else some ((0 : Int32), S16))) fun j84_13 => (if x3 = 0 then gR S11 (mR S11 a1 2) 12 fun q35 => ck (inb a2 (mN S11 q35)) (j84_13 a3 (mI S11 q35 a2.toNatClampNeg) S11) else nn a4 fun q38 => cl (f_X5_value n this a4 (mI S11 q38 7) S11) fun x43 S40 => j84_13 a3 x43 S40)) fun j58_10 => jn (fun (S49 : MS) => cv (f_X5_nameBone n this a1 a2 S49) fun S50 => j58_10 S50) fun j52_48 => (if x3 = 0 then (if x7 = 0 then j58_10 S8 else j52_48 S8) else j52_48 S8)) fun j40_6 => jn (fun (S57 : MS) => j40_6 (0 : Int32) S57) fun j39_56 => (if a4 = none then j39_56 S4 else nn a4 fun q58 => (if (mI S4 q58 8) = (-1 : Int32) then j39_56 S4 else j40_6 (1 : Int32) S4))) fun j19_2 => jn (fun (S65 : MS) => j19_2 (0 : Int32) S65) fun j18_64 => (if a4 = none then j18_64 S else nn a4 fun q66 => (if (mI S q66 7) = (-1 : Int32) then j18_64 S else j19_2 (1 : Int32) S))
set_option maxRecDepth 100000 in
set_option maxHeartbeats 4000000 in
theorem c_X5_stepsBy (l : Launch) (G : Gx) (n : Nat) (this : Nat) (a1 : Nat) (a2 : Int32) (a3 : Int32) (a4 : Option Nat) (S : MS) (ro : Int32) (So : MS) (hf : f_X5_stepsBy n this a1 a2 a3 a4 S = some (ro, So)) (ok_this : Ok S this 5) (ok_a1 : Ok S a1 3) (ok_a4 : ∀ q, a4 = some q → Ok S q 7) : Cn G l yX5_stepsBy cX5_stepsBy 8 (some .int) rX5_stepsBy [.ref this, .ref a1, .int a2, .int a3, va_rf a4] S (some (.int ro)) So := by
  refine Cn.of (by decide) (by cases a4 <;> exact Nat.le_of_ble_eq_true rfl) ?_
  intro p e s m args below meth c hC hname hR ls hl
  have hC : Cx G RX5 cX5_stepsBy 8 (some .int) p s m args meth c := hC
  have hl : lv_has ls 8 [(0, .ref this), (1, .ref a1), (2, .int a2), (3, .int a3), (4, va_rf a4)] := by cases a4 <;> exact hl
  have hx := hC.x
  have hb := hC.b
  have hS : va_S (gA G) s.heap s.heap [] := va_S.rf
  have hE : Ex S S := Ex.rf S
  unfold f_X5_stepsBy at hf
  refine r_aloadO hx hb dX5_stepsBy_0 (lv_at hl 4 rfl) ?_
  obtain ⟨j19_2, ej19_2, hf⟩ := jn_of2 hf
  have hj19_1 : ∀ (x3 : Int32) (S4 : MS) (H : Heap) (locs : List Loc) (ls : Array Slot), j19_2 x3 S4 = some (ro, So) → Rp G S4 H → va_S (gA G) s.heap H locs → Ex S S4 → Ok S4 this 5 → Ok S4 a1 3 → (∀ q, a4 = some q → Ok S4 q 7) → lv_has ls 8 [(0, .ref this), (1, .ref a1), (2, .int a2), (3, .int a3), (4, va_rf a4)] → W p l e rX5_stepsBy s m args below meth c H locs 0 0 (MQ below (Qn G S (some (.int ro)) So) args s 0 0 (gA G)) (F0 m 19 ls [.int x3]) := by
    intro x3 S4 H locs ls hf hR hS hE ok_this ok_a1 ok_a4 hl
    rw [ej19_2] at hf
    refine lv_istore (lv' := [(5, .int x3), (0, .ref this), (1, .ref a1), (2, .int a2), (3, .int a3), (4, va_rf a4)]) hx hb dX5_stepsBy_19 hl (by decide) (by cases a4 <;> rfl) (fun ls hl => ?_)
    refine r_aloadO hx hb dX5_stepsBy_21 (lv_at hl 5 rfl) ?_
    obtain ⟨j40_6, ej40_6, hf⟩ := jn_of2 hf
    have hj40_5 : ∀ (x7 : Int32) (S8 : MS) (H : Heap) (locs : List Loc) (ls : Array Slot), j40_6 x7 S8 = some (ro, So) → Rp G S8 H → va_S (gA G) s.heap H locs → Ex S S8 → Ok S8 this 5 → Ok S8 a1 3 → (∀ q, a4 = some q → Ok S8 q 7) → lv_has ls 8 [(0, .ref this), (1, .ref a1), (2, .int a2), (3, .int a3), (4, va_rf a4), (5, .int x3)] → W p l e rX5_stepsBy s m args below meth c H locs 0 0 (MQ below (Qn G S (some (.int ro)) So) args s 0 0 (gA G)) (F0 m 40 ls [.int x7]) := by
      intro x7 S8 H locs ls hf hR hS hE ok_this ok_a1 ok_a4 hl
      rw [ej40_6] at hf
      refine lv_istore (lv' := [(6, .int x7), (0, .ref this), (1, .ref a1), (2, .int a2), (3, .int a3), (4, va_rf a4), (5, .int x3)]) hx hb dX5_stepsBy_40 hl (by decide) rfl (fun ls hl => ?_)
      refine lv_iload hx hb dX5_stepsBy_42 (lv_at hl 6 rfl) ?_
      obtain ⟨j58_10, ej58_10, hf⟩ := jn_of1 hf
      have hj58_9 : ∀ (S11 : MS) (H : Heap) (locs : List Loc) (ls : Array Slot), j58_10 S11 = some (ro, So) → Rp G S11 H → va_S (gA G) s.heap H locs → Ex S S11 → Ok S11 this 5 → Ok S11 a1 3 → (∀ q, a4 = some q → Ok S11 q 7) → lv_has ls 8 [(0, .ref this), (1, .ref a1), (2, .int a2), (3, .int a3), (4, va_rf a4), (5, .int x3), (6, .int x7)] → W p l e rX5_stepsBy s m args below meth c H locs 0 0 (MQ below (Qn G S (some (.int ro)) So) args s 0 0 (gA G)) (F0 m 58 ls []) := by
        intro S11 H locs ls hf hR hS hE ok_this ok_a1 ok_a4 hl
        rw [ej58_10] at hf
        refine lv_iload_n hx hb dX5_stepsBy_58 rfl (lv_at hl 3 rfl) ?_
        refine lv_iload hx hb dX5_stepsBy_59 (lv_at hl 5 rfl) ?_
        obtain ⟨j84_13, ej84_13, hf⟩ := jn_of3 hf
        have hj84_12 : ∀ (x14 : Int32) (x15 : Int32) (S16 : MS) (H : Heap) (locs : List Loc) (ls : Array Slot), j84_13 x14 x15 S16 = some (ro, So) → Rp G S16 H → va_S (gA G) s.heap H locs → Ex S S16 → Ok S16 this 5 → (∀ q, a4 = some q → Ok S16 q 7) → lv_has ls 8 [(0, .ref this), (3, .int a3), (4, va_rf a4), (6, .int x7)] → W p l e rX5_stepsBy s m args below meth c H locs 0 0 (MQ below (Qn G S (some (.int ro)) So) args s 0 0 (gA G)) (F0 m 84 ls [.int x15, .int x14]) := by
          intro x14 x15 S16 H locs ls hf hR hS hE ok_this ok_a4 hl
          rw [ej84_13] at hf
          refine lv_isub hx hb dX5_stepsBy_84 ?_
          refine bdi hf (fun x17 hf => ?_)
          refine lv_istore (lv' := [(7, .int x17), (0, .ref this), (3, .int a3), (4, va_rf a4), (6, .int x7)]) hx hb dX5_stepsBy_85 hl (by decide) rfl (fun ls hl => ?_)
          refine lv_iload hx hb dX5_stepsBy_87 (lv_at hl 0 rfl) ?_
          refine lv_if_gt (tgt := 94) hx hb dX5_stepsBy_89 (by decide) (fun hc => ?_) (fun hc => ?_)
          · replace hf := if_t hf hc
            refine lv_iload hx hb dX5_stepsBy_94 (lv_at hl 4 rfl) ?_
            refine lv_if_ne (tgt := 112) hx hb dX5_stepsBy_96 (by decide) (fun hc => ?_) (fun hc => ?_)
            · replace hf := if_f hf hc
              refine lv_aload_n hx hb dX5_stepsBy_112 rfl (lv_at hl 1 rfl) ?_
              obtain ⟨q18, hq19, ok_q18, hf⟩ := gR_of hf
              refine gf_RX5_9 hC hR ok_this hq19 dX5_stepsBy_113 ?_
              refine lv_bipush (v := 6) hx hb dX5_stepsBy_116 (by decide) ?_
              refine lv_iload_n hx hb dX5_stepsBy_118 rfl (lv_at hl 2 rfl) ?_
              obtain ⟨hi20, hf⟩ := ck_of hf
              refine rB_iast hC hR hS ok_q18 hi20 dX5_stepsBy_119 hf (fun S21 H locs hf hR hS hE22 => ?_)
              have ok_this := hE22 _ _ ok_this
              have ok_a4 := fun q h => hE22 _ _ (ok_a4 q h)
              have ok_q18 := hE22 _ _ ok_q18
              have hE := hE.tr hE22
              refine lv_aload_n hx hb dX5_stepsBy_120 rfl (lv_at hl 1 rfl) ?_
              obtain ⟨q23, hq24, ok_q23, hf⟩ := gR_of hf
              refine gf_RX5_9 hC hR ok_this hq24 dX5_stepsBy_121 ?_
              refine lv_bipush (v := 7) hx hb dX5_stepsBy_124 (by decide) ?_
              refine lv_iload hx hb dX5_stepsBy_126 (lv_at hl 0 rfl) ?_
              obtain ⟨hi25, hf⟩ := ck_of hf
              refine rB_iast hC hR hS ok_q23 hi25 dX5_stepsBy_128 hf (fun S26 H locs hf hR hS hE27 => ?_)
              have ok_this := hE27 _ _ ok_this
              have ok_a4 := fun q h => hE27 _ _ (ok_a4 q h)
              have ok_q18 := hE27 _ _ ok_q18
              have ok_q23 := hE27 _ _ ok_q23
              have hE := hE.tr hE27
              refine lv_iconst (v := 0) hx hb dX5_stepsBy_129 (by decide) ?_
              refine lv_bipush (v := 9) hx hb dX5_stepsBy_130 (by decide) ?_
              refine lv_aload_n hx hb dX5_stepsBy_132 rfl (lv_at hl 1 rfl) ?_
              refine r_aloadO hx hb dX5_stepsBy_133 (lv_at hl 3 rfl) ?_
              refine r_aloadO hx hb dX5_stepsBy_135 (lv_at hl 3 rfl) ?_
              obtain ⟨q28, hq29, hf⟩ := nn_of hf
              have ok_q28 := ok_a4 q28 hq29
              refine W.eq (g2 := F0 m 137 ls [.ref q28, va_rf a4, .ref this, .int (9 : Int32), .int (0 : Int32)]) (by rw [hq29]; rfl) ?_
              refine gf_RX5_37 hC hR ok_q28 dX5_stepsBy_137 ?_
              obtain ⟨x33, S30, hc31, hf⟩ := cl_of hf
              refine cl_RX5_33 (As := [va_rf a4, .int (mI S26 q28 8)]) (rest := [.int (9 : Int32), .int (0 : Int32)]) hC hR hS (c_X5_value l G n this a4 (mI S26 q28 8) S26 x33 S30 hc31 ok_this ok_a4) ok_this rfl ⟨Nat.le_of_ble_eq_true rfl, Nat.le_of_ble_eq_true rfl⟩ hl.1 rfl (Nat.le_of_ble_eq_true rfl) dX5_stepsBy_140 (Nat.zero_le _) (Nat.zero_le _) (fun H locs hR hS hE32 => ?_)
              have ok_this := hE32 _ _ ok_this
              have ok_a4 := fun q h => hE32 _ _ (ok_a4 q h)
              have ok_q18 := hE32 _ _ ok_q18
              have ok_q23 := hE32 _ _ ok_q23
              have ok_q28 := hE32 _ _ ok_q28
              have hE := hE.tr hE32
              refine r_imin (v := (imin (9 : Int32) x33)) hC hl.1 (bg31 _ (List.mem_of_getElem? (i := 18) rfl)) rfl (Nat.le_of_ble_eq_true rfl) (Nat.le_of_ble_eq_true rfl) (Nat.zero_le _) (Nat.zero_le _) dX5_stepsBy_143 ?_
              refine r_imax (v := (imax (0 : Int32) (imin (9 : Int32) x33))) hC hl.1 (bg32 _ (List.mem_of_getElem? (i := 17) rfl)) rfl (Nat.le_of_ble_eq_true rfl) (Nat.le_of_ble_eq_true rfl) (Nat.zero_le _) (Nat.zero_le _) dX5_stepsBy_146 ?_
              exact r_iret hC hR hS hE hf dX5_stepsBy_149
            · replace hf := if_t hf hc
              refine lv_bipush (v := 9) hx hb dX5_stepsBy_99 (by decide) ?_
              refine lv_iconst (v := 1) hx hb dX5_stepsBy_101 (by decide) ?_
              refine lv_iload hx hb dX5_stepsBy_102 (lv_at hl 0 rfl) ?_
              refine lv_bipush (v := 20) hx hb dX5_stepsBy_104 (by decide) ?_
              obtain ⟨hn34, hf⟩ := dv_of hf
              refine lv_idiv hx hb dX5_stepsBy_106 hn34 ?_
              refine lv_iadd hx hb dX5_stepsBy_107 ?_
              refine r_imin (v := (imin (9 : Int32) ((1 : Int32) + (x17 / (20 : Int32))))) hC hl.1 (bg31 _ (List.mem_of_getElem? (i := 18) rfl)) rfl (Nat.le_of_ble_eq_true rfl) (Nat.le_of_ble_eq_true rfl) (Nat.zero_le _) (Nat.zero_le _) dX5_stepsBy_108 ?_
              exact r_iret hC hR hS hE hf dX5_stepsBy_111
          · replace hf := if_f hf hc
            refine lv_iconst (v := 0) hx hb dX5_stepsBy_92 (by decide) ?_
            exact r_iret hC hR hS hE hf dX5_stepsBy_93
        refine lv_if_eq (tgt := 78) hx hb dX5_stepsBy_61 (by decide) (fun hc => ?_) (fun hc => ?_)
        · replace hf := if_t hf hc
          refine lv_aload_n hx hb dX5_stepsBy_78 rfl (lv_at hl 1 rfl) ?_
          obtain ⟨q35, hq36, ok_q35, hf⟩ := gR_of hf
          refine gf_RX5_24 hC hR ok_a1 hq36 dX5_stepsBy_79 ?_
          refine lv_iload_n hx hb dX5_stepsBy_82 rfl (lv_at hl 2 rfl) ?_
          obtain ⟨hi37, hf⟩ := ck_of hf
          refine r_iald hC hR ok_q35 hi37 dX5_stepsBy_83 ?_
          exact hj84_12 a3 (mI S11 q35 a2.toNatClampNeg) S11 _ _ _ hf hR hS hE ok_this ok_a4 (lv_sub hl [0, 3, 4, 6] rfl)
        · replace hf := if_f hf hc
          refine lv_aload_n hx hb dX5_stepsBy_64 rfl (lv_at hl 0 rfl) ?_
          refine r_aloadO hx hb dX5_stepsBy_65 (lv_at hl 4 rfl) ?_
          refine r_aloadO hx hb dX5_stepsBy_67 (lv_at hl 4 rfl) ?_
          obtain ⟨q38, hq39, hf⟩ := nn_of hf
          have ok_q38 := ok_a4 q38 hq39
          refine W.eq (g2 := F0 m 69 ls [.ref q38, va_rf a4, .ref this, .int a3]) (by rw [hq39]; rfl) ?_
          refine gf_RX5_18 hC hR ok_q38 dX5_stepsBy_69 ?_
          obtain ⟨x43, S40, hc41, hf⟩ := cl_of hf
          refine cl_RX5_33 (As := [va_rf a4, .int (mI S11 q38 7)]) (rest := [.int a3]) hC hR hS (c_X5_value l G n this a4 (mI S11 q38 7) S11 x43 S40 hc41 ok_this ok_a4) ok_this rfl ⟨Nat.le_of_ble_eq_true rfl, Nat.le_of_ble_eq_true rfl⟩ hl.1 rfl (Nat.le_of_ble_eq_true rfl) dX5_stepsBy_72 (Nat.zero_le _) (Nat.zero_le _) (fun H locs hR hS hE42 => ?_)
          have ok_this := hE42 _ _ ok_this
          have ok_a1 := hE42 _ _ ok_a1
          have ok_a4 := fun q h => hE42 _ _ (ok_a4 q h)
          have ok_q38 := hE42 _ _ ok_q38
          have hE := hE.tr hE42
          refine lv_goto (tgt := 84) hx hb dX5_stepsBy_75 (by decide) ?_
          exact hj84_12 a3 x43 S40 _ _ _ hf hR hS hE ok_this ok_a4 (lv_sub hl [0, 3, 4, 6] rfl)
      obtain ⟨j52_48, ej52_48, hf⟩ := jn_of1 hf
      have hj52_47 : ∀ (S49 : MS) (H : Heap) (locs : List Loc) (ls : Array Slot), j52_48 S49 = some (ro, So) → Rp G S49 H → va_S (gA G) s.heap H locs → Ex S S49 → Ok S49 this 5 → Ok S49 a1 3 → (∀ q, a4 = some q → Ok S49 q 7) → lv_has ls 8 [(0, .ref this), (1, .ref a1), (2, .int a2), (3, .int a3), (4, va_rf a4), (5, .int x3), (6, .int x7)] → W p l e rX5_stepsBy s m args below meth c H locs 0 0 (MQ below (Qn G S (some (.int ro)) So) args s 0 0 (gA G)) (F0 m 52 ls []) := by
        intro S49 H locs ls hf hR hS hE ok_this ok_a1 ok_a4 hl
        rw [ej52_48] at hf
        refine lv_aload_n hx hb dX5_stepsBy_52 rfl (lv_at hl 0 rfl) ?_
        refine lv_aload_n hx hb dX5_stepsBy_53 rfl (lv_at hl 1 rfl) ?_
        refine lv_iload_n hx hb dX5_stepsBy_54 rfl (lv_at hl 2 rfl) ?_
        obtain ⟨S50, hc51, hf⟩ := cv_of hf
        refine cl_RX5_29 (As := [.ref a1, .int a2]) (rest := []) hC hR hS (c_X5_nameBone l G n this a1 a2 S49 S50 hc51 ok_this ok_a1) ok_this rfl ⟨Nat.le_of_ble_eq_true rfl, Nat.le_of_ble_eq_true rfl⟩ hl.1 rfl (Nat.le_of_ble_eq_true rfl) dX5_stepsBy_55 (Nat.zero_le _) (Nat.zero_le _) (fun H locs hR hS hE52 => ?_)
        have ok_this := hE52 _ _ ok_this
        have ok_a1 := hE52 _ _ ok_a1
        have ok_a4 := fun q h => hE52 _ _ (ok_a4 q h)
        have hE := hE.tr hE52
        exact hj58_9 S50 _ _ _ hf hR hS hE ok_this ok_a1 ok_a4 (lv_sub hl [0, 1, 2, 3, 4, 5, 6] rfl)
      refine lv_if_ne (tgt := 52) hx hb dX5_stepsBy_44 (by decide) (fun hc => ?_) (fun hc => ?_)
      · replace hf := if_f hf hc
        exact hj52_47 S8 _ _ _ hf hR hS hE ok_this ok_a1 ok_a4 (lv_sub hl [1, 2, 3, 4, 5, 6, 0] rfl)
      · replace hf := if_t hf hc
        refine lv_iload hx hb dX5_stepsBy_47 (lv_at hl 0 rfl) ?_
        refine lv_if_eq (tgt := 58) hx hb dX5_stepsBy_49 (by decide) (fun hc => ?_) (fun hc => ?_)
        · replace hf := if_t hf hc
          exact hj58_9 S8 _ _ _ hf hR hS hE ok_this ok_a1 ok_a4 (lv_sub hl [1, 2, 3, 4, 5, 6, 0] rfl)
        · replace hf := if_f hf hc
          exact hj52_47 S8 _ _ _ hf hR hS hE ok_this ok_a1 ok_a4 (lv_sub hl [1, 2, 3, 4, 5, 6, 0] rfl)
    obtain ⟨j39_56, ej39_56, hf⟩ := jn_of1 hf
    have hj39_55 : ∀ (S57 : MS) (H : Heap) (locs : List Loc) (ls : Array Slot), j39_56 S57 = some (ro, So) → Rp G S57 H → va_S (gA G) s.heap H locs → Ex S S57 → Ok S57 this 5 → Ok S57 a1 3 → (∀ q, a4 = some q → Ok S57 q 7) → lv_has ls 8 [(0, .ref this), (1, .ref a1), (2, .int a2), (3, .int a3), (4, va_rf a4), (5, .int x3)] → W p l e rX5_stepsBy s m args below meth c H locs 0 0 (MQ below (Qn G S (some (.int ro)) So) args s 0 0 (gA G)) (F0 m 39 ls []) := by
      intro S57 H locs ls hf hR hS hE ok_this ok_a1 ok_a4 hl
      rw [ej39_56] at hf
      refine lv_iconst (v := 0) hx hb dX5_stepsBy_39 (by decide) ?_
      exact hj40_5 (0 : Int32) S57 _ _ _ hf hR hS hE ok_this ok_a1 ok_a4 (lv_sub hl [0, 1, 2, 3, 4, 5] rfl)
    refine r_ifnullO (tgt := 39) hx hb dX5_stepsBy_23 (by decide) (fun hc => ?_) (fun hc => ?_)
    · replace hf := if_t hf hc
      exact hj39_55 S4 _ _ _ hf hR hS hE ok_this ok_a1 ok_a4 (lv_sub hl [1, 2, 3, 4, 5, 0] rfl)
    · replace hf := if_f hf hc
      refine r_aloadO hx hb dX5_stepsBy_26 (lv_at hl 5 rfl) ?_
      obtain ⟨q58, hq59, hf⟩ := nn_of hf
      have ok_q58 := ok_a4 q58 hq59
      refine W.eq (g2 := F0 m 28 ls [.ref q58]) (by rw [hq59]; rfl) ?_
      refine gf_RX5_37 hC hR ok_q58 dX5_stepsBy_28 ?_
      refine lv_iconst (v := -1) hx hb dX5_stepsBy_31 (by decide) ?_
      refine lv_icmp_eq (tgt := 39) hx hb dX5_stepsBy_32 (by decide) (fun hc => ?_) (fun hc => ?_)
      · replace hf := if_t hf hc
        exact hj39_55 S4 _ _ _ hf hR hS hE ok_this ok_a1 ok_a4 (lv_sub hl [1, 2, 3, 4, 5, 0] rfl)
      · replace hf := if_f hf hc
        refine lv_iconst (v := 1) hx hb dX5_stepsBy_35 (by decide) ?_
        refine lv_goto (tgt := 40) hx hb dX5_stepsBy_36 (by decide) ?_
        exact hj40_5 (1 : Int32) S4 _ _ _ hf hR hS hE ok_this ok_a1 ok_a4 (lv_sub hl [1, 2, 3, 4, 5, 0] rfl)
  obtain ⟨j18_64, ej18_64, hf⟩ := jn_of1 hf
  have hj18_63 : ∀ (S65 : MS) (H : Heap) (locs : List Loc) (ls : Array Slot), j18_64 S65 = some (ro, So) → Rp G S65 H → va_S (gA G) s.heap H locs → Ex S S65 → Ok S65 this 5 → Ok S65 a1 3 → (∀ q, a4 = some q → Ok S65 q 7) → lv_has ls 8 [(0, .ref this), (1, .ref a1), (2, .int a2), (3, .int a3), (4, va_rf a4)] → W p l e rX5_stepsBy s m args below meth c H locs 0 0 (MQ below (Qn G S (some (.int ro)) So) args s 0 0 (gA G)) (F0 m 18 ls []) := by
    intro S65 H locs ls hf hR hS hE ok_this ok_a1 ok_a4 hl
    rw [ej18_64] at hf
    refine lv_iconst (v := 0) hx hb dX5_stepsBy_18 (by decide) ?_
    exact hj19_1 (0 : Int32) S65 _ _ _ hf hR hS hE ok_this ok_a1 ok_a4 (lv_sub hl [0, 1, 2, 3, 4] rfl)
  refine r_ifnullO (tgt := 18) hx hb dX5_stepsBy_2 (by decide) (fun hc => ?_) (fun hc => ?_)
  · replace hf := if_t hf hc
    exact hj18_63 S _ _ _ hf hR hS hE ok_this ok_a1 ok_a4 (lv_sub hl [0, 1, 2, 3, 4] rfl)
  · replace hf := if_f hf hc
    refine r_aloadO hx hb dX5_stepsBy_5 (lv_at hl 4 rfl) ?_
    obtain ⟨q66, hq67, hf⟩ := nn_of hf
    have ok_q66 := ok_a4 q66 hq67
    refine W.eq (g2 := F0 m 7 ls [.ref q66]) (by rw [hq67]; rfl) ?_
    refine gf_RX5_18 hC hR ok_q66 dX5_stepsBy_7 ?_
    refine lv_iconst (v := -1) hx hb dX5_stepsBy_10 (by decide) ?_
    refine lv_icmp_eq (tgt := 18) hx hb dX5_stepsBy_11 (by decide) (fun hc => ?_) (fun hc => ?_)
    · replace hf := if_t hf hc
      exact hj18_63 S _ _ _ hf hR hS hE ok_this ok_a1 ok_a4 (lv_sub hl [0, 1, 2, 3, 4] rfl)
    · replace hf := if_f hf hc
      refine lv_iconst (v := 1) hx hb dX5_stepsBy_14 (by decide) ?_
      refine lv_goto (tgt := 19) hx hb dX5_stepsBy_15 (by decide) ?_
      exact hj19_1 (1 : Int32) S _ _ _ hf hR hS hE ok_this ok_a1 ok_a4 (lv_sub hl [0, 1, 2, 3, 4] rfl)
abbrev rX8_isText : Room := { frames := 0, cells := 0, slots := 0, locals := 0 }
def f_X8_isText (_n : Nat) (this : Nat) (a1 : Int32) (S : MS) : Option (Int32 × MS) :=
  (if a1 < 0 then zb (0 : Int32) (some ((0 : Int32), S)) else (if (mI S this 7) ≤ a1 then zb (0 : Int32) (some ((0 : Int32), S)) else zb (1 : Int32) (some ((1 : Int32), S))))
set_option maxRecDepth 100000 in
set_option maxHeartbeats 4000000 in
theorem c_X8_isText (l : Launch) (G : Gx) (n : Nat) (this : Nat) (a1 : Int32) (S : MS) (ro : Int32) (So : MS) (hf : f_X8_isText n this a1 S = some (ro, So)) (ok_this : Ok S this 8) : Cn G l yX8_isText cX8_isText 2 (some .boolean) rX8_isText [.ref this, .int a1] S (some (.int ro)) So := by
  refine Cn.of (by decide) (Nat.le_of_ble_eq_true rfl) ?_
  intro p e s m args below meth c hC hname hR ls hl
  have hC : Cx G RX8 cX8_isText 2 (some .boolean) p s m args meth c := hC
  have hl : lv_has ls 2 [(0, .ref this), (1, .int a1)] := hl
  have hx := hC.x
  have hb := hC.b
  have hS : va_S (gA G) s.heap s.heap [] := va_S.rf
  have hE : Ex S S := Ex.rf S
  unfold f_X8_isText at hf
  refine lv_iload_n hx hb dX8_isText_0 rfl (lv_at hl 1 rfl) ?_
  refine lv_if_lt (tgt := 16) hx hb dX8_isText_1 (by decide) (fun hc => ?_) (fun hc => ?_)
  · replace hf := if_t hf hc
    refine lv_iconst (v := 0) hx hb dX8_isText_16 (by decide) ?_
    exact r_zret hC hR hS hE hf dX8_isText_17
  · replace hf := if_f hf hc
    refine lv_iload_n hx hb dX8_isText_4 rfl (lv_at hl 1 rfl) ?_
    refine lv_aload_n hx hb dX8_isText_5 rfl (lv_at hl 0 rfl) ?_
    refine gf_RX8_49 hC hR ok_this dX8_isText_6 ?_
    refine lv_icmp_ge (tgt := 16) hx hb dX8_isText_9 (by decide) (fun hc => ?_) (fun hc => ?_)
    · replace hf := if_t hf hc
      refine lv_iconst (v := 0) hx hb dX8_isText_16 (by decide) ?_
      exact r_zret hC hR hS hE hf dX8_isText_17
    · replace hf := if_f hf hc
      refine lv_iconst (v := 1) hx hb dX8_isText_12 (by decide) ?_
      refine lv_goto (tgt := 17) hx hb dX8_isText_13 (by decide) ?_
      exact r_zret hC hR hS hE hf dX8_isText_17
abbrev rX9_law : Room := { frames := 1, cells := 0, slots := 0, locals := 21 }
def f_X9_law (n : Nat) (this : Nat) (S : MS) : Option (Option Nat × MS) :=
  gR S (mR S this 0) 8 fun q1 => gR S (mR S this 0) 8 fun q3 => cl (f_X8_isText n q1 (mI S q3 8) S) fun x8 S5 => (if x8 = 0 then some (none, S5) else gR S5 (mR S5 this 0) 8 fun q9 => gR S5 (mR S5 this 1) 16 fun q11 => (if (Int32.ofNat (mN S5 q11)) ≤ (mI S5 q9 8) then some (none, S5) else gR S5 (mR S5 this 1) 16 fun q13 => gR S5 (mR S5 this 0) 8 fun q15 => ck (inb (mI S5 q15 8) (mN S5 q13)) (gN S5 (mR S5 q13 (mI S5 q15 8).toNatClampNeg) 7 fun q18 => some (q18, S5))))
set_option maxRecDepth 100000 in
set_option maxHeartbeats 4000000 in
theorem c_X9_law (l : Launch) (G : Gx) (n : Nat) (this : Nat) (S : MS) (ro : Option Nat) (So : MS) (hf : f_X9_law n this S = some (ro, So)) (ok_this : Ok S this 9) : Cn G l yX9_law cX9_law 1 (some (.object "WalkingFences$Text")) rX9_law [.ref this] S (some (va_rf ro)) So := by
  refine Cn.of (by decide) (Nat.le_of_ble_eq_true rfl) ?_
  intro p e s m args below meth c hC hname hR ls hl
  have hC : Cx G RX9 cX9_law 1 (some (.object "WalkingFences$Text")) p s m args meth c := hC
  have hl : lv_has ls 1 [(0, .ref this)] := hl
  have hx := hC.x
  have hb := hC.b
  have hS : va_S (gA G) s.heap s.heap [] := va_S.rf
  have hE : Ex S S := Ex.rf S
  unfold f_X9_law at hf
  refine lv_aload_n hx hb dX9_law_0 rfl (lv_at hl 0 rfl) ?_
  obtain ⟨q1, hq2, ok_q1, hf⟩ := gR_of hf
  refine gf_RX9_21 hC hR ok_this hq2 dX9_law_1 ?_
  refine lv_aload_n hx hb dX9_law_4 rfl (lv_at hl 0 rfl) ?_
  obtain ⟨q3, hq4, ok_q3, hf⟩ := gR_of hf
  refine gf_RX9_21 hC hR ok_this hq4 dX9_law_5 ?_
  refine gf_RX9_33 hC hR ok_q3 dX9_law_8 ?_
  obtain ⟨x8, S5, hc6, hf⟩ := cl_of hf
  refine cl_RX9_39 (As := [.int (mI S q3 8)]) (rest := []) hC hR hS (c_X8_isText l G n q1 (mI S q3 8) S x8 S5 hc6 ok_q1) ok_q1 rfl ⟨Nat.le_of_ble_eq_true rfl, Nat.le_of_ble_eq_true rfl⟩ hl.1 rfl (Nat.le_of_ble_eq_true rfl) dX9_law_11 (Nat.zero_le _) (Nat.zero_le _) (fun H locs hR hS hE7 => ?_)
  have ok_this := hE7 _ _ ok_this
  have ok_q1 := hE7 _ _ ok_q1
  have ok_q3 := hE7 _ _ ok_q3
  have hE := hE.tr hE7
  refine lv_if_eq (tgt := 47) hx hb dX9_law_14 (by decide) (fun hc => ?_) (fun hc => ?_)
  · replace hf := if_t hf hc
    refine lv_null hx hb dX9_law_47 ?_
    exact r_aret (v := none) hC (Or.inl ⟨_, rfl⟩) hR hS hE hf dX9_law_48
  · replace hf := if_f hf hc
    refine lv_aload_n hx hb dX9_law_17 rfl (lv_at hl 0 rfl) ?_
    obtain ⟨q9, hq10, ok_q9, hf⟩ := gR_of hf
    refine gf_RX9_21 hC hR ok_this hq10 dX9_law_18 ?_
    refine gf_RX9_33 hC hR ok_q9 dX9_law_21 ?_
    refine lv_aload_n hx hb dX9_law_24 rfl (lv_at hl 0 rfl) ?_
    obtain ⟨q11, hq12, ok_q11, hf⟩ := gR_of hf
    refine gf_RX9_25 hC hR ok_this hq12 dX9_law_25 ?_
    refine r_alenT hC hR ok_q11 dX9_law_28 ?_
    refine lv_icmp_ge (tgt := 47) hx hb dX9_law_29 (by decide) (fun hc => ?_) (fun hc => ?_)
    · replace hf := if_t hf hc
      refine lv_null hx hb dX9_law_47 ?_
      exact r_aret (v := none) hC (Or.inl ⟨_, rfl⟩) hR hS hE hf dX9_law_48
    · replace hf := if_f hf hc
      refine lv_aload_n hx hb dX9_law_32 rfl (lv_at hl 0 rfl) ?_
      obtain ⟨q13, hq14, ok_q13, hf⟩ := gR_of hf
      refine gf_RX9_25 hC hR ok_this hq14 dX9_law_33 ?_
      refine lv_aload_n hx hb dX9_law_36 rfl (lv_at hl 0 rfl) ?_
      obtain ⟨q15, hq16, ok_q15, hf⟩ := gR_of hf
      refine gf_RX9_21 hC hR ok_this hq16 dX9_law_37 ?_
      refine gf_RX9_33 hC hR ok_q15 dX9_law_40 ?_
      obtain ⟨hi17, hf⟩ := ck_of hf
      obtain ⟨ok_q18, hf⟩ := gN_of hf
      refine r_tald (v := va_rf (mR S5 q13 (mI S5 q15 8).toNatClampNeg)) hC hR ok_q13 hi17 dX9_law_43 rfl ?_
      generalize (mR S5 q13 (mI S5 q15 8).toNatClampNeg) = q18 at hf ok_q18 ⊢
      refine lv_goto (tgt := 48) hx hb dX9_law_44 (by decide) ?_
      exact r_aret (v := q18) hC (Or.inl ⟨_, rfl⟩) hR hS hE hf dX9_law_48
abbrev rX9_putInOrder : Room := { frames := 1, cells := 0, slots := 0, locals := 23 }
def f_X9_putInOrder_L127 (n : Nat) (this : Nat) (a1 : Nat) : Nat → Int32 → MS → Option (MS)
  | 0, _, _ => none
  | k + 1, x17, S18 => jn (f_X9_putInOrder_L127 n this a1 k) fun rec127_16 => (if (mI S18 a1 7) ≤ x17 then some S18 else gR S18 (mR S18 this 5) 12 fun q19 => gR S18 (mR S18 this 4) 12 fun q21 => gR S18 (mR S18 this 3) 12 fun q23 => ck (inb x17 (mN S18 q23)) (ck (inb (mI S18 q23 x17.toNatClampNeg) (mN S18 q21)) (ck (inb (mI S18 q21 (mI S18 q23 x17.toNatClampNeg).toNatClampNeg) (mN S18 q19)) (bd (sI S18 q19 (mI S18 q21 (mI S18 q23 x17.toNatClampNeg).toNatClampNeg).toNatClampNeg x17) fun S28 => gR S28 (mR S28 this 4) 12 fun q30 => gR S28 (mR S28 this 3) 12 fun q32 => ck (inb x17 (mN S28 q32)) (ck (inb (mI S28 q32 x17.toNatClampNeg) (mN S28 q30)) (ck (inb (mI S28 q32 x17.toNatClampNeg) (mN S28 q30)) (bd (sI S28 q30 (mI S28 q32 x17.toNatClampNeg).toNatClampNeg ((mI S28 q30 (mI S28 q32 x17.toNatClampNeg).toNatClampNeg) + (1 : Int32))) fun S37 => bd (x17 + (1 : Int32)) fun x39 => rec127_16 x39 S37)))))))
def f_X9_putInOrder_L89 (n : Nat) (this : Nat) (a1 : Nat) (j124_13 : MS → Option (MS)) : Nat → Int32 → MS → Option (MS)
  | 0, _, _ => none
  | k + 1, x43, S44 => jn (f_X9_putInOrder_L89 n this a1 j124_13 k) fun rec89_42 => gR S44 (mR S44 this 4) 12 fun q45 => (if (Int32.ofNat (mN S44 q45)) ≤ x43 then j124_13 S44 else gR S44 (mR S44 this 4) 12 fun q47 => ck (inb x43 (mN S44 q47)) (gR S44 (mR S44 this 4) 12 fun q50 => ck (inb (x43 - (1 : Int32)) (mN S44 q50)) (ck (inb x43 (mN S44 q47)) (bd (sI S44 q47 x43.toNatClampNeg ((mI S44 q47 x43.toNatClampNeg) + (mI S44 q50 (x43 - (1 : Int32)).toNatClampNeg))) fun S54 => bd (x43 + (1 : Int32)) fun x56 => rec89_42 x56 S54))))
def f_X9_putInOrder_L20 (n : Nat) (this : Nat) (a1 : Nat) (a2 : Int32) (a3 : Int32) (x3 : Int32) (j86_10 : MS → Option (MS)) : Nat → Int32 → MS → Option (MS)
  | 0, _, _ => none
  | k + 1, x61, S62 => jn (f_X9_putInOrder_L20 n this a1 a2 a3 x3 j86_10 k) fun rec20_60 => (if (mI S62 a1 7) ≤ x61 then j86_10 S62 else gR S62 (mR S62 a1 1) 12 fun q63 => ck (inb x61 (mN S62 q63)) (bd (mI S62 q63 x61.toNatClampNeg) fun x66 => dv x3 (dv x3 (bd (((12 : Int32) - ((x66 - x66 / x3 * x3) * a2)) - ((x66 / x3) * a3)) fun x69 => gR S62 (mR S62 this 3) 12 fun q70 => ck (inb x61 (mN S62 q70)) (bd (sI S62 q70 x61.toNatClampNeg x69) fun S73 => gR S73 (mR S73 this 4) 12 fun q75 => ck (inb (x69 + (1 : Int32)) (mN S73 q75)) (ck (inb (x69 + (1 : Int32)) (mN S73 q75)) (bd (sI S73 q75 (x69 + (1 : Int32)).toNatClampNeg ((mI S73 q75 (x69 + (1 : Int32)).toNatClampNeg) + (1 : Int32))) fun S79 => bd (x61 + (1 : Int32)) fun x81 => rec20_60 x81 S79)))))))
def f_X9_putInOrder (n : Nat) (this : Nat) (a1 : Nat) (a2 : Int32) (a3 : Int32) (S : MS) : Option (MS) :=
  gR S (mR S a1 0) 1 fun q1 => bd (mI S q1 0) fun x3 => gR S (mR S this 4) 12 fun q4 => cv (f_J7_fill_53178 n q4 (0 : Int32) S) fun S6 => jn (fun (S11 : MS) => jn (fun (S14 : MS) => f_X9_putInOrder_L127 n this a1 n (0 : Int32) S14) fun j124_13 => f_X9_putInOrder_L89 n this a1 j124_13 n (1 : Int32) S11) fun j86_10 => f_X9_putInOrder_L20 n this a1 a2 a3 x3 j86_10 n (0 : Int32) S6
set_option maxRecDepth 100000 in
set_option maxHeartbeats 4000000 in
theorem c_X9_putInOrder (l : Launch) (G : Gx) (n : Nat) (this : Nat) (a1 : Nat) (a2 : Int32) (a3 : Int32) (S : MS) (So : MS) (hf : f_X9_putInOrder n this a1 a2 a3 S = some So) (ok_this : Ok S this 9) (ok_a1 : Ok S a1 3) : Cn G l yX9_putInOrder cX9_putInOrder 8 none rX9_putInOrder [.ref this, .ref a1, .int a2, .int a3] S none So := by
  refine Cn.of (by decide) (Nat.le_of_ble_eq_true rfl) ?_
  intro p e s m args below meth c hC hname hR ls hl
  have hC : Cx G RX9 cX9_putInOrder 8 none p s m args meth c := hC
  have hl : lv_has ls 8 [(0, .ref this), (1, .ref a1), (2, .int a2), (3, .int a3)] := hl
  have hx := hC.x
  have hb := hC.b
  have hS : va_S (gA G) s.heap s.heap [] := va_S.rf
  have hE : Ex S S := Ex.rf S
  unfold f_X9_putInOrder at hf
  refine lv_aload_n hx hb dX9_putInOrder_0 rfl (lv_at hl 1 rfl) ?_
  obtain ⟨q1, hq2, ok_q1, hf⟩ := gR_of hf
  refine gf_RX9_65 hC hR ok_a1 hq2 dX9_putInOrder_1 ?_
  refine gf_RX9_107 hC hR ok_q1 dX9_putInOrder_4 ?_
  refine bdi hf (fun x3 hf => ?_)
  refine lv_istore (lv' := [(4, .int x3), (0, .ref this), (1, .ref a1), (2, .int a2), (3, .int a3)]) hx hb dX9_putInOrder_7 hl (by decide) rfl (fun ls hl => ?_)
  refine lv_aload_n hx hb dX9_putInOrder_9 rfl (lv_at hl 1 rfl) ?_
  obtain ⟨q4, hq5, ok_q4, hf⟩ := gR_of hf
  refine gf_RX9_15 hC hR ok_this hq5 dX9_putInOrder_10 ?_
  refine lv_iconst (v := 0) hx hb dX9_putInOrder_13 (by decide) ?_
  obtain ⟨S6, hc7, hf⟩ := cv_of hf
  refine cl_RX9_110 (As := [.ref q4, .int (0 : Int32)]) (rest := []) hC hR hS (c_J7_fill_53178 l G n q4 (0 : Int32) S S6 hc7 ok_q4) rfl ⟨Nat.le_of_ble_eq_true rfl, Nat.le_of_ble_eq_true rfl⟩ hl.1 rfl (Nat.le_of_ble_eq_true rfl) dX9_putInOrder_14 (Nat.zero_le _) (Nat.zero_le _) (fun H locs hR hS hE8 => ?_)
  have ok_this := hE8 _ _ ok_this
  have ok_a1 := hE8 _ _ ok_a1
  have ok_q1 := hE8 _ _ ok_q1
  have ok_q4 := hE8 _ _ ok_q4
  have hE := hE.tr hE8
  refine lv_iconst (v := 0) hx hb dX9_putInOrder_17 (by decide) ?_
  refine lv_istore (lv' := [(5, .int (0 : Int32)), (4, .int x3), (0, .ref this), (1, .ref a1), (2, .int a2), (3, .int a3)]) hx hb dX9_putInOrder_18 hl (by decide) rfl (fun ls hl => ?_)
  obtain ⟨j86_10, ej86_10, hf⟩ := jn_of1 hf
  have hj86_9 : ∀ (S11 : MS) (H : Heap) (locs : List Loc) (ls : Array Slot), j86_10 S11 = some So → Rp G S11 H → va_S (gA G) s.heap H locs → Ex S S11 → Ok S11 this 9 → Ok S11 a1 3 → lv_has ls 8 [(0, .ref this), (1, .ref a1)] → W p l e rX9_putInOrder s m args below meth c H locs 0 0 (MQ below (Qn G S none So) args s 0 0 (gA G)) (F0 m 86 ls []) := by
    intro S11 H locs ls hf hR hS hE ok_this ok_a1 hl
    rw [ej86_10] at hf
    refine lv_iconst (v := 1) hx hb dX9_putInOrder_86 (by decide) ?_
    refine lv_istore (lv' := [(5, .int (1 : Int32)), (0, .ref this), (1, .ref a1)]) hx hb dX9_putInOrder_87 hl (by decide) rfl (fun ls hl => ?_)
    obtain ⟨j124_13, ej124_13, hf⟩ := jn_of1 hf
    have hj124_12 : ∀ (S14 : MS) (H : Heap) (locs : List Loc) (ls : Array Slot), j124_13 S14 = some So → Rp G S14 H → va_S (gA G) s.heap H locs → Ex S S14 → Ok S14 this 9 → Ok S14 a1 3 → lv_has ls 8 [(0, .ref this), (1, .ref a1)] → W p l e rX9_putInOrder s m args below meth c H locs 0 0 (MQ below (Qn G S none So) args s 0 0 (gA G)) (F0 m 124 ls []) := by
      intro S14 H locs ls hf hR hS hE ok_this ok_a1 hl
      rw [ej124_13] at hf
      refine lv_iconst (v := 0) hx hb dX9_putInOrder_124 (by decide) ?_
      refine lv_istore (lv' := [(5, .int (0 : Int32)), (0, .ref this), (1, .ref a1)]) hx hb dX9_putInOrder_125 hl (by decide) rfl (fun ls hl => ?_)
      have hh40 : ∀ k : Nat, ∀ (x17 : Int32) (S18 : MS) (H : Heap) (locs : List Loc) (ls : Array Slot), f_X9_putInOrder_L127 n this a1 k x17 S18 = some So → Rp G S18 H → va_S (gA G) s.heap H locs → Ex S S18 → Ok S18 this 9 → Ok S18 a1 3 → lv_has ls 8 [(0, .ref this), (1, .ref a1), (5, .int x17)] → W p l e rX9_putInOrder s m args below meth c H locs 0 0 (MQ below (Qn G S none So) args s 0 0 (gA G)) (F0 m 127 ls []) := by
        intro k
        induction k with
        | zero =>
          intro x17 S18 H locs ls hf hR hS hE ok_this ok_a1 hl
          exact absurd hf (by rw [f_X9_putInOrder_L127]; exact fun h => by cases h)
        | succ k ih =>
          intro x17 S18 H locs ls hf hR hS hE ok_this ok_a1 hl
          rw [f_X9_putInOrder_L127] at hf
          obtain ⟨rec127_16, erec127_16, hf⟩ := jn_of2 hf
          have hL127_15 : ∀ (x17 : Int32) (S18 : MS) (H : Heap) (locs : List Loc) (ls : Array Slot), rec127_16 x17 S18 = some So → Rp G S18 H → va_S (gA G) s.heap H locs → Ex S S18 → Ok S18 this 9 → Ok S18 a1 3 → lv_has ls 8 [(0, .ref this), (1, .ref a1), (5, .int x17)] → W p l e rX9_putInOrder s m args below meth c H locs 0 0 (MQ below (Qn G S none So) args s 0 0 (gA G)) (F0 m 127 ls []) := by
            intro x17 S18 H locs ls hf hR hS hE ok_this ok_a1 hl
            rw [erec127_16] at hf
            exact ih x17 S18 _ _ _ hf hR hS hE ok_this ok_a1 hl
          refine lv_iload hx hb dX9_putInOrder_127 (lv_at hl 2 rfl) ?_
          refine lv_aload_n hx hb dX9_putInOrder_129 rfl (lv_at hl 1 rfl) ?_
          refine gf_RX9_57 hC hR ok_a1 dX9_putInOrder_130 ?_
          refine lv_icmp_ge (tgt := 177) hx hb dX9_putInOrder_133 (by decide) (fun hc => ?_) (fun hc => ?_)
          · replace hf := if_t hf hc
            exact r_vret hC hR hS hE hf dX9_putInOrder_177
          · replace hf := if_f hf hc
            refine lv_aload_n hx hb dX9_putInOrder_136 rfl (lv_at hl 0 rfl) ?_
            obtain ⟨q19, hq20, ok_q19, hf⟩ := gR_of hf
            refine gf_RX9_18 hC hR ok_this hq20 dX9_putInOrder_137 ?_
            refine lv_aload_n hx hb dX9_putInOrder_140 rfl (lv_at hl 0 rfl) ?_
            obtain ⟨q21, hq22, ok_q21, hf⟩ := gR_of hf
            refine gf_RX9_15 hC hR ok_this hq22 dX9_putInOrder_141 ?_
            refine lv_aload_n hx hb dX9_putInOrder_144 rfl (lv_at hl 0 rfl) ?_
            obtain ⟨q23, hq24, ok_q23, hf⟩ := gR_of hf
            refine gf_RX9_9 hC hR ok_this hq24 dX9_putInOrder_145 ?_
            refine lv_iload hx hb dX9_putInOrder_148 (lv_at hl 2 rfl) ?_
            obtain ⟨hi25, hf⟩ := ck_of hf
            refine r_iald hC hR ok_q23 hi25 dX9_putInOrder_150 ?_
            obtain ⟨hi26, hf⟩ := ck_of hf
            refine r_iald hC hR ok_q21 hi26 dX9_putInOrder_151 ?_
            refine lv_iload hx hb dX9_putInOrder_152 (lv_at hl 2 rfl) ?_
            obtain ⟨hi27, hf⟩ := ck_of hf
            refine rB_iast hC hR hS ok_q19 hi27 dX9_putInOrder_154 hf (fun S28 H locs hf hR hS hE29 => ?_)
            have ok_this := hE29 _ _ ok_this
            have ok_a1 := hE29 _ _ ok_a1
            have ok_q19 := hE29 _ _ ok_q19
            have ok_q21 := hE29 _ _ ok_q21
            have ok_q23 := hE29 _ _ ok_q23
            have hE := hE.tr hE29
            refine lv_aload_n hx hb dX9_putInOrder_155 rfl (lv_at hl 0 rfl) ?_
            obtain ⟨q30, hq31, ok_q30, hf⟩ := gR_of hf
            refine gf_RX9_15 hC hR ok_this hq31 dX9_putInOrder_156 ?_
            refine lv_aload_n hx hb dX9_putInOrder_159 rfl (lv_at hl 0 rfl) ?_
            obtain ⟨q32, hq33, ok_q32, hf⟩ := gR_of hf
            refine gf_RX9_9 hC hR ok_this hq33 dX9_putInOrder_160 ?_
            refine lv_iload hx hb dX9_putInOrder_163 (lv_at hl 2 rfl) ?_
            obtain ⟨hi34, hf⟩ := ck_of hf
            refine r_iald hC hR ok_q32 hi34 dX9_putInOrder_165 ?_
            refine lv_dup2_11 hx hb dX9_putInOrder_166 rfl rfl ?_
            obtain ⟨hi35, hf⟩ := ck_of hf
            refine r_iald hC hR ok_q30 hi35 dX9_putInOrder_167 ?_
            refine lv_iconst (v := 1) hx hb dX9_putInOrder_168 (by decide) ?_
            refine lv_iadd hx hb dX9_putInOrder_169 ?_
            obtain ⟨hi36, hf⟩ := ck_of hf
            refine rB_iast hC hR hS ok_q30 hi36 dX9_putInOrder_170 hf (fun S37 H locs hf hR hS hE38 => ?_)
            have ok_this := hE38 _ _ ok_this
            have ok_a1 := hE38 _ _ ok_a1
            have ok_q19 := hE38 _ _ ok_q19
            have ok_q21 := hE38 _ _ ok_q21
            have ok_q23 := hE38 _ _ ok_q23
            have ok_q30 := hE38 _ _ ok_q30
            have ok_q32 := hE38 _ _ ok_q32
            have hE := hE.tr hE38
            refine r_iinc (n := 1) (z := 1) (lv' := fun x39 => [(5, .int x39), (0, .ref this), (1, .ref a1)]) hx hb dX9_putInOrder_171 hl (k := 2) rfl (by decide) (by decide) (fun _ => rfl) hf (fun x39 ls hf hl => ?_)
            refine lv_goto (tgt := 127) hx hb dX9_putInOrder_174 (by decide) ?_
            exact hL127_15 x39 S37 _ _ _ hf hR hS hE ok_this ok_a1 (lv_sub hl [1, 2, 0] rfl)
      exact hh40 n (0 : Int32) S14 _ _ _ hf hR hS hE ok_this ok_a1 (lv_sub hl [1, 2, 0] rfl)
    have hh57 : ∀ k : Nat, ∀ (x43 : Int32) (S44 : MS) (H : Heap) (locs : List Loc) (ls : Array Slot), f_X9_putInOrder_L89 n this a1 j124_13 k x43 S44 = some So → Rp G S44 H → va_S (gA G) s.heap H locs → Ex S S44 → Ok S44 this 9 → Ok S44 a1 3 → lv_has ls 8 [(0, .ref this), (1, .ref a1), (5, .int x43)] → W p l e rX9_putInOrder s m args below meth c H locs 0 0 (MQ below (Qn G S none So) args s 0 0 (gA G)) (F0 m 89 ls []) := by
      intro k
      induction k with
      | zero =>
        intro x43 S44 H locs ls hf hR hS hE ok_this ok_a1 hl
        exact absurd hf (by rw [f_X9_putInOrder_L89]; exact fun h => by cases h)
      | succ k ih =>
        intro x43 S44 H locs ls hf hR hS hE ok_this ok_a1 hl
        rw [f_X9_putInOrder_L89] at hf
        obtain ⟨rec89_42, erec89_42, hf⟩ := jn_of2 hf
        have hL89_41 : ∀ (x43 : Int32) (S44 : MS) (H : Heap) (locs : List Loc) (ls : Array Slot), rec89_42 x43 S44 = some So → Rp G S44 H → va_S (gA G) s.heap H locs → Ex S S44 → Ok S44 this 9 → Ok S44 a1 3 → lv_has ls 8 [(0, .ref this), (1, .ref a1), (5, .int x43)] → W p l e rX9_putInOrder s m args below meth c H locs 0 0 (MQ below (Qn G S none So) args s 0 0 (gA G)) (F0 m 89 ls []) := by
          intro x43 S44 H locs ls hf hR hS hE ok_this ok_a1 hl
          rw [erec89_42] at hf
          exact ih x43 S44 _ _ _ hf hR hS hE ok_this ok_a1 hl
        refine lv_iload hx hb dX9_putInOrder_89 (lv_at hl 2 rfl) ?_
        refine lv_aload_n hx hb dX9_putInOrder_91 rfl (lv_at hl 0 rfl) ?_
        obtain ⟨q45, hq46, ok_q45, hf⟩ := gR_of hf
        refine gf_RX9_15 hC hR ok_this hq46 dX9_putInOrder_92 ?_
        refine r_alenI hC hR ok_q45 dX9_putInOrder_95 ?_
        refine lv_icmp_ge (tgt := 124) hx hb dX9_putInOrder_96 (by decide) (fun hc => ?_) (fun hc => ?_)
        · replace hf := if_t hf hc
          exact hj124_12 S44 _ _ _ hf hR hS hE ok_this ok_a1 (lv_sub hl [0, 1] rfl)
        · replace hf := if_f hf hc
          refine lv_aload_n hx hb dX9_putInOrder_99 rfl (lv_at hl 0 rfl) ?_
          obtain ⟨q47, hq48, ok_q47, hf⟩ := gR_of hf
          refine gf_RX9_15 hC hR ok_this hq48 dX9_putInOrder_100 ?_
          refine lv_iload hx hb dX9_putInOrder_103 (lv_at hl 2 rfl) ?_
          refine lv_dup2_11 hx hb dX9_putInOrder_105 rfl rfl ?_
          obtain ⟨hi49, hf⟩ := ck_of hf
          refine r_iald hC hR ok_q47 hi49 dX9_putInOrder_106 ?_
          refine lv_aload_n hx hb dX9_putInOrder_107 rfl (lv_at hl 0 rfl) ?_
          obtain ⟨q50, hq51, ok_q50, hf⟩ := gR_of hf
          refine gf_RX9_15 hC hR ok_this hq51 dX9_putInOrder_108 ?_
          refine lv_iload hx hb dX9_putInOrder_111 (lv_at hl 2 rfl) ?_
          refine lv_iconst (v := 1) hx hb dX9_putInOrder_113 (by decide) ?_
          refine lv_isub hx hb dX9_putInOrder_114 ?_
          obtain ⟨hi52, hf⟩ := ck_of hf
          refine r_iald hC hR ok_q50 hi52 dX9_putInOrder_115 ?_
          refine lv_iadd hx hb dX9_putInOrder_116 ?_
          obtain ⟨hi53, hf⟩ := ck_of hf
          refine rB_iast hC hR hS ok_q47 hi53 dX9_putInOrder_117 hf (fun S54 H locs hf hR hS hE55 => ?_)
          have ok_this := hE55 _ _ ok_this
          have ok_a1 := hE55 _ _ ok_a1
          have ok_q45 := hE55 _ _ ok_q45
          have ok_q47 := hE55 _ _ ok_q47
          have ok_q50 := hE55 _ _ ok_q50
          have hE := hE.tr hE55
          refine r_iinc (n := 1) (z := 1) (lv' := fun x56 => [(5, .int x56), (0, .ref this), (1, .ref a1)]) hx hb dX9_putInOrder_118 hl (k := 2) rfl (by decide) (by decide) (fun _ => rfl) hf (fun x56 ls hf hl => ?_)
          refine lv_goto (tgt := 89) hx hb dX9_putInOrder_121 (by decide) ?_
          exact hL89_41 x56 S54 _ _ _ hf hR hS hE ok_this ok_a1 (lv_sub hl [1, 2, 0] rfl)
    exact hh57 n (1 : Int32) S11 _ _ _ hf hR hS hE ok_this ok_a1 (lv_sub hl [1, 2, 0] rfl)
  have hh82 : ∀ k : Nat, ∀ (x61 : Int32) (S62 : MS) (H : Heap) (locs : List Loc) (ls : Array Slot), f_X9_putInOrder_L20 n this a1 a2 a3 x3 j86_10 k x61 S62 = some So → Rp G S62 H → va_S (gA G) s.heap H locs → Ex S S62 → Ok S62 this 9 → Ok S62 a1 3 → lv_has ls 8 [(0, .ref this), (1, .ref a1), (2, .int a2), (3, .int a3), (4, .int x3), (5, .int x61)] → W p l e rX9_putInOrder s m args below meth c H locs 0 0 (MQ below (Qn G S none So) args s 0 0 (gA G)) (F0 m 20 ls []) := by
    intro k
    induction k with
    | zero =>
      intro x61 S62 H locs ls hf hR hS hE ok_this ok_a1 hl
      exact absurd hf (by rw [f_X9_putInOrder_L20]; exact fun h => by cases h)
    | succ k ih =>
      intro x61 S62 H locs ls hf hR hS hE ok_this ok_a1 hl
      rw [f_X9_putInOrder_L20] at hf
      obtain ⟨rec20_60, erec20_60, hf⟩ := jn_of2 hf
      have hL20_59 : ∀ (x61 : Int32) (S62 : MS) (H : Heap) (locs : List Loc) (ls : Array Slot), rec20_60 x61 S62 = some So → Rp G S62 H → va_S (gA G) s.heap H locs → Ex S S62 → Ok S62 this 9 → Ok S62 a1 3 → lv_has ls 8 [(0, .ref this), (1, .ref a1), (2, .int a2), (3, .int a3), (4, .int x3), (5, .int x61)] → W p l e rX9_putInOrder s m args below meth c H locs 0 0 (MQ below (Qn G S none So) args s 0 0 (gA G)) (F0 m 20 ls []) := by
        intro x61 S62 H locs ls hf hR hS hE ok_this ok_a1 hl
        rw [erec20_60] at hf
        exact ih x61 S62 _ _ _ hf hR hS hE ok_this ok_a1 hl
      refine lv_iload hx hb dX9_putInOrder_20 (lv_at hl 5 rfl) ?_
      refine lv_aload_n hx hb dX9_putInOrder_22 rfl (lv_at hl 1 rfl) ?_
      refine gf_RX9_57 hC hR ok_a1 dX9_putInOrder_23 ?_
      refine lv_icmp_ge (tgt := 86) hx hb dX9_putInOrder_26 (by decide) (fun hc => ?_) (fun hc => ?_)
      · replace hf := if_t hf hc
        exact hj86_9 S62 _ _ _ hf hR hS hE ok_this ok_a1 (lv_sub hl [0, 1] rfl)
      · replace hf := if_f hf hc
        refine lv_aload_n hx hb dX9_putInOrder_29 rfl (lv_at hl 1 rfl) ?_
        obtain ⟨q63, hq64, ok_q63, hf⟩ := gR_of hf
        refine gf_RX9_62 hC hR ok_a1 hq64 dX9_putInOrder_30 ?_
        refine lv_iload hx hb dX9_putInOrder_33 (lv_at hl 5 rfl) ?_
        obtain ⟨hi65, hf⟩ := ck_of hf
        refine r_iald hC hR ok_q63 hi65 dX9_putInOrder_35 ?_
        refine bdi hf (fun x66 hf => ?_)
        refine lv_istore (lv' := [(6, .int x66), (0, .ref this), (1, .ref a1), (2, .int a2), (3, .int a3), (4, .int x3), (5, .int x61)]) hx hb dX9_putInOrder_36 hl (by decide) rfl (fun ls hl => ?_)
        refine lv_bipush (v := 12) hx hb dX9_putInOrder_38 (by decide) ?_
        refine lv_iload hx hb dX9_putInOrder_40 (lv_at hl 0 rfl) ?_
        refine lv_iload hx hb dX9_putInOrder_42 (lv_at hl 5 rfl) ?_
        obtain ⟨hn67, hf⟩ := dv_of hf
        refine lv_irem hx hb dX9_putInOrder_44 hn67 ?_
        refine lv_iload_n hx hb dX9_putInOrder_45 rfl (lv_at hl 3 rfl) ?_
        refine lv_imul hx hb dX9_putInOrder_46 ?_
        refine lv_isub hx hb dX9_putInOrder_47 ?_
        refine lv_iload hx hb dX9_putInOrder_48 (lv_at hl 0 rfl) ?_
        refine lv_iload hx hb dX9_putInOrder_50 (lv_at hl 5 rfl) ?_
        obtain ⟨hn68, hf⟩ := dv_of hf
        refine lv_idiv hx hb dX9_putInOrder_52 hn68 ?_
        refine lv_iload_n hx hb dX9_putInOrder_53 rfl (lv_at hl 4 rfl) ?_
        refine lv_imul hx hb dX9_putInOrder_54 ?_
        refine lv_isub hx hb dX9_putInOrder_55 ?_
        refine bdi hf (fun x69 hf => ?_)
        refine lv_istore (lv' := [(7, .int x69), (6, .int x66), (0, .ref this), (1, .ref a1), (2, .int a2), (3, .int a3), (4, .int x3), (5, .int x61)]) hx hb dX9_putInOrder_56 hl (by decide) rfl (fun ls hl => ?_)
        refine lv_aload_n hx hb dX9_putInOrder_58 rfl (lv_at hl 2 rfl) ?_
        obtain ⟨q70, hq71, ok_q70, hf⟩ := gR_of hf
        refine gf_RX9_9 hC hR ok_this hq71 dX9_putInOrder_59 ?_
        refine lv_iload hx hb dX9_putInOrder_62 (lv_at hl 7 rfl) ?_
        refine lv_iload hx hb dX9_putInOrder_64 (lv_at hl 0 rfl) ?_
        obtain ⟨hi72, hf⟩ := ck_of hf
        refine rB_iast hC hR hS ok_q70 hi72 dX9_putInOrder_66 hf (fun S73 H locs hf hR hS hE74 => ?_)
        have ok_this := hE74 _ _ ok_this
        have ok_a1 := hE74 _ _ ok_a1
        have ok_q63 := hE74 _ _ ok_q63
        have ok_q70 := hE74 _ _ ok_q70
        have hE := hE.tr hE74
        refine lv_aload_n hx hb dX9_putInOrder_67 rfl (lv_at hl 2 rfl) ?_
        obtain ⟨q75, hq76, ok_q75, hf⟩ := gR_of hf
        refine gf_RX9_15 hC hR ok_this hq76 dX9_putInOrder_68 ?_
        refine lv_iload hx hb dX9_putInOrder_71 (lv_at hl 0 rfl) ?_
        refine lv_iconst (v := 1) hx hb dX9_putInOrder_73 (by decide) ?_
        refine lv_iadd hx hb dX9_putInOrder_74 ?_
        refine lv_dup2_11 hx hb dX9_putInOrder_75 rfl rfl ?_
        obtain ⟨hi77, hf⟩ := ck_of hf
        refine r_iald hC hR ok_q75 hi77 dX9_putInOrder_76 ?_
        refine lv_iconst (v := 1) hx hb dX9_putInOrder_77 (by decide) ?_
        refine lv_iadd hx hb dX9_putInOrder_78 ?_
        obtain ⟨hi78, hf⟩ := ck_of hf
        refine rB_iast hC hR hS ok_q75 hi78 dX9_putInOrder_79 hf (fun S79 H locs hf hR hS hE80 => ?_)
        have ok_this := hE80 _ _ ok_this
        have ok_a1 := hE80 _ _ ok_a1
        have ok_q63 := hE80 _ _ ok_q63
        have ok_q70 := hE80 _ _ ok_q70
        have ok_q75 := hE80 _ _ ok_q75
        have hE := hE.tr hE80
        refine r_iinc (n := 1) (z := 1) (lv' := fun x81 => [(5, .int x81), (7, .int x69), (6, .int x66), (0, .ref this), (1, .ref a1), (2, .int a2), (3, .int a3), (4, .int x3)]) hx hb dX9_putInOrder_80 hl (k := 7) rfl (by decide) (by decide) (fun _ => rfl) hf (fun x81 ls hf hl => ?_)
        refine lv_goto (tgt := 20) hx hb dX9_putInOrder_83 (by decide) ?_
        exact hL20_59 x81 S79 _ _ _ hf hR hS hE ok_this ok_a1 (lv_sub hl [3, 4, 5, 6, 7, 0] rfl)
  exact hh82 n (0 : Int32) S6 _ _ _ hf hR hS hE ok_this ok_a1 (lv_sub hl [2, 3, 4, 5, 1, 0] rfl)
abbrev rX9_reached : Room := { frames := 2, cells := 0, slots := 0, locals := 45 }
def f_X9_reached_L6 (n : Nat) (a1 : Nat) (a3 : Int32) (a4 : Int32) (a5 : Int32) : Nat → Int32 → Int32 → MS → Option (Int32 × MS)
  | 0, _, _, _ => none
  | k + 1, x3, x4, S5 => jn (f_X9_reached_L6 n a1 a3 a4 a5 k) fun rec6_2 => (if a3 ≤ x4 then some (x3, S5) else gR S5 (mR S5 a1 0) 1 fun q6 => cl (f_X1_cellBeside n q6 x3 a4 a5 S5) fun x11 S8 => cl (f_X3_isOpen n a1 x11 S8) fun x15 S12 => (if x15 = 0 then some (x3, S12) else bd (x4 + (1 : Int32)) fun x16 => rec6_2 x11 x16 S12))
def f_X9_reached (n : Nat) (a1 : Nat) (a2 : Int32) (a3 : Int32) (a4 : Int32) (a5 : Int32) (S : MS) : Option (Int32 × MS) :=
  f_X9_reached_L6 n a1 a3 a4 a5 n a2 (0 : Int32) S
set_option maxRecDepth 100000 in
set_option maxHeartbeats 4000000 in
theorem c_X9_reached (l : Launch) (G : Gx) (n : Nat) (a1 : Nat) (a2 : Int32) (a3 : Int32) (a4 : Int32) (a5 : Int32) (S : MS) (ro : Int32) (So : MS) (hf : f_X9_reached n a1 a2 a3 a4 a5 S = some (ro, So)) (ok_a1 : Ok S a1 3) : Cn G l yX9_reached cX9_reached 8 (some .int) rX9_reached [.ref a1, .int a2, .int a3, .int a4, .int a5] S (some (.int ro)) So := by
  refine Cn.of (by decide) (Nat.le_of_ble_eq_true rfl) ?_
  intro p e s m args below meth c hC hname hR ls hl
  have hC : Cx G RX9 cX9_reached 8 (some .int) p s m args meth c := hC
  have hl : lv_has ls 8 [(0, .ref a1), (1, .int a2), (2, .int a3), (3, .int a4), (4, .int a5)] := hl
  have hx := hC.x
  have hb := hC.b
  have hS : va_S (gA G) s.heap s.heap [] := va_S.rf
  have hE : Ex S S := Ex.rf S
  unfold f_X9_reached at hf
  refine lv_iload_n hx hb dX9_reached_0 rfl (lv_at hl 1 rfl) ?_
  refine lv_istore (lv' := [(5, .int a2), (0, .ref a1), (1, .int a2), (2, .int a3), (3, .int a4), (4, .int a5)]) hx hb dX9_reached_1 hl (by decide) rfl (fun ls hl => ?_)
  refine lv_iconst (v := 0) hx hb dX9_reached_3 (by decide) ?_
  refine lv_istore (lv' := [(6, .int (0 : Int32)), (5, .int a2), (0, .ref a1), (1, .int a2), (2, .int a3), (3, .int a4), (4, .int a5)]) hx hb dX9_reached_4 hl (by decide) rfl (fun ls hl => ?_)
  have hh17 : ∀ k : Nat, ∀ (x3 : Int32) (x4 : Int32) (S5 : MS) (H : Heap) (locs : List Loc) (ls : Array Slot), f_X9_reached_L6 n a1 a3 a4 a5 k x3 x4 S5 = some (ro, So) → Rp G S5 H → va_S (gA G) s.heap H locs → Ex S S5 → Ok S5 a1 3 → lv_has ls 8 [(0, .ref a1), (2, .int a3), (3, .int a4), (4, .int a5), (5, .int x3), (6, .int x4)] → W p l e rX9_reached s m args below meth c H locs 0 0 (MQ below (Qn G S (some (.int ro)) So) args s 0 0 (gA G)) (F0 m 6 ls []) := by
    intro k
    induction k with
    | zero =>
      intro x3 x4 S5 H locs ls hf hR hS hE ok_a1 hl
      exact absurd hf (by rw [f_X9_reached_L6]; exact fun h => by cases h)
    | succ k ih =>
      intro x3 x4 S5 H locs ls hf hR hS hE ok_a1 hl
      rw [f_X9_reached_L6] at hf
      obtain ⟨rec6_2, erec6_2, hf⟩ := jn_of3 hf
      have hL6_1 : ∀ (x3 : Int32) (x4 : Int32) (S5 : MS) (H : Heap) (locs : List Loc) (ls : Array Slot), rec6_2 x3 x4 S5 = some (ro, So) → Rp G S5 H → va_S (gA G) s.heap H locs → Ex S S5 → Ok S5 a1 3 → lv_has ls 8 [(0, .ref a1), (2, .int a3), (3, .int a4), (4, .int a5), (5, .int x3), (6, .int x4)] → W p l e rX9_reached s m args below meth c H locs 0 0 (MQ below (Qn G S (some (.int ro)) So) args s 0 0 (gA G)) (F0 m 6 ls []) := by
        intro x3 x4 S5 H locs ls hf hR hS hE ok_a1 hl
        rw [erec6_2] at hf
        exact ih x3 x4 S5 _ _ _ hf hR hS hE ok_a1 hl
      refine lv_iload hx hb dX9_reached_6 (lv_at hl 5 rfl) ?_
      refine lv_iload_n hx hb dX9_reached_8 rfl (lv_at hl 1 rfl) ?_
      refine lv_icmp_ge (tgt := 48) hx hb dX9_reached_9 (by decide) (fun hc => ?_) (fun hc => ?_)
      · replace hf := if_t hf hc
        refine lv_iload hx hb dX9_reached_48 (lv_at hl 4 rfl) ?_
        exact r_iret hC hR hS hE hf dX9_reached_50
      · replace hf := if_f hf hc
        refine lv_aload_n hx hb dX9_reached_12 rfl (lv_at hl 0 rfl) ?_
        obtain ⟨q6, hq7, ok_q6, hf⟩ := gR_of hf
        refine gf_RX9_65 hC hR ok_a1 hq7 dX9_reached_13 ?_
        refine lv_iload hx hb dX9_reached_16 (lv_at hl 4 rfl) ?_
        refine lv_iload_n hx hb dX9_reached_18 rfl (lv_at hl 2 rfl) ?_
        refine lv_iload hx hb dX9_reached_19 (lv_at hl 3 rfl) ?_
        obtain ⟨x11, S8, hc9, hf⟩ := cl_of hf
        refine cl_RX9_69 (As := [.int x3, .int a4, .int a5]) (rest := []) hC hR hS (c_X1_cellBeside l G n q6 x3 a4 a5 S5 x11 S8 hc9 ok_q6) ok_q6 rfl ⟨Nat.le_of_ble_eq_true rfl, Nat.le_of_ble_eq_true rfl⟩ hl.1 rfl (Nat.le_of_ble_eq_true rfl) dX9_reached_21 (Nat.zero_le _) (Nat.zero_le _) (fun H locs hR hS hE10 => ?_)
        have ok_a1 := hE10 _ _ ok_a1
        have ok_q6 := hE10 _ _ ok_q6
        have hE := hE.tr hE10
        refine lv_istore (lv' := [(7, .int x11), (0, .ref a1), (2, .int a3), (3, .int a4), (4, .int a5), (5, .int x3), (6, .int x4)]) hx hb dX9_reached_24 hl (by decide) rfl (fun ls hl => ?_)
        refine lv_aload_n hx hb dX9_reached_26 rfl (lv_at hl 1 rfl) ?_
        refine lv_iload hx hb dX9_reached_27 (lv_at hl 0 rfl) ?_
        obtain ⟨x15, S12, hc13, hf⟩ := cl_of hf
        refine cl_RX9_75 (As := [.int x11]) (rest := []) hC hR hS (c_X3_isOpen l G n a1 x11 S8 x15 S12 hc13 ok_a1) ok_a1 rfl ⟨Nat.le_of_ble_eq_true rfl, Nat.le_of_ble_eq_true rfl⟩ hl.1 rfl (Nat.le_of_ble_eq_true rfl) dX9_reached_29 (Nat.zero_le _) (Nat.zero_le _) (fun H locs hR hS hE14 => ?_)
        have ok_a1 := hE14 _ _ ok_a1
        have ok_q6 := hE14 _ _ ok_q6
        have hE := hE.tr hE14
        refine lv_if_ne (tgt := 38) hx hb dX9_reached_32 (by decide) (fun hc => ?_) (fun hc => ?_)
        · replace hf := if_f hf hc
          refine lv_iload hx hb dX9_reached_38 (lv_at hl 0 rfl) ?_
          refine lv_istore (lv' := [(5, .int x11), (7, .int x11), (0, .ref a1), (2, .int a3), (3, .int a4), (4, .int a5), (6, .int x4)]) hx hb dX9_reached_40 hl (by decide) rfl (fun ls hl => ?_)
          refine r_iinc (n := 1) (z := 1) (lv' := fun x16 => [(6, .int x16), (5, .int x11), (7, .int x11), (0, .ref a1), (2, .int a3), (3, .int a4), (4, .int a5)]) hx hb dX9_reached_42 hl (k := 6) rfl (by decide) (by decide) (fun _ => rfl) hf (fun x16 ls hf hl => ?_)
          refine lv_goto (tgt := 6) hx hb dX9_reached_45 (by decide) ?_
          exact hL6_1 x11 x16 S12 _ _ _ hf hR hS hE ok_a1 (lv_sub hl [3, 4, 5, 6, 1, 0] rfl)
        · replace hf := if_t hf hc
          refine lv_iload hx hb dX9_reached_35 (lv_at hl 5 rfl) ?_
          exact r_iret hC hR hS hE hf dX9_reached_37
  exact hh17 n a2 (0 : Int32) S _ _ _ hf hR hS hE ok_a1 (lv_sub hl [2, 4, 5, 6, 1, 0] rfl)
abbrev rX9_blow : Room := { frames := 4, cells := 0, slots := 0, locals := 106 }
def f_X9_blow_L57 (n : Nat) (this : Nat) (a1 : Nat) (a2 : Int32) (x6 : Int32) (x12 : Int32) (x15 : Int32) (q20 : Option Nat) : Nat → Int32 → Int32 → MS → Option (Int32 × MS)
  | 0, _, _, _ => none
  | k + 1, x26, x27, S28 => jn (f_X9_blow_L57 n this a1 a2 x6 x12 x15 q20 k) fun rec57_25 => (if (mI S28 a1 7) ≤ x27 then bd (sI S28 a1 8 ((mI S28 a1 8) + (1 : Int32))) fun S29 => some (x26, S29) else gR S28 (mR S28 this 5) 12 fun q31 => ck (inb x27 (mN S28 q31)) (bd (mI S28 q31 x27.toNatClampNeg) fun x34 => gR S28 (mR S28 a1 1) 12 fun q35 => ck (inb x34 (mN S28 q35)) (bd (mI S28 q35 x34.toNatClampNeg) fun x38 => jn (fun (x41 : Int32) (S42 : MS) => jn (fun (x45 : Int32) (S46 : MS) => cl (f_X9_reached n a1 x38 x45 x6 x12 S46) fun x50 S47 => jn (fun (x53 : Int32) (S54 : MS) => bd (x27 + (1 : Int32)) fun x55 => rec57_25 x53 x55 S54) fun j202_52 => (if x50 = x38 then gR S47 (mR S47 a1 3) 12 fun q56 => gR S47 (mR S47 a1 3) 12 fun q58 => ck (inb x34 (mN S47 q58)) (ck (inb x34 (mN S47 q56)) (bd (sI S47 q56 x34.toNatClampNeg (imin (99 : Int32) ((mI S47 q58 x34.toNatClampNeg) + (1 : Int32)))) fun S62 => j202_52 x26 S62)) else cv (f_X3_shift n a1 x34 x50 S47) fun S64 => bd (x26 + (1 : Int32)) fun x67 => j202_52 x67 S64)) fun j145_44 => (if x41 = 0 then gR S42 (mR S42 this 2) 5 fun q70 => gR S42 (mR S42 this 0) 8 fun q72 => gR S42 (mR S42 q72 2) 12 fun q74 => ck (inb a2 (mN S42 q74)) (cl (f_X5_stepsBy n q70 a1 x34 (mI S42 q74 a2.toNatClampNeg) q20 S42) fun x80 S77 => j145_44 x80 S77) else j145_44 (0 : Int32) S42)) fun j113_40 => jn (fun (S85 : MS) => j113_40 (1 : Int32) S85) fun j108_84 => (if x15 = 0 then gR S28 (mR S28 a1 0) 1 fun q86 => cl (f_X1_cellBeside n q86 x38 x6 x12 S28) fun x91 S88 => cl (f_X3_isOpen n a1 x91 S88) fun x95 S92 => (if x95 = 0 then j108_84 S92 else j113_40 (0 : Int32) S92) else j108_84 S28))))
def f_X9_blow (n : Nat) (this : Nat) (a1 : Nat) (a2 : Int32) (S : MS) : Option (Int32 × MS) :=
  gR S (mR S this 0) 8 fun q1 => gR S (mR S q1 0) 12 fun q3 => ck (inb a2 (mN S q3)) (bd (mI S q3 a2.toNatClampNeg) fun x6 => gR S (mR S this 0) 8 fun q7 => gR S (mR S q7 1) 12 fun q9 => ck (inb a2 (mN S q9)) (bd (mI S q9 a2.toNatClampNeg) fun x12 => jn (fun (x15 : Int32) (S16 : MS) => cl (f_X9_law n this S16) fun q20 S17 => gN S17 q20 7 fun q20 => cv (f_X9_putInOrder n this a1 x6 x12 S17) fun S21 => f_X9_blow_L57 n this a1 a2 x6 x12 x15 q20 n (0 : Int32) (0 : Int32) S21) fun j35_14 => jn (fun (S102 : MS) => j35_14 (0 : Int32) S102) fun j34_101 => (if x6 = 0 then (if x12 = 0 then j35_14 (1 : Int32) S else j34_101 S) else j34_101 S)))
set_option maxRecDepth 100000 in
set_option maxHeartbeats 4000000 in
theorem c_X9_blow (l : Launch) (G : Gx) (n : Nat) (this : Nat) (a1 : Nat) (a2 : Int32) (S : MS) (ro : Int32) (So : MS) (hf : f_X9_blow n this a1 a2 S = some (ro, So)) (ok_this : Ok S this 9) (ok_a1 : Ok S a1 3) : Cn G l yX9_blow cX9_blow 14 (some .int) rX9_blow [.ref this, .ref a1, .int a2] S (some (.int ro)) So := by
  refine Cn.of (by decide) (Nat.le_of_ble_eq_true rfl) ?_
  intro p e s m args below meth c hC hname hR ls hl
  have hC : Cx G RX9 cX9_blow 14 (some .int) p s m args meth c := hC
  have hl : lv_has ls 14 [(0, .ref this), (1, .ref a1), (2, .int a2)] := hl
  have hx := hC.x
  have hb := hC.b
  have hS : va_S (gA G) s.heap s.heap [] := va_S.rf
  have hE : Ex S S := Ex.rf S
  unfold f_X9_blow at hf
  refine lv_aload_n hx hb dX9_blow_0 rfl (lv_at hl 0 rfl) ?_
  obtain ⟨q1, hq2, ok_q1, hf⟩ := gR_of hf
  refine gf_RX9_21 hC hR ok_this hq2 dX9_blow_1 ?_
  obtain ⟨q3, hq4, ok_q3, hf⟩ := gR_of hf
  refine gf_RX9_43 hC hR ok_q1 hq4 dX9_blow_4 ?_
  refine lv_iload_n hx hb dX9_blow_7 rfl (lv_at hl 2 rfl) ?_
  obtain ⟨hi5, hf⟩ := ck_of hf
  refine r_iald hC hR ok_q3 hi5 dX9_blow_8 ?_
  refine bdi hf (fun x6 hf => ?_)
  refine lv_istore_n (lv' := [(3, .int x6), (0, .ref this), (1, .ref a1), (2, .int a2)]) hx hb dX9_blow_9 rfl hl (by decide) rfl (fun ls hl => ?_)
  refine lv_aload_n hx hb dX9_blow_10 rfl (lv_at hl 1 rfl) ?_
  obtain ⟨q7, hq8, ok_q7, hf⟩ := gR_of hf
  refine gf_RX9_21 hC hR ok_this hq8 dX9_blow_11 ?_
  obtain ⟨q9, hq10, ok_q9, hf⟩ := gR_of hf
  refine gf_RX9_46 hC hR ok_q7 hq10 dX9_blow_14 ?_
  refine lv_iload_n hx hb dX9_blow_17 rfl (lv_at hl 3 rfl) ?_
  obtain ⟨hi11, hf⟩ := ck_of hf
  refine r_iald hC hR ok_q9 hi11 dX9_blow_18 ?_
  refine bdi hf (fun x12 hf => ?_)
  refine lv_istore (lv' := [(4, .int x12), (3, .int x6), (0, .ref this), (1, .ref a1), (2, .int a2)]) hx hb dX9_blow_19 hl (by decide) rfl (fun ls hl => ?_)
  refine lv_iload_n hx hb dX9_blow_21 rfl (lv_at hl 1 rfl) ?_
  obtain ⟨j35_14, ej35_14, hf⟩ := jn_of2 hf
  have hj35_13 : ∀ (x15 : Int32) (S16 : MS) (H : Heap) (locs : List Loc) (ls : Array Slot), j35_14 x15 S16 = some (ro, So) → Rp G S16 H → va_S (gA G) s.heap H locs → Ex S S16 → Ok S16 this 9 → Ok S16 a1 3 → lv_has ls 14 [(0, .ref this), (1, .ref a1), (2, .int a2), (3, .int x6), (4, .int x12)] → W p l e rX9_blow s m args below meth c H locs 0 0 (MQ below (Qn G S (some (.int ro)) So) args s 0 0 (gA G)) (F0 m 35 ls [.int x15]) := by
    intro x15 S16 H locs ls hf hR hS hE ok_this ok_a1 hl
    rw [ej35_14] at hf
    refine lv_istore (lv' := [(5, .int x15), (0, .ref this), (1, .ref a1), (2, .int a2), (3, .int x6), (4, .int x12)]) hx hb dX9_blow_35 hl (by decide) rfl (fun ls hl => ?_)
    refine lv_aload_n hx hb dX9_blow_37 rfl (lv_at hl 1 rfl) ?_
    obtain ⟨q20, S17, hc18, hf⟩ := cl_of hf
    refine cl_RX9_49 (As := []) (rest := []) hC hR hS (c_X9_law l G n this S16 q20 S17 hc18 ok_this) ok_this rfl ⟨Nat.le_of_ble_eq_true rfl, Nat.le_of_ble_eq_true rfl⟩ hl.1 rfl (Nat.le_of_ble_eq_true rfl) dX9_blow_38 (Nat.zero_le _) (Nat.zero_le _) (fun H locs hR hS hE19 => ?_)
    have ok_this := hE19 _ _ ok_this
    have ok_a1 := hE19 _ _ ok_a1
    have hE := hE.tr hE19
    obtain ⟨ok_q20, hf⟩ := gN_of hf
    refine r_astoreO (lv' := [(6, va_rf q20), (5, .int x15), (0, .ref this), (1, .ref a1), (2, .int a2), (3, .int x6), (4, .int x12)]) hx hb dX9_blow_41 hl (by decide) rfl (fun ls hl => ?_)
    refine lv_iconst (v := 0) hx hb dX9_blow_43 (by decide) ?_
    refine lv_istore (lv' := [(7, .int (0 : Int32)), (6, va_rf q20), (5, .int x15), (0, .ref this), (1, .ref a1), (2, .int a2), (3, .int x6), (4, .int x12)]) hx hb dX9_blow_44 hl (by decide) (by cases q20 <;> rfl) (fun ls hl => ?_)
    refine lv_aload_n hx hb dX9_blow_46 rfl (lv_at hl 3 rfl) ?_
    refine lv_aload_n hx hb dX9_blow_47 rfl (lv_at hl 4 rfl) ?_
    refine lv_iload_n hx hb dX9_blow_48 rfl (lv_at hl 6 rfl) ?_
    refine lv_iload hx hb dX9_blow_49 (lv_at hl 7 rfl) ?_
    obtain ⟨S21, hc22, hf⟩ := cv_of hf
    refine cl_RX9_53 (As := [.ref a1, .int x6, .int x12]) (rest := []) hC hR hS (c_X9_putInOrder l G n this a1 x6 x12 S17 S21 hc22 ok_this ok_a1) ok_this rfl ⟨Nat.le_of_ble_eq_true rfl, Nat.le_of_ble_eq_true rfl⟩ hl.1 rfl (Nat.le_of_ble_eq_true rfl) dX9_blow_51 (Nat.zero_le _) (Nat.zero_le _) (fun H locs hR hS hE23 => ?_)
    have ok_this := hE23 _ _ ok_this
    have ok_a1 := hE23 _ _ ok_a1
    have ok_q20 := fun q h => hE23 _ _ (ok_q20 q h)
    have hE := hE.tr hE23
    refine lv_iconst (v := 0) hx hb dX9_blow_54 (by decide) ?_
    refine lv_istore (lv' := [(8, .int (0 : Int32)), (7, .int (0 : Int32)), (6, va_rf q20), (5, .int x15), (0, .ref this), (1, .ref a1), (2, .int a2), (3, .int x6), (4, .int x12)]) hx hb dX9_blow_55 hl (by decide) rfl (fun ls hl => ?_)
    have hh99 : ∀ k : Nat, ∀ (x26 : Int32) (x27 : Int32) (S28 : MS) (H : Heap) (locs : List Loc) (ls : Array Slot), f_X9_blow_L57 n this a1 a2 x6 x12 x15 q20 k x26 x27 S28 = some (ro, So) → Rp G S28 H → va_S (gA G) s.heap H locs → Ex S S28 → Ok S28 this 9 → Ok S28 a1 3 → (∀ q, q20 = some q → Ok S28 q 7) → lv_has ls 14 [(0, .ref this), (1, .ref a1), (2, .int a2), (3, .int x6), (4, .int x12), (5, .int x15), (6, va_rf q20), (7, .int x26), (8, .int x27)] → W p l e rX9_blow s m args below meth c H locs 0 0 (MQ below (Qn G S (some (.int ro)) So) args s 0 0 (gA G)) (F0 m 57 ls []) := by
      intro k
      induction k with
      | zero =>
        intro x26 x27 S28 H locs ls hf hR hS hE ok_this ok_a1 ok_q20 hl
        exact absurd hf (by rw [f_X9_blow_L57]; exact fun h => by cases h)
      | succ k ih =>
        intro x26 x27 S28 H locs ls hf hR hS hE ok_this ok_a1 ok_q20 hl
        rw [f_X9_blow_L57] at hf
        obtain ⟨rec57_25, erec57_25, hf⟩ := jn_of3 hf
        have hL57_24 : ∀ (x26 : Int32) (x27 : Int32) (S28 : MS) (H : Heap) (locs : List Loc) (ls : Array Slot), rec57_25 x26 x27 S28 = some (ro, So) → Rp G S28 H → va_S (gA G) s.heap H locs → Ex S S28 → Ok S28 this 9 → Ok S28 a1 3 → (∀ q, q20 = some q → Ok S28 q 7) → lv_has ls 14 [(0, .ref this), (1, .ref a1), (2, .int a2), (3, .int x6), (4, .int x12), (5, .int x15), (6, va_rf q20), (7, .int x26), (8, .int x27)] → W p l e rX9_blow s m args below meth c H locs 0 0 (MQ below (Qn G S (some (.int ro)) So) args s 0 0 (gA G)) (F0 m 57 ls []) := by
          intro x26 x27 S28 H locs ls hf hR hS hE ok_this ok_a1 ok_q20 hl
          rw [erec57_25] at hf
          exact ih x26 x27 S28 _ _ _ hf hR hS hE ok_this ok_a1 ok_q20 hl
        refine lv_iload hx hb dX9_blow_57 (lv_at hl 8 rfl) ?_
        refine lv_aload_n hx hb dX9_blow_59 rfl (lv_at hl 1 rfl) ?_
        refine gf_RX9_57 hC hR ok_a1 dX9_blow_60 ?_
        refine lv_icmp_ge (tgt := 208) hx hb dX9_blow_63 (by decide) (fun hc => ?_) (fun hc => ?_)
        · replace hf := if_t hf hc
          refine lv_aload_n hx hb dX9_blow_208 rfl (lv_at hl 1 rfl) ?_
          refine lv_dup hx hb dX9_blow_209 rfl ?_
          refine gf_RX9_104 hC hR ok_a1 dX9_blow_210 ?_
          refine lv_iconst (v := 1) hx hb dX9_blow_213 (by decide) ?_
          refine lv_iadd hx hb dX9_blow_214 ?_
          refine pf_RX9_104 hC hR hS ok_a1 dX9_blow_215 hf (fun S29 H locs hf hR hS hE30 => ?_)
          have ok_this := hE30 _ _ ok_this
          have ok_a1 := hE30 _ _ ok_a1
          have ok_q20 := fun q h => hE30 _ _ (ok_q20 q h)
          have hE := hE.tr hE30
          refine lv_iload hx hb dX9_blow_218 (lv_at hl 7 rfl) ?_
          exact r_iret hC hR hS hE hf dX9_blow_220
        · replace hf := if_f hf hc
          refine lv_aload_n hx hb dX9_blow_66 rfl (lv_at hl 0 rfl) ?_
          obtain ⟨q31, hq32, ok_q31, hf⟩ := gR_of hf
          refine gf_RX9_18 hC hR ok_this hq32 dX9_blow_67 ?_
          refine lv_iload hx hb dX9_blow_70 (lv_at hl 8 rfl) ?_
          obtain ⟨hi33, hf⟩ := ck_of hf
          refine r_iald hC hR ok_q31 hi33 dX9_blow_72 ?_
          refine bdi hf (fun x34 hf => ?_)
          refine lv_istore (lv' := [(9, .int x34), (0, .ref this), (1, .ref a1), (2, .int a2), (3, .int x6), (4, .int x12), (5, .int x15), (6, va_rf q20), (7, .int x26), (8, .int x27)]) hx hb dX9_blow_73 hl (by decide) rfl (fun ls hl => ?_)
          refine lv_aload_n hx hb dX9_blow_75 rfl (lv_at hl 2 rfl) ?_
          obtain ⟨q35, hq36, ok_q35, hf⟩ := gR_of hf
          refine gf_RX9_62 hC hR ok_a1 hq36 dX9_blow_76 ?_
          refine lv_iload hx hb dX9_blow_79 (lv_at hl 0 rfl) ?_
          obtain ⟨hi37, hf⟩ := ck_of hf
          refine r_iald hC hR ok_q35 hi37 dX9_blow_81 ?_
          refine bdi hf (fun x38 hf => ?_)
          refine lv_istore (lv' := [(10, .int x38), (9, .int x34), (0, .ref this), (1, .ref a1), (2, .int a2), (3, .int x6), (4, .int x12), (5, .int x15), (6, va_rf q20), (7, .int x26), (8, .int x27)]) hx hb dX9_blow_82 hl (by decide) rfl (fun ls hl => ?_)
          refine lv_iload hx hb dX9_blow_84 (lv_at hl 7 rfl) ?_
          obtain ⟨j113_40, ej113_40, hf⟩ := jn_of2 hf
          have hj113_39 : ∀ (x41 : Int32) (S42 : MS) (H : Heap) (locs : List Loc) (ls : Array Slot), j113_40 x41 S42 = some (ro, So) → Rp G S42 H → va_S (gA G) s.heap H locs → Ex S S42 → Ok S42 this 9 → Ok S42 a1 3 → (∀ q, q20 = some q → Ok S42 q 7) → lv_has ls 14 [(0, .ref this), (1, .ref a1), (2, .int a2), (3, .int x6), (4, .int x12), (5, .int x15), (6, va_rf q20), (7, .int x26), (8, .int x27), (9, .int x34), (10, .int x38)] → W p l e rX9_blow s m args below meth c H locs 0 0 (MQ below (Qn G S (some (.int ro)) So) args s 0 0 (gA G)) (F0 m 113 ls [.int x41]) := by
            intro x41 S42 H locs ls hf hR hS hE ok_this ok_a1 ok_q20 hl
            rw [ej113_40] at hf
            refine lv_istore (lv' := [(11, .int x41), (0, .ref this), (1, .ref a1), (2, .int a2), (3, .int x6), (4, .int x12), (5, .int x15), (6, va_rf q20), (7, .int x26), (8, .int x27), (9, .int x34), (10, .int x38)]) hx hb dX9_blow_113 hl (by decide) rfl (fun ls hl => ?_)
            refine lv_iload hx hb dX9_blow_115 (lv_at hl 0 rfl) ?_
            obtain ⟨j145_44, ej145_44, hf⟩ := jn_of2 hf
            have hj145_43 : ∀ (x45 : Int32) (S46 : MS) (H : Heap) (locs : List Loc) (ls : Array Slot), j145_44 x45 S46 = some (ro, So) → Rp G S46 H → va_S (gA G) s.heap H locs → Ex S S46 → Ok S46 this 9 → Ok S46 a1 3 → (∀ q, q20 = some q → Ok S46 q 7) → lv_has ls 14 [(0, .ref this), (1, .ref a1), (2, .int a2), (3, .int x6), (4, .int x12), (5, .int x15), (6, va_rf q20), (7, .int x26), (8, .int x27), (9, .int x34), (10, .int x38)] → W p l e rX9_blow s m args below meth c H locs 0 0 (MQ below (Qn G S (some (.int ro)) So) args s 0 0 (gA G)) (F0 m 145 ls [.int x45]) := by
              intro x45 S46 H locs ls hf hR hS hE ok_this ok_a1 ok_q20 hl
              rw [ej145_44] at hf
              refine lv_istore (lv' := [(12, .int x45), (0, .ref this), (1, .ref a1), (2, .int a2), (3, .int x6), (4, .int x12), (5, .int x15), (6, va_rf q20), (7, .int x26), (8, .int x27), (9, .int x34), (10, .int x38)]) hx hb dX9_blow_145 hl (by decide) rfl (fun ls hl => ?_)
              refine lv_aload_n hx hb dX9_blow_147 rfl (lv_at hl 2 rfl) ?_
              refine lv_iload hx hb dX9_blow_148 (lv_at hl 11 rfl) ?_
              refine lv_iload hx hb dX9_blow_150 (lv_at hl 0 rfl) ?_
              refine lv_iload_n hx hb dX9_blow_152 rfl (lv_at hl 4 rfl) ?_
              refine lv_iload hx hb dX9_blow_153 (lv_at hl 5 rfl) ?_
              obtain ⟨x50, S47, hc48, hf⟩ := cl_of hf
              refine cl_RX9_87 (As := [.ref a1, .int x38, .int x45, .int x6, .int x12]) (rest := []) hC hR hS (c_X9_reached l G n a1 x38 x45 x6 x12 S46 x50 S47 hc48 ok_a1) rfl ⟨Nat.le_of_ble_eq_true rfl, Nat.le_of_ble_eq_true rfl⟩ hl.1 rfl (Nat.le_of_ble_eq_true rfl) dX9_blow_155 (Nat.zero_le _) (Nat.zero_le _) (fun H locs hR hS hE49 => ?_)
              have ok_this := hE49 _ _ ok_this
              have ok_a1 := hE49 _ _ ok_a1
              have ok_q20 := fun q h => hE49 _ _ (ok_q20 q h)
              have hE := hE.tr hE49
              refine lv_istore (lv' := [(13, .int x50), (12, .int x45), (0, .ref this), (1, .ref a1), (2, .int a2), (3, .int x6), (4, .int x12), (5, .int x15), (6, va_rf q20), (7, .int x26), (8, .int x27), (9, .int x34), (10, .int x38)]) hx hb dX9_blow_158 hl (by decide) rfl (fun ls hl => ?_)
              refine lv_iload hx hb dX9_blow_160 (lv_at hl 0 rfl) ?_
              refine lv_iload hx hb dX9_blow_162 (lv_at hl 12 rfl) ?_
              obtain ⟨j202_52, ej202_52, hf⟩ := jn_of2 hf
              have hj202_51 : ∀ (x53 : Int32) (S54 : MS) (H : Heap) (locs : List Loc) (ls : Array Slot), j202_52 x53 S54 = some (ro, So) → Rp G S54 H → va_S (gA G) s.heap H locs → Ex S S54 → Ok S54 this 9 → Ok S54 a1 3 → (∀ q, q20 = some q → Ok S54 q 7) → lv_has ls 14 [(0, .ref this), (1, .ref a1), (2, .int a2), (3, .int x6), (4, .int x12), (5, .int x15), (6, va_rf q20), (7, .int x53), (8, .int x27)] → W p l e rX9_blow s m args below meth c H locs 0 0 (MQ below (Qn G S (some (.int ro)) So) args s 0 0 (gA G)) (F0 m 202 ls []) := by
                intro x53 S54 H locs ls hf hR hS hE ok_this ok_a1 ok_q20 hl
                rw [ej202_52] at hf
                refine r_iinc (n := 1) (z := 1) (lv' := fun x55 => [(8, .int x55), (0, .ref this), (1, .ref a1), (2, .int a2), (3, .int x6), (4, .int x12), (5, .int x15), (6, va_rf q20), (7, .int x53)]) hx hb dX9_blow_202 hl (k := 8) rfl (by decide) (by decide) (fun _ => rfl) hf (fun x55 ls hf hl => ?_)
                refine lv_goto (tgt := 57) hx hb dX9_blow_205 (by decide) ?_
                exact hL57_24 x53 x55 S54 _ _ _ hf hR hS hE ok_this ok_a1 ok_q20 (lv_sub hl [1, 2, 3, 4, 5, 6, 7, 8, 0] rfl)
              refine lv_icmp_eq (tgt := 181) hx hb dX9_blow_164 (by decide) (fun hc => ?_) (fun hc => ?_)
              · replace hf := if_t hf hc
                refine lv_aload_n hx hb dX9_blow_181 rfl (lv_at hl 3 rfl) ?_
                obtain ⟨q56, hq57, ok_q56, hf⟩ := gR_of hf
                refine gf_RX9_95 hC hR ok_a1 hq57 dX9_blow_182 ?_
                refine lv_iload hx hb dX9_blow_185 (lv_at hl 11 rfl) ?_
                refine lv_bipush (v := 99) hx hb dX9_blow_187 (by decide) ?_
                refine lv_aload_n hx hb dX9_blow_189 rfl (lv_at hl 3 rfl) ?_
                obtain ⟨q58, hq59, ok_q58, hf⟩ := gR_of hf
                refine gf_RX9_95 hC hR ok_a1 hq59 dX9_blow_190 ?_
                refine lv_iload hx hb dX9_blow_193 (lv_at hl 11 rfl) ?_
                obtain ⟨hi60, hf⟩ := ck_of hf
                refine r_iald hC hR ok_q58 hi60 dX9_blow_195 ?_
                refine lv_iconst (v := 1) hx hb dX9_blow_196 (by decide) ?_
                refine lv_iadd hx hb dX9_blow_197 ?_
                refine r_imin (v := (imin (99 : Int32) ((mI S47 q58 x34.toNatClampNeg) + (1 : Int32)))) hC hl.1 (bg40 _ (List.mem_of_getElem? (i := 4) rfl)) rfl (Nat.le_of_ble_eq_true rfl) (Nat.le_of_ble_eq_true rfl) (Nat.zero_le _) (Nat.zero_le _) dX9_blow_198 ?_
                obtain ⟨hi61, hf⟩ := ck_of hf
                refine rB_iast hC hR hS ok_q56 hi61 dX9_blow_201 hf (fun S62 H locs hf hR hS hE63 => ?_)
                have ok_this := hE63 _ _ ok_this
                have ok_a1 := hE63 _ _ ok_a1
                have ok_q20 := fun q h => hE63 _ _ (ok_q20 q h)
                have ok_q56 := hE63 _ _ ok_q56
                have ok_q58 := hE63 _ _ ok_q58
                have hE := hE.tr hE63
                exact hj202_51 x26 S62 _ _ _ hf hR hS hE ok_this ok_a1 ok_q20 (lv_sub hl [2, 3, 4, 5, 6, 7, 8, 9, 10] rfl)
              · replace hf := if_f hf hc
                refine lv_aload_n hx hb dX9_blow_167 rfl (lv_at hl 3 rfl) ?_
                refine lv_iload hx hb dX9_blow_168 (lv_at hl 11 rfl) ?_
                refine lv_iload hx hb dX9_blow_170 (lv_at hl 0 rfl) ?_
                obtain ⟨S64, hc65, hf⟩ := cv_of hf
                refine cl_RX9_91 (As := [.int x34, .int x50]) (rest := []) hC hR hS (c_X3_shift l G n a1 x34 x50 S47 S64 hc65 ok_a1) ok_a1 rfl ⟨Nat.le_of_ble_eq_true rfl, Nat.le_of_ble_eq_true rfl⟩ hl.1 rfl (Nat.le_of_ble_eq_true rfl) dX9_blow_172 (Nat.zero_le _) (Nat.zero_le _) (fun H locs hR hS hE66 => ?_)
                have ok_this := hE66 _ _ ok_this
                have ok_a1 := hE66 _ _ ok_a1
                have ok_q20 := fun q h => hE66 _ _ (ok_q20 q h)
                have hE := hE.tr hE66
                refine r_iinc (n := 1) (z := 1) (lv' := fun x67 => [(7, .int x67), (13, .int x50), (12, .int x45), (0, .ref this), (1, .ref a1), (2, .int a2), (3, .int x6), (4, .int x12), (5, .int x15), (6, va_rf q20), (8, .int x27), (9, .int x34), (10, .int x38)]) hx hb dX9_blow_175 hl (k := 9) rfl (by decide) (by decide) (fun _ => (by cases q20 <;> rfl)) hf (fun x67 ls hf hl => ?_)
                refine lv_goto (tgt := 202) hx hb dX9_blow_178 (by decide) ?_
                exact hj202_51 x67 S64 _ _ _ hf hR hS hE ok_this ok_a1 ok_q20 (lv_sub hl [3, 4, 5, 6, 7, 8, 9, 0, 10] rfl)
            refine lv_if_eq (tgt := 124) hx hb dX9_blow_117 (by decide) (fun hc => ?_) (fun hc => ?_)
            · replace hf := if_t hf hc
              refine lv_aload_n hx hb dX9_blow_124 rfl (lv_at hl 1 rfl) ?_
              obtain ⟨q70, hq71, ok_q70, hf⟩ := gR_of hf
              refine gf_RX9_29 hC hR ok_this hq71 dX9_blow_125 ?_
              refine lv_aload_n hx hb dX9_blow_128 rfl (lv_at hl 2 rfl) ?_
              refine lv_iload hx hb dX9_blow_129 (lv_at hl 10 rfl) ?_
              refine lv_aload_n hx hb dX9_blow_131 rfl (lv_at hl 1 rfl) ?_
              obtain ⟨q72, hq73, ok_q72, hf⟩ := gR_of hf
              refine gf_RX9_21 hC hR ok_this hq73 dX9_blow_132 ?_
              obtain ⟨q74, hq75, ok_q74, hf⟩ := gR_of hf
              refine gf_RX9_78 hC hR ok_q72 hq75 dX9_blow_135 ?_
              refine lv_iload_n hx hb dX9_blow_138 rfl (lv_at hl 3 rfl) ?_
              obtain ⟨hi76, hf⟩ := ck_of hf
              refine r_iald hC hR ok_q74 hi76 dX9_blow_139 ?_
              refine r_aloadO hx hb dX9_blow_140 (lv_at hl 7 rfl) ?_
              obtain ⟨x80, S77, hc78, hf⟩ := cl_of hf
              refine cl_RX9_81 (As := [.ref a1, .int x34, .int (mI S42 q74 a2.toNatClampNeg), va_rf q20]) (rest := []) hC hR hS (c_X5_stepsBy l G n q70 a1 x34 (mI S42 q74 a2.toNatClampNeg) q20 S42 x80 S77 hc78 ok_q70 ok_a1 ok_q20) ok_q70 rfl ⟨Nat.le_of_ble_eq_true rfl, Nat.le_of_ble_eq_true rfl⟩ hl.1 rfl (Nat.le_of_ble_eq_true rfl) dX9_blow_142 (Nat.zero_le _) (Nat.zero_le _) (fun H locs hR hS hE79 => ?_)
              have ok_this := hE79 _ _ ok_this
              have ok_a1 := hE79 _ _ ok_a1
              have ok_q20 := fun q h => hE79 _ _ (ok_q20 q h)
              have ok_q70 := hE79 _ _ ok_q70
              have ok_q72 := hE79 _ _ ok_q72
              have ok_q74 := hE79 _ _ ok_q74
              have hE := hE.tr hE79
              exact hj145_43 x80 S77 _ _ _ hf hR hS hE ok_this ok_a1 ok_q20 (lv_sub hl [1, 2, 3, 4, 5, 6, 7, 8, 9, 10, 11] rfl)
            · replace hf := if_f hf hc
              refine lv_iconst (v := 0) hx hb dX9_blow_120 (by decide) ?_
              refine lv_goto (tgt := 145) hx hb dX9_blow_121 (by decide) ?_
              exact hj145_43 (0 : Int32) S42 _ _ _ hf hR hS hE ok_this ok_a1 ok_q20 (lv_sub hl [1, 2, 3, 4, 5, 6, 7, 8, 9, 10, 11] rfl)
          obtain ⟨j108_84, ej108_84, hf⟩ := jn_of1 hf
          have hj108_83 : ∀ (S85 : MS) (H : Heap) (locs : List Loc) (ls : Array Slot), j108_84 S85 = some (ro, So) → Rp G S85 H → va_S (gA G) s.heap H locs → Ex S S85 → Ok S85 this 9 → Ok S85 a1 3 → (∀ q, q20 = some q → Ok S85 q 7) → lv_has ls 14 [(0, .ref this), (1, .ref a1), (2, .int a2), (3, .int x6), (4, .int x12), (5, .int x15), (6, va_rf q20), (7, .int x26), (8, .int x27), (9, .int x34), (10, .int x38)] → W p l e rX9_blow s m args below meth c H locs 0 0 (MQ below (Qn G S (some (.int ro)) So) args s 0 0 (gA G)) (F0 m 108 ls []) := by
            intro S85 H locs ls hf hR hS hE ok_this ok_a1 ok_q20 hl
            rw [ej108_84] at hf
            refine lv_iconst (v := 1) hx hb dX9_blow_108 (by decide) ?_
            refine lv_goto (tgt := 113) hx hb dX9_blow_109 (by decide) ?_
            exact hj113_39 (1 : Int32) S85 _ _ _ hf hR hS hE ok_this ok_a1 ok_q20 (lv_sub hl [0, 1, 2, 3, 4, 5, 6, 7, 8, 9, 10] rfl)
          refine lv_if_ne (tgt := 108) hx hb dX9_blow_86 (by decide) (fun hc => ?_) (fun hc => ?_)
          · replace hf := if_f hf hc
            exact hj108_83 S28 _ _ _ hf hR hS hE ok_this ok_a1 ok_q20 (lv_sub hl [2, 3, 4, 5, 6, 7, 8, 9, 10, 1, 0] rfl)
          · replace hf := if_t hf hc
            refine lv_aload_n hx hb dX9_blow_89 rfl (lv_at hl 3 rfl) ?_
            refine lv_aload_n hx hb dX9_blow_90 rfl (lv_at hl 3 rfl) ?_
            obtain ⟨q86, hq87, ok_q86, hf⟩ := gR_of hf
            refine gf_RX9_65 hC hR ok_a1 hq87 dX9_blow_91 ?_
            refine lv_iload hx hb dX9_blow_94 (lv_at hl 0 rfl) ?_
            refine lv_iload_n hx hb dX9_blow_96 rfl (lv_at hl 5 rfl) ?_
            refine lv_iload hx hb dX9_blow_97 (lv_at hl 6 rfl) ?_
            obtain ⟨x91, S88, hc89, hf⟩ := cl_of hf
            refine cl_RX9_69 (As := [.int x38, .int x6, .int x12]) (rest := [.ref a1]) hC hR hS (c_X1_cellBeside l G n q86 x38 x6 x12 S28 x91 S88 hc89 ok_q86) ok_q86 rfl ⟨Nat.le_of_ble_eq_true rfl, Nat.le_of_ble_eq_true rfl⟩ hl.1 rfl (Nat.le_of_ble_eq_true rfl) dX9_blow_99 (Nat.zero_le _) (Nat.zero_le _) (fun H locs hR hS hE90 => ?_)
            have ok_this := hE90 _ _ ok_this
            have ok_a1 := hE90 _ _ ok_a1
            have ok_q20 := fun q h => hE90 _ _ (ok_q20 q h)
            have ok_q31 := hE90 _ _ ok_q31
            have ok_q35 := hE90 _ _ ok_q35
            have ok_q86 := hE90 _ _ ok_q86
            have hE := hE.tr hE90
            obtain ⟨x95, S92, hc93, hf⟩ := cl_of hf
            refine cl_RX9_75 (As := [.int x91]) (rest := []) hC hR hS (c_X3_isOpen l G n a1 x91 S88 x95 S92 hc93 ok_a1) ok_a1 rfl ⟨Nat.le_of_ble_eq_true rfl, Nat.le_of_ble_eq_true rfl⟩ hl.1 rfl (Nat.le_of_ble_eq_true rfl) dX9_blow_102 (Nat.zero_le _) (Nat.zero_le _) (fun H locs hR hS hE94 => ?_)
            have ok_this := hE94 _ _ ok_this
            have ok_a1 := hE94 _ _ ok_a1
            have ok_q20 := fun q h => hE94 _ _ (ok_q20 q h)
            have ok_q31 := hE94 _ _ ok_q31
            have ok_q35 := hE94 _ _ ok_q35
            have ok_q86 := hE94 _ _ ok_q86
            have hE := hE.tr hE94
            refine lv_if_ne (tgt := 112) hx hb dX9_blow_105 (by decide) (fun hc => ?_) (fun hc => ?_)
            · replace hf := if_f hf hc
              refine lv_iconst (v := 0) hx hb dX9_blow_112 (by decide) ?_
              exact hj113_39 (0 : Int32) S92 _ _ _ hf hR hS hE ok_this ok_a1 ok_q20 (lv_sub hl [2, 3, 4, 5, 6, 7, 8, 9, 10, 1, 0] rfl)
            · replace hf := if_t hf hc
              exact hj108_83 S92 _ _ _ hf hR hS hE ok_this ok_a1 ok_q20 (lv_sub hl [2, 3, 4, 5, 6, 7, 8, 9, 10, 1, 0] rfl)
    exact hh99 n (0 : Int32) (0 : Int32) S21 _ _ _ hf hR hS hE ok_this ok_a1 ok_q20 (lv_sub hl [4, 5, 6, 7, 8, 3, 2, 1, 0] rfl)
  obtain ⟨j34_101, ej34_101, hf⟩ := jn_of1 hf
  have hj34_100 : ∀ (S102 : MS) (H : Heap) (locs : List Loc) (ls : Array Slot), j34_101 S102 = some (ro, So) → Rp G S102 H → va_S (gA G) s.heap H locs → Ex S S102 → Ok S102 this 9 → Ok S102 a1 3 → lv_has ls 14 [(0, .ref this), (1, .ref a1), (2, .int a2), (3, .int x6), (4, .int x12)] → W p l e rX9_blow s m args below meth c H locs 0 0 (MQ below (Qn G S (some (.int ro)) So) args s 0 0 (gA G)) (F0 m 34 ls []) := by
    intro S102 H locs ls hf hR hS hE ok_this ok_a1 hl
    rw [ej34_101] at hf
    refine lv_iconst (v := 0) hx hb dX9_blow_34 (by decide) ?_
    exact hj35_13 (0 : Int32) S102 _ _ _ hf hR hS hE ok_this ok_a1 (lv_sub hl [0, 1, 2, 3, 4] rfl)
  refine lv_if_ne (tgt := 34) hx hb dX9_blow_22 (by decide) (fun hc => ?_) (fun hc => ?_)
  · replace hf := if_f hf hc
    exact hj34_100 S _ _ _ hf hR hS hE ok_this ok_a1 (lv_sub hl [2, 3, 4, 1, 0] rfl)
  · replace hf := if_t hf hc
    refine lv_iload hx hb dX9_blow_25 (lv_at hl 0 rfl) ?_
    refine lv_if_ne (tgt := 34) hx hb dX9_blow_27 (by decide) (fun hc => ?_) (fun hc => ?_)
    · replace hf := if_f hf hc
      exact hj34_100 S _ _ _ hf hR hS hE ok_this ok_a1 (lv_sub hl [2, 3, 4, 1, 0] rfl)
    · replace hf := if_t hf hc
      refine lv_iconst (v := 1) hx hb dX9_blow_30 (by decide) ?_
      refine lv_goto (tgt := 35) hx hb dX9_blow_31 (by decide) ?_
      exact hj35_13 (1 : Int32) S _ _ _ hf hR hS hE ok_this ok_a1 (lv_sub hl [2, 3, 4, 1, 0] rfl)
abbrev rX2_gather (fr lo : Nat) : Room := { frames := fr + 5, cells := 0, slots := 0, locals := lo + 141 }
def f_X2_gather_L80 (n : Nat) (this : Nat) (a1 : Int32) (a2 : Int32) (a3 : Int64) (q4 : Nat) (rec : Nat → Int32 → Int32 → Int64 → MS → Option (MS)) : Nat → Int32 → MS → Option (MS)
  | 0, _, _ => none
  | k + 1, x33, S34 => jn (f_X2_gather_L80 n this a1 a2 a3 q4 rec k) fun rec80_32 => gR S34 (mR S34 this 4) 8 fun q35 => (if (mI S34 q35 6) ≤ x33 then some S34 else gR S34 (mR S34 this 4) 8 fun q37 => gR S34 (mR S34 q37 3) 12 fun q39 => ck (inb x33 (mN S34 q39)) (jn (fun (S44 : MS) => bd (x33 + (1 : Int32)) fun x45 => rec80_32 x45 S44) fun j157_43 => (if (mI S34 q39 x33.toNatClampNeg) ≤ 0 then j157_43 S34 else gR S34 (mR S34 this 6) 15 fun q46 => ck (inb (a1 + (1 : Int32)) (mN S34 q46)) (gR S34 (mR S34 q46 (a1 + (1 : Int32)).toNatClampNeg) 3 fun q49 => cv (f_X3_copyFrom n q49 q4 S34) fun S51 => gR S51 (mR S51 this 5) 9 fun q54 => gR S51 (mR S51 this 6) 15 fun q56 => ck (inb (a1 + (1 : Int32)) (mN S51 q56)) (gR S51 (mR S51 q56 (a1 + (1 : Int32)).toNatClampNeg) 3 fun q59 => cl (f_X9_blow n q54 q59 x33 S51) fun x64 S61 => gR S61 (mR S61 this 4) 8 fun q65 => gR S61 (mR S61 q65 3) 12 fun q67 => ck (inb x33 (mN S61 q67)) (cv (rec this (a1 + (1 : Int32)) a2 (a3 * ((mI S61 q67 x33.toNatClampNeg).toInt64)) S61) fun S70 => j157_43 S70))))))
def B_X2_gather (n : Nat) (rec : Nat → Int32 → Int32 → Int64 → MS → Option (MS)) (this : Nat) (a1 : Int32) (a2 : Int32) (a3 : Int64) (S : MS) : Option (MS) :=
  gR S (mR S this 6) 15 fun q1 => ck (inb a1 (mN S q1)) (gR S (mR S q1 a1.toNatClampNeg) 3 fun q4 => jn (fun (S8 : MS) => cl (f_X3_fieldHad n q4 (mI S8 this 7) S8) fun x12 S9 => jn (fun (q15 : Nat) (x16 : Int64) (x17 : Int64) (S18 : MS) => bd (sJ S18 q15 9 (x16 + x17)) fun S19 => cl (f_X3_share n q4 x12 S19) fun x24 S21 => bd (sJ S21 this 10 ((mJ S19 this 10) + (a3 * (x24.toInt64)))) fun S25 => some S25) fun j53_14 => (if (lg_cmp ((lush x12 (mI S9 this 8)) &&& (1 : Int64)) (0 : Int64)) = 0 then j53_14 this (mJ S9 this 9) (0 : Int64) S9 else j53_14 this (mJ S9 this 9) a3 S9)) fun j18_7 => (if a2 ≤ a1 then j18_7 S else (if a1 < (4 : Int32) then f_X2_gather_L80 n this a1 a2 a3 q4 rec n (0 : Int32) S else j18_7 S)))
set_option maxRecDepth 100000 in
set_option maxHeartbeats 4000000 in
theorem o_X2_gather (l : Launch) (G : Gx) (n fr lo : Nat) (rec : Nat → Int32 → Int32 → Int64 → MS → Option (MS)) (hrec : ∀ (this : Nat) (b1 : Int32) (b2 : Int32) (b3 : Int64) (S : MS) (So : MS), rec this b1 b2 b3 S = some So → Ok S this 2 → Cn G l yX2_gather cX2_gather 8 none { frames := fr, cells := 0, slots := 0, locals := lo } [.ref this, .int b1, .int b2, .long b3] S none So) (this : Nat) (a1 : Int32) (a2 : Int32) (a3 : Int64) (S : MS) (So : MS) (hf : B_X2_gather n rec this a1 a2 a3 S = some So) (ok_this : Ok S this 2) : Cn G l yX2_gather cX2_gather 8 none (rX2_gather fr lo) [.ref this, .int a1, .int a2, .long a3] S none So := by
  refine Cn.of (by decide) (Nat.le_of_ble_eq_true rfl) ?_
  intro p e s m args below meth c hC hname hR ls hl
  have hC : Cx G RX2 cX2_gather 8 none p s m args meth c := hC
  have hl : lv_has ls 8 [(0, .ref this), (1, .int a1), (2, .int a2), (3, .long a3)] := hl
  have hx := hC.x
  have hb := hC.b
  have hS : va_S (gA G) s.heap s.heap [] := va_S.rf
  have hE : Ex S S := Ex.rf S
  unfold B_X2_gather at hf
  refine lv_aload_n hx hb dX2_gather_0 rfl (lv_at hl 0 rfl) ?_
  obtain ⟨q1, hq2, ok_q1, hf⟩ := gR_of hf
  refine gf_RX2_11 hC hR ok_this hq2 dX2_gather_1 ?_
  refine lv_iload_n hx hb dX2_gather_4 rfl (lv_at hl 1 rfl) ?_
  obtain ⟨hi3, hf⟩ := ck_of hf
  obtain ⟨q4, hq5, ok_q4, hf⟩ := gR_of hf
  refine r_pald (v := .ref q4) hC hR ok_q1 hi3 dX2_gather_5 (by rw [hq5]; rfl) ?_
  refine lv_astore (lv' := [(5, .ref q4), (0, .ref this), (1, .int a1), (2, .int a2), (3, .long a3)]) hx hb dX2_gather_6 hl (by decide) rfl (fun ls hl => ?_)
  refine lv_iload_n hx hb dX2_gather_8 rfl (lv_at hl 2 rfl) ?_
  refine lv_iload_n hx hb dX2_gather_9 rfl (lv_at hl 3 rfl) ?_
  obtain ⟨j18_7, ej18_7, hf⟩ := jn_of1 hf
  have hj18_6 : ∀ (S8 : MS) (H : Heap) (locs : List Loc) (ls : Array Slot), j18_7 S8 = some So → Rp G S8 H → va_S (gA G) s.heap H locs → Ex S S8 → Ok S8 this 2 → Ok S8 q4 3 → lv_has ls 8 [(0, .ref this), (3, .long a3), (5, .ref q4)] → W p l e (rX2_gather fr lo) s m args below meth c H locs 0 0 (MQ below (Qn G S none So) args s 0 0 (gA G)) (F0 m 18 ls []) := by
    intro S8 H locs ls hf hR hS hE ok_this ok_q4 hl
    rw [ej18_7] at hf
    refine lv_aload hx hb dX2_gather_18 (lv_at hl 2 rfl) ?_
    refine lv_aload_n hx hb dX2_gather_20 rfl (lv_at hl 0 rfl) ?_
    refine gf_RX2_90 hC hR ok_this dX2_gather_21 ?_
    obtain ⟨x12, S9, hc10, hf⟩ := cl_of hf
    refine cl_RX2_96 (As := [.int (mI S8 this 7)]) (rest := []) hC hR hS (c_X3_fieldHad l G n q4 (mI S8 this 7) S8 x12 S9 hc10 ok_q4) ok_q4 rfl ⟨Nat.le_trans (show rX3_fieldHad.frames + 1 ≤ 5 by decide) (Nat.le_add_left _ _), Nat.le_trans (show 8 + (2 + 11) + rX3_fieldHad.locals ≤ 141 by decide) (Nat.le_add_left _ _)⟩ hl.1 rfl (Nat.le_of_ble_eq_true rfl) dX2_gather_24 (Nat.zero_le _) (Nat.zero_le _) (fun H locs hR hS hE11 => ?_)
    have ok_this := hE11 _ _ ok_this
    have ok_q4 := hE11 _ _ ok_q4
    have hE := hE.tr hE11
    refine lv_lstore (lv' := [(6, .long x12), (0, .ref this), (3, .long a3), (5, .ref q4)]) hx hb dX2_gather_27 hl (by decide) rfl (fun ls hl => ?_)
    refine lv_aload_n hx hb dX2_gather_29 rfl (lv_at hl 1 rfl) ?_
    refine lv_dup hx hb dX2_gather_30 rfl ?_
    refine gf_RX2_48 hC hR ok_this dX2_gather_31 ?_
    refine lv_lload hx hb dX2_gather_34 (lv_at hl 0 rfl) ?_
    refine lv_aload_n hx hb dX2_gather_36 rfl (lv_at hl 1 rfl) ?_
    refine gf_RX2_93 hC hR ok_this dX2_gather_37 ?_
    refine lv_lushr (v := (lush x12 (mI S9 this 8))) hx hb dX2_gather_40 rfl ?_
    refine lv_lconst (v := 1) hx hb dX2_gather_41 (by decide) ?_
    refine lv_land hx hb dX2_gather_42 ?_
    refine lv_lconst (v := 0) hx hb dX2_gather_43 (by decide) ?_
    refine W.lcmp hx hb dX2_gather_44 ?_
    obtain ⟨j53_14, ej53_14, hf⟩ := jn_of4 hf
    have hj53_13 : ∀ (q15 : Nat) (x16 : Int64) (x17 : Int64) (S18 : MS) (H : Heap) (locs : List Loc) (ls : Array Slot), j53_14 q15 x16 x17 S18 = some So → Rp G S18 H → va_S (gA G) s.heap H locs → Ex S S18 → Ok S18 this 2 → Ok S18 q4 3 → Ok S18 q15 2 → lv_has ls 8 [(0, .ref this), (3, .long a3), (5, .ref q4), (6, .long x12)] → W p l e (rX2_gather fr lo) s m args below meth c H locs 0 0 (MQ below (Qn G S none So) args s 0 0 (gA G)) (F0 m 53 ls [.long x17, .long x16, .ref q15]) := by
      intro q15 x16 x17 S18 H locs ls hf hR hS hE ok_this ok_q4 ok_q15 hl
      rw [ej53_14] at hf
      refine lv_ladd hx hb dX2_gather_53 ?_
      refine pf_RX2_48 hC hR hS ok_q15 dX2_gather_54 hf (fun S19 H locs hf hR hS hE20 => ?_)
      have ok_this := hE20 _ _ ok_this
      have ok_q4 := hE20 _ _ ok_q4
      have ok_q15 := hE20 _ _ ok_q15
      have hE := hE.tr hE20
      refine lv_aload_n hx hb dX2_gather_57 rfl (lv_at hl 0 rfl) ?_
      refine lv_dup hx hb dX2_gather_58 rfl ?_
      refine gf_RX2_85 hC hR ok_this dX2_gather_59 ?_
      refine lv_lload_n hx hb dX2_gather_62 rfl (lv_at hl 1 rfl) ?_
      refine lv_aload hx hb dX2_gather_63 (lv_at hl 2 rfl) ?_
      refine lv_lload hx hb dX2_gather_65 (lv_at hl 3 rfl) ?_
      obtain ⟨x24, S21, hc22, hf⟩ := cl_of hf
      refine cl_RX2_99 (As := [.long x12]) (rest := [.long a3, .long (mJ S19 this 10), .ref this]) hC hR hS (c_X3_share l G n q4 x12 S19 x24 S21 hc22 ok_q4) ok_q4 rfl ⟨Nat.le_trans (show rX3_share.frames + 1 ≤ 5 by decide) (Nat.le_add_left _ _), Nat.le_trans (show 8 + (4 + 11) + rX3_share.locals ≤ 141 by decide) (Nat.le_add_left _ _)⟩ hl.1 rfl (Nat.le_of_ble_eq_true rfl) dX2_gather_67 (Nat.zero_le _) (Nat.zero_le _) (fun H locs hR hS hE23 => ?_)
      have ok_this := hE23 _ _ ok_this
      have ok_q4 := hE23 _ _ ok_q4
      have ok_q15 := hE23 _ _ ok_q15
      have hE := hE.tr hE23
      refine lv_i2l (v := (x24.toInt64)) hx hb dX2_gather_70 rfl ?_
      refine lv_lmul hx hb dX2_gather_71 ?_
      refine lv_ladd hx hb dX2_gather_72 ?_
      refine pf_RX2_85 hC hR hS ok_this dX2_gather_73 hf (fun S25 H locs hf hR hS hE26 => ?_)
      have ok_this := hE26 _ _ ok_this
      have ok_q4 := hE26 _ _ ok_q4
      have ok_q15 := hE26 _ _ ok_q15
      have hE := hE.tr hE26
      exact r_vret hC hR hS hE hf dX2_gather_76
    refine lv_if_eq (tgt := 52) hx hb dX2_gather_45 (by decide) (fun hc => ?_) (fun hc => ?_)
    · replace hf := if_t hf hc
      refine lv_lconst (v := 0) hx hb dX2_gather_52 (by decide) ?_
      exact hj53_13 this (mJ S9 this 9) (0 : Int64) S9 _ _ _ hf hR hS hE ok_this ok_q4 ok_this (lv_sub hl [1, 2, 3, 0] rfl)
    · replace hf := if_f hf hc
      refine lv_lload_n hx hb dX2_gather_48 rfl (lv_at hl 2 rfl) ?_
      refine lv_goto (tgt := 53) hx hb dX2_gather_49 (by decide) ?_
      exact hj53_13 this (mJ S9 this 9) a3 S9 _ _ _ hf hR hS hE ok_this ok_q4 ok_this (lv_sub hl [1, 2, 3, 0] rfl)
  refine lv_icmp_ge (tgt := 18) hx hb dX2_gather_10 (by decide) (fun hc => ?_) (fun hc => ?_)
  · replace hf := if_t hf hc
    exact hj18_6 S _ _ _ hf hR hS hE ok_this ok_q4 (lv_sub hl [1, 4, 0] rfl)
  · replace hf := if_f hf hc
    refine lv_iload_n hx hb dX2_gather_13 rfl (lv_at hl 2 rfl) ?_
    refine lv_iconst (v := 4) hx hb dX2_gather_14 (by decide) ?_
    refine lv_icmp_lt (tgt := 77) hx hb dX2_gather_15 (by decide) (fun hc => ?_) (fun hc => ?_)
    · replace hf := if_t hf hc
      refine lv_iconst (v := 0) hx hb dX2_gather_77 (by decide) ?_
      refine lv_istore (lv' := [(6, .int (0 : Int32)), (5, .ref q4), (0, .ref this), (1, .int a1), (2, .int a2), (3, .long a3)]) hx hb dX2_gather_78 hl (by decide) rfl (fun ls hl => ?_)
      have hh74 : ∀ k : Nat, ∀ (x33 : Int32) (S34 : MS) (H : Heap) (locs : List Loc) (ls : Array Slot), f_X2_gather_L80 n this a1 a2 a3 q4 rec k x33 S34 = some So → Rp G S34 H → va_S (gA G) s.heap H locs → Ex S S34 → Ok S34 this 2 → Ok S34 q4 3 → lv_has ls 8 [(0, .ref this), (1, .int a1), (2, .int a2), (3, .long a3), (5, .ref q4), (6, .int x33)] → W p l e (rX2_gather fr lo) s m args below meth c H locs 0 0 (MQ below (Qn G S none So) args s 0 0 (gA G)) (F0 m 80 ls []) := by
        intro k
        induction k with
        | zero =>
          intro x33 S34 H locs ls hf hR hS hE ok_this ok_q4 hl
          exact absurd hf (by rw [f_X2_gather_L80]; exact fun h => by cases h)
        | succ k ih =>
          intro x33 S34 H locs ls hf hR hS hE ok_this ok_q4 hl
          rw [f_X2_gather_L80] at hf
          obtain ⟨rec80_32, erec80_32, hf⟩ := jn_of2 hf
          have hL80_31 : ∀ (x33 : Int32) (S34 : MS) (H : Heap) (locs : List Loc) (ls : Array Slot), rec80_32 x33 S34 = some So → Rp G S34 H → va_S (gA G) s.heap H locs → Ex S S34 → Ok S34 this 2 → Ok S34 q4 3 → lv_has ls 8 [(0, .ref this), (1, .int a1), (2, .int a2), (3, .long a3), (5, .ref q4), (6, .int x33)] → W p l e (rX2_gather fr lo) s m args below meth c H locs 0 0 (MQ below (Qn G S none So) args s 0 0 (gA G)) (F0 m 80 ls []) := by
            intro x33 S34 H locs ls hf hR hS hE ok_this ok_q4 hl
            rw [erec80_32] at hf
            exact ih x33 S34 _ _ _ hf hR hS hE ok_this ok_q4 hl
          refine lv_iload hx hb dX2_gather_80 (lv_at hl 5 rfl) ?_
          refine lv_aload_n hx hb dX2_gather_82 rfl (lv_at hl 0 rfl) ?_
          obtain ⟨q35, hq36, ok_q35, hf⟩ := gR_of hf
          refine gf_RX2_21 hC hR ok_this hq36 dX2_gather_83 ?_
          refine gf_RX2_103 hC hR ok_q35 dX2_gather_86 ?_
          refine lv_icmp_ge (tgt := 163) hx hb dX2_gather_89 (by decide) (fun hc => ?_) (fun hc => ?_)
          · replace hf := if_t hf hc
            exact r_vret hC hR hS hE hf dX2_gather_163
          · replace hf := if_f hf hc
            refine lv_aload_n hx hb dX2_gather_92 rfl (lv_at hl 0 rfl) ?_
            obtain ⟨q37, hq38, ok_q37, hf⟩ := gR_of hf
            refine gf_RX2_21 hC hR ok_this hq38 dX2_gather_93 ?_
            obtain ⟨q39, hq40, ok_q39, hf⟩ := gR_of hf
            refine gf_RX2_106 hC hR ok_q37 hq40 dX2_gather_96 ?_
            refine lv_iload hx hb dX2_gather_99 (lv_at hl 5 rfl) ?_
            obtain ⟨hi41, hf⟩ := ck_of hf
            refine r_iald hC hR ok_q39 hi41 dX2_gather_101 ?_
            obtain ⟨j157_43, ej157_43, hf⟩ := jn_of1 hf
            have hj157_42 : ∀ (S44 : MS) (H : Heap) (locs : List Loc) (ls : Array Slot), j157_43 S44 = some So → Rp G S44 H → va_S (gA G) s.heap H locs → Ex S S44 → Ok S44 this 2 → Ok S44 q4 3 → lv_has ls 8 [(0, .ref this), (1, .int a1), (2, .int a2), (3, .long a3), (5, .ref q4), (6, .int x33)] → W p l e (rX2_gather fr lo) s m args below meth c H locs 0 0 (MQ below (Qn G S none So) args s 0 0 (gA G)) (F0 m 157 ls []) := by
              intro S44 H locs ls hf hR hS hE ok_this ok_q4 hl
              rw [ej157_43] at hf
              refine r_iinc (n := 1) (z := 1) (lv' := fun x45 => [(6, .int x45), (0, .ref this), (1, .int a1), (2, .int a2), (3, .long a3), (5, .ref q4)]) hx hb dX2_gather_157 hl (k := 5) rfl (by decide) (by decide) (fun _ => rfl) hf (fun x45 ls hf hl => ?_)
              refine lv_goto (tgt := 80) hx hb dX2_gather_160 (by decide) ?_
              exact hL80_31 x45 S44 _ _ _ hf hR hS hE ok_this ok_q4 (lv_sub hl [1, 2, 3, 4, 5, 0] rfl)
            refine lv_if_le (tgt := 157) hx hb dX2_gather_102 (by decide) (fun hc => ?_) (fun hc => ?_)
            · replace hf := if_t hf hc
              exact hj157_42 S34 _ _ _ hf hR hS hE ok_this ok_q4 (lv_sub hl [0, 1, 2, 3, 4, 5] rfl)
            · replace hf := if_f hf hc
              refine lv_aload_n hx hb dX2_gather_105 rfl (lv_at hl 0 rfl) ?_
              obtain ⟨q46, hq47, ok_q46, hf⟩ := gR_of hf
              refine gf_RX2_11 hC hR ok_this hq47 dX2_gather_106 ?_
              refine lv_iload_n hx hb dX2_gather_109 rfl (lv_at hl 1 rfl) ?_
              refine lv_iconst (v := 1) hx hb dX2_gather_110 (by decide) ?_
              refine lv_iadd hx hb dX2_gather_111 ?_
              obtain ⟨hi48, hf⟩ := ck_of hf
              obtain ⟨q49, hq50, ok_q49, hf⟩ := gR_of hf
              refine r_pald (v := .ref q49) hC hR ok_q46 hi48 dX2_gather_112 (by rw [hq50]; rfl) ?_
              refine lv_aload hx hb dX2_gather_113 (lv_at hl 4 rfl) ?_
              obtain ⟨S51, hc52, hf⟩ := cv_of hf
              refine cl_RX2_36 (As := [.ref q4]) (rest := []) hC hR hS (c_X3_copyFrom l G n q49 q4 S34 S51 hc52 ok_q49 ok_q4) ok_q49 rfl ⟨Nat.le_trans (show rX3_copyFrom.frames + 1 ≤ 5 by decide) (Nat.le_add_left _ _), Nat.le_trans (show 8 + (2 + 11) + rX3_copyFrom.locals ≤ 141 by decide) (Nat.le_add_left _ _)⟩ hl.1 rfl (Nat.le_of_ble_eq_true rfl) dX2_gather_115 (Nat.zero_le _) (Nat.zero_le _) (fun H locs hR hS hE53 => ?_)
              have ok_this := hE53 _ _ ok_this
              have ok_q4 := hE53 _ _ ok_q4
              have ok_q35 := hE53 _ _ ok_q35
              have ok_q37 := hE53 _ _ ok_q37
              have ok_q39 := hE53 _ _ ok_q39
              have ok_q46 := hE53 _ _ ok_q46
              have ok_q49 := hE53 _ _ ok_q49
              have hE := hE.tr hE53
              refine lv_aload_n hx hb dX2_gather_118 rfl (lv_at hl 0 rfl) ?_
              obtain ⟨q54, hq55, ok_q54, hf⟩ := gR_of hf
              refine gf_RX2_25 hC hR ok_this hq55 dX2_gather_119 ?_
              refine lv_aload_n hx hb dX2_gather_122 rfl (lv_at hl 0 rfl) ?_
              obtain ⟨q56, hq57, ok_q56, hf⟩ := gR_of hf
              refine gf_RX2_11 hC hR ok_this hq57 dX2_gather_123 ?_
              refine lv_iload_n hx hb dX2_gather_126 rfl (lv_at hl 1 rfl) ?_
              refine lv_iconst (v := 1) hx hb dX2_gather_127 (by decide) ?_
              refine lv_iadd hx hb dX2_gather_128 ?_
              obtain ⟨hi58, hf⟩ := ck_of hf
              obtain ⟨q59, hq60, ok_q59, hf⟩ := gR_of hf
              refine r_pald (v := .ref q59) hC hR ok_q56 hi58 dX2_gather_129 (by rw [hq60]; rfl) ?_
              refine lv_iload hx hb dX2_gather_130 (lv_at hl 5 rfl) ?_
              obtain ⟨x64, S61, hc62, hf⟩ := cl_of hf
              refine cl_RX2_110 (As := [.ref q59, .int x33]) (rest := []) hC hR hS (c_X9_blow l G n q54 q59 x33 S51 x64 S61 hc62 ok_q54 ok_q59) ok_q54 rfl ⟨Nat.le_trans (show rX9_blow.frames + 1 ≤ 5 by decide) (Nat.le_add_left _ _), Nat.le_trans (show 8 + (14 + 11) + rX9_blow.locals ≤ 141 by decide) (Nat.le_add_left _ _)⟩ hl.1 rfl (Nat.le_of_ble_eq_true rfl) dX2_gather_132 (Nat.zero_le _) (Nat.zero_le _) (fun H locs hR hS hE63 => ?_)
              have ok_this := hE63 _ _ ok_this
              have ok_q4 := hE63 _ _ ok_q4
              have ok_q35 := hE63 _ _ ok_q35
              have ok_q37 := hE63 _ _ ok_q37
              have ok_q39 := hE63 _ _ ok_q39
              have ok_q46 := hE63 _ _ ok_q46
              have ok_q49 := hE63 _ _ ok_q49
              have ok_q54 := hE63 _ _ ok_q54
              have ok_q56 := hE63 _ _ ok_q56
              have ok_q59 := hE63 _ _ ok_q59
              have hE := hE.tr hE63
              refine lv_pop hx hb dX2_gather_135 rfl ?_
              refine lv_aload_n hx hb dX2_gather_136 rfl (lv_at hl 0 rfl) ?_
              refine lv_iload_n hx hb dX2_gather_137 rfl (lv_at hl 1 rfl) ?_
              refine lv_iconst (v := 1) hx hb dX2_gather_138 (by decide) ?_
              refine lv_iadd hx hb dX2_gather_139 ?_
              refine lv_iload_n hx hb dX2_gather_140 rfl (lv_at hl 2 rfl) ?_
              refine lv_lload_n hx hb dX2_gather_141 rfl (lv_at hl 3 rfl) ?_
              refine lv_aload_n hx hb dX2_gather_142 rfl (lv_at hl 0 rfl) ?_
              obtain ⟨q65, hq66, ok_q65, hf⟩ := gR_of hf
              refine gf_RX2_21 hC hR ok_this hq66 dX2_gather_143 ?_
              obtain ⟨q67, hq68, ok_q67, hf⟩ := gR_of hf
              refine gf_RX2_106 hC hR ok_q65 hq68 dX2_gather_146 ?_
              refine lv_iload hx hb dX2_gather_149 (lv_at hl 5 rfl) ?_
              obtain ⟨hi69, hf⟩ := ck_of hf
              refine r_iald hC hR ok_q67 hi69 dX2_gather_151 ?_
              refine lv_i2l (v := ((mI S61 q67 x33.toNatClampNeg).toInt64)) hx hb dX2_gather_152 rfl ?_
              refine lv_lmul hx hb dX2_gather_153 ?_
              obtain ⟨S70, hc71, hf⟩ := cv_of hf
              refine cl_RX2_44 (As := [.int (a1 + (1 : Int32)), .int a2, .long (a3 * ((mI S61 q67 x33.toNatClampNeg).toInt64))]) (rest := []) hC hR hS (hrec this (a1 + (1 : Int32)) a2 (a3 * ((mI S61 q67 x33.toNatClampNeg).toInt64)) S61 S70 hc71 ok_this) ok_this rfl ⟨Nat.add_le_add_left (Nat.le_of_ble_eq_true rfl) _, (by show 8 + (8 + 11) + lo ≤ lo + 141; omega)⟩ hl.1 rfl (Nat.le_of_ble_eq_true rfl) dX2_gather_154 (Nat.zero_le _) (Nat.zero_le _) (fun H locs hR hS hE72 => ?_)
              have ok_this := hE72 _ _ ok_this
              have ok_q4 := hE72 _ _ ok_q4
              have ok_q35 := hE72 _ _ ok_q35
              have ok_q37 := hE72 _ _ ok_q37
              have ok_q39 := hE72 _ _ ok_q39
              have ok_q46 := hE72 _ _ ok_q46
              have ok_q49 := hE72 _ _ ok_q49
              have ok_q54 := hE72 _ _ ok_q54
              have ok_q56 := hE72 _ _ ok_q56
              have ok_q59 := hE72 _ _ ok_q59
              have ok_q65 := hE72 _ _ ok_q65
              have ok_q67 := hE72 _ _ ok_q67
              have hE := hE.tr hE72
              exact hj157_42 S70 _ _ _ hf hR hS hE ok_this ok_q4 (lv_sub hl [0, 1, 2, 3, 4, 5] rfl)
      exact hh74 n (0 : Int32) S _ _ _ hf hR hS hE ok_this ok_q4 (lv_sub hl [2, 3, 4, 5, 1, 0] rfl)
    · replace hf := if_f hf hc
      exact hj18_6 S _ _ _ hf hR hS hE ok_this ok_q4 (lv_sub hl [1, 4, 0] rfl)
def g_X2_gather (n : Nat) : Nat → Nat → Int32 → Int32 → Int64 → MS → Option (MS)
  | 0, _, _, _, _, _ => none
  | d + 1, this, a1, a2, a3, S => B_X2_gather n (g_X2_gather n d) this a1 a2 a3 S
def f_X2_gather (n : Nat) (this : Nat) (a1 : Int32) (a2 : Int32) (a3 : Int64) (S : MS) : Option (MS) := g_X2_gather n 8 this a1 a2 a3 S
theorem g_X2_gather_c (l : Launch) (G : Gx) (n : Nat) : ∀ (d : Nat) (this : Nat) (a1 : Int32) (a2 : Int32) (a3 : Int64) (S : MS) (So : MS), g_X2_gather n d this a1 a2 a3 S = some So → Ok S this 2 → Cn G l yX2_gather cX2_gather 8 none { frames := 5 * d, cells := 0, slots := 0, locals := 141 * d } [.ref this, .int a1, .int a2, .long a3] S none So := by
  intro d
  induction d with
  | zero => intro this a1 a2 a3 S So hf; exact absurd hf (by rw [g_X2_gather]; exact fun h => by cases h)
  | succ d ih =>
    intro this a1 a2 a3 S So hf ok
    rw [g_X2_gather] at hf
    exact o_X2_gather l G n _ _ _ (fun this b1 b2 b3 S So h o => ih this b1 b2 b3 S So h o) this a1 a2 a3 S So hf ok
abbrev rX2_gather8 : Room := { frames := 40, cells := 0, slots := 0, locals := 1128 }
theorem c_X2_gather (l : Launch) (G : Gx) (n : Nat) (this : Nat) (a1 : Int32) (a2 : Int32) (a3 : Int64) (S : MS) (So : MS) (hf : f_X2_gather n this a1 a2 a3 S = some So) (ok_this : Ok S this 2) : Cn G l yX2_gather cX2_gather 8 none rX2_gather8 [.ref this, .int a1, .int a2, .long a3] S none So := g_X2_gather_c l G n 8 this a1 a2 a3 S So hf ok_this
abbrev rX2_weightHad : Room := { frames := 41, cells := 0, slots := 0, locals := 1155 }
def f_X2_weightHad (n : Nat) (this : Nat) (a1 : Int32) (a2 : Int32) (a3 : Int32) (S : MS) : Option (Int64 × MS) :=
  gR S (mR S this 6) 15 fun q1 => ck (inb (0 : Int32) (mN S q1)) (gR S (mR S q1 (0 : Int32).toNatClampNeg) 3 fun q4 => gR S (mR S this 3) 3 fun q6 => cv (f_X3_copyFrom n q4 q6 S) fun S8 => cv (f_X2_aim n this a1 a2 S8) fun S11 => cv (f_X2_gather n this (0 : Int32) a3 (1 : Int64) S11) fun S14 => some ((mJ S14 this 9), S14))
set_option maxRecDepth 100000 in
set_option maxHeartbeats 4000000 in
theorem c_X2_weightHad (l : Launch) (G : Gx) (n : Nat) (this : Nat) (a1 : Int32) (a2 : Int32) (a3 : Int32) (S : MS) (ro : Int64) (So : MS) (hf : f_X2_weightHad n this a1 a2 a3 S = some (ro, So)) (ok_this : Ok S this 2) : Cn G l yX2_weightHad cX2_weightHad 4 (some .long) rX2_weightHad [.ref this, .int a1, .int a2, .int a3] S (some (.long ro)) So := by
  refine Cn.of (by decide) (Nat.le_of_ble_eq_true rfl) ?_
  intro p e s m args below meth c hC hname hR ls hl
  have hC : Cx G RX2 cX2_weightHad 4 (some .long) p s m args meth c := hC
  have hl : lv_has ls 4 [(0, .ref this), (1, .int a1), (2, .int a2), (3, .int a3)] := hl
  have hx := hC.x
  have hb := hC.b
  have hS : va_S (gA G) s.heap s.heap [] := va_S.rf
  have hE : Ex S S := Ex.rf S
  unfold f_X2_weightHad at hf
  refine lv_aload_n hx hb dX2_weightHad_0 rfl (lv_at hl 0 rfl) ?_
  obtain ⟨q1, hq2, ok_q1, hf⟩ := gR_of hf
  refine gf_RX2_11 hC hR ok_this hq2 dX2_weightHad_1 ?_
  refine lv_iconst (v := 0) hx hb dX2_weightHad_4 (by decide) ?_
  obtain ⟨hi3, hf⟩ := ck_of hf
  obtain ⟨q4, hq5, ok_q4, hf⟩ := gR_of hf
  refine r_pald (v := .ref q4) hC hR ok_q1 hi3 dX2_weightHad_5 (by rw [hq5]; rfl) ?_
  refine lv_aload_n hx hb dX2_weightHad_6 rfl (lv_at hl 0 rfl) ?_
  obtain ⟨q6, hq7, ok_q6, hf⟩ := gR_of hf
  refine gf_RX2_17 hC hR ok_this hq7 dX2_weightHad_7 ?_
  obtain ⟨S8, hc9, hf⟩ := cv_of hf
  refine cl_RX2_36 (As := [.ref q6]) (rest := []) hC hR hS (c_X3_copyFrom l G n q4 q6 S S8 hc9 ok_q4 ok_q6) ok_q4 rfl ⟨Nat.le_of_ble_eq_true rfl, Nat.le_of_ble_eq_true rfl⟩ hl.1 rfl (Nat.le_of_ble_eq_true rfl) dX2_weightHad_10 (Nat.zero_le _) (Nat.zero_le _) (fun H locs hR hS hE10 => ?_)
  have ok_this := hE10 _ _ ok_this
  have ok_q1 := hE10 _ _ ok_q1
  have ok_q4 := hE10 _ _ ok_q4
  have ok_q6 := hE10 _ _ ok_q6
  have hE := hE.tr hE10
  refine lv_aload_n hx hb dX2_weightHad_13 rfl (lv_at hl 0 rfl) ?_
  refine lv_iload_n hx hb dX2_weightHad_14 rfl (lv_at hl 1 rfl) ?_
  refine lv_iload_n hx hb dX2_weightHad_15 rfl (lv_at hl 2 rfl) ?_
  obtain ⟨S11, hc12, hf⟩ := cv_of hf
  refine cl_RX2_40 (As := [.int a1, .int a2]) (rest := []) hC hR hS (c_X2_aim l G n this a1 a2 S8 S11 hc12 ok_this) ok_this rfl ⟨Nat.le_of_ble_eq_true rfl, Nat.le_of_ble_eq_true rfl⟩ hl.1 rfl (Nat.le_of_ble_eq_true rfl) dX2_weightHad_16 (Nat.zero_le _) (Nat.zero_le _) (fun H locs hR hS hE13 => ?_)
  have ok_this := hE13 _ _ ok_this
  have ok_q1 := hE13 _ _ ok_q1
  have ok_q4 := hE13 _ _ ok_q4
  have ok_q6 := hE13 _ _ ok_q6
  have hE := hE.tr hE13
  refine lv_aload_n hx hb dX2_weightHad_19 rfl (lv_at hl 0 rfl) ?_
  refine lv_iconst (v := 0) hx hb dX2_weightHad_20 (by decide) ?_
  refine lv_iload_n hx hb dX2_weightHad_21 rfl (lv_at hl 3 rfl) ?_
  refine lv_lconst (v := 1) hx hb dX2_weightHad_22 (by decide) ?_
  obtain ⟨S14, hc15, hf⟩ := cv_of hf
  refine cl_RX2_44 (As := [.int (0 : Int32), .int a3, .long (1 : Int64)]) (rest := []) hC hR hS (c_X2_gather l G n this (0 : Int32) a3 (1 : Int64) S11 S14 hc15 ok_this) ok_this rfl ⟨Nat.le_of_ble_eq_true rfl, Nat.le_of_ble_eq_true rfl⟩ hl.1 rfl (Nat.le_of_ble_eq_true rfl) dX2_weightHad_23 (Nat.zero_le _) (Nat.zero_le _) (fun H locs hR hS hE16 => ?_)
  have ok_this := hE16 _ _ ok_this
  have ok_q1 := hE16 _ _ ok_q1
  have ok_q4 := hE16 _ _ ok_q4
  have ok_q6 := hE16 _ _ ok_q6
  have hE := hE.tr hE16
  refine lv_aload_n hx hb dX2_weightHad_26 rfl (lv_at hl 0 rfl) ?_
  refine gf_RX2_48 hC hR ok_this dX2_weightHad_27 ?_
  exact r_lret hC hR hS hE hf dX2_weightHad_30
abbrev rX8_allChances : Room := { frames := 0, cells := 0, slots := 0, locals := 0 }
def f_X8_allChances_L4 (n : Nat) (this : Nat) : Nat → Int32 → Int32 → MS → Option (Int32 × MS)
  | 0, _, _, _ => none
  | k + 1, x3, x4, S5 => jn (f_X8_allChances_L4 n this k) fun rec4_2 => (if (mI S5 this 6) ≤ x4 then some (x3, S5) else gR S5 (mR S5 this 3) 12 fun q6 => ck (inb x4 (mN S5 q6)) (bd (x3 + (mI S5 q6 x4.toNatClampNeg)) fun x9 => bd (x4 + (1 : Int32)) fun x10 => rec4_2 x9 x10 S5))
def f_X8_allChances (n : Nat) (this : Nat) (S : MS) : Option (Int32 × MS) :=
  f_X8_allChances_L4 n this n (0 : Int32) (0 : Int32) S
set_option maxRecDepth 100000 in
set_option maxHeartbeats 4000000 in
theorem c_X8_allChances (l : Launch) (G : Gx) (n : Nat) (this : Nat) (S : MS) (ro : Int32) (So : MS) (hf : f_X8_allChances n this S = some (ro, So)) (ok_this : Ok S this 8) : Cn G l yX8_allChances cX8_allChances 3 (some .int) rX8_allChances [.ref this] S (some (.int ro)) So := by
  refine Cn.of (by decide) (Nat.le_of_ble_eq_true rfl) ?_
  intro p e s m args below meth c hC hname hR ls hl
  have hC : Cx G RX8 cX8_allChances 3 (some .int) p s m args meth c := hC
  have hl : lv_has ls 3 [(0, .ref this)] := hl
  have hx := hC.x
  have hb := hC.b
  have hS : va_S (gA G) s.heap s.heap [] := va_S.rf
  have hE : Ex S S := Ex.rf S
  unfold f_X8_allChances at hf
  refine lv_iconst (v := 0) hx hb dX8_allChances_0 (by decide) ?_
  refine lv_istore_n (lv' := [(1, .int (0 : Int32)), (0, .ref this)]) hx hb dX8_allChances_1 rfl hl (by decide) rfl (fun ls hl => ?_)
  refine lv_iconst (v := 0) hx hb dX8_allChances_2 (by decide) ?_
  refine lv_istore_n (lv' := [(2, .int (0 : Int32)), (1, .int (0 : Int32)), (0, .ref this)]) hx hb dX8_allChances_3 rfl hl (by decide) rfl (fun ls hl => ?_)
  have hh11 : ∀ k : Nat, ∀ (x3 : Int32) (x4 : Int32) (S5 : MS) (H : Heap) (locs : List Loc) (ls : Array Slot), f_X8_allChances_L4 n this k x3 x4 S5 = some (ro, So) → Rp G S5 H → va_S (gA G) s.heap H locs → Ex S S5 → Ok S5 this 8 → lv_has ls 3 [(0, .ref this), (1, .int x3), (2, .int x4)] → W p l e rX8_allChances s m args below meth c H locs 0 0 (MQ below (Qn G S (some (.int ro)) So) args s 0 0 (gA G)) (F0 m 4 ls []) := by
    intro k
    induction k with
    | zero =>
      intro x3 x4 S5 H locs ls hf hR hS hE ok_this hl
      exact absurd hf (by rw [f_X8_allChances_L4]; exact fun h => by cases h)
    | succ k ih =>
      intro x3 x4 S5 H locs ls hf hR hS hE ok_this hl
      rw [f_X8_allChances_L4] at hf
      obtain ⟨rec4_2, erec4_2, hf⟩ := jn_of3 hf
      have hL4_1 : ∀ (x3 : Int32) (x4 : Int32) (S5 : MS) (H : Heap) (locs : List Loc) (ls : Array Slot), rec4_2 x3 x4 S5 = some (ro, So) → Rp G S5 H → va_S (gA G) s.heap H locs → Ex S S5 → Ok S5 this 8 → lv_has ls 3 [(0, .ref this), (1, .int x3), (2, .int x4)] → W p l e rX8_allChances s m args below meth c H locs 0 0 (MQ below (Qn G S (some (.int ro)) So) args s 0 0 (gA G)) (F0 m 4 ls []) := by
        intro x3 x4 S5 H locs ls hf hR hS hE ok_this hl
        rw [erec4_2] at hf
        exact ih x3 x4 S5 _ _ _ hf hR hS hE ok_this hl
      refine lv_iload_n hx hb dX8_allChances_4 rfl (lv_at hl 2 rfl) ?_
      refine lv_aload_n hx hb dX8_allChances_5 rfl (lv_at hl 0 rfl) ?_
      refine gf_RX8_46 hC hR ok_this dX8_allChances_6 ?_
      refine lv_icmp_ge (tgt := 27) hx hb dX8_allChances_9 (by decide) (fun hc => ?_) (fun hc => ?_)
      · replace hf := if_t hf hc
        refine lv_iload_n hx hb dX8_allChances_27 rfl (lv_at hl 1 rfl) ?_
        exact r_iret hC hR hS hE hf dX8_allChances_28
      · replace hf := if_f hf hc
        refine lv_iload_n hx hb dX8_allChances_12 rfl (lv_at hl 1 rfl) ?_
        refine lv_aload_n hx hb dX8_allChances_13 rfl (lv_at hl 0 rfl) ?_
        obtain ⟨q6, hq7, ok_q6, hf⟩ := gR_of hf
        refine gf_RX8_21 hC hR ok_this hq7 dX8_allChances_14 ?_
        refine lv_iload_n hx hb dX8_allChances_17 rfl (lv_at hl 2 rfl) ?_
        obtain ⟨hi8, hf⟩ := ck_of hf
        refine r_iald hC hR ok_q6 hi8 dX8_allChances_18 ?_
        refine lv_iadd hx hb dX8_allChances_19 ?_
        refine bdi hf (fun x9 hf => ?_)
        refine lv_istore_n (lv' := [(1, .int x9), (0, .ref this), (2, .int x4)]) hx hb dX8_allChances_20 rfl hl (by decide) rfl (fun ls hl => ?_)
        refine r_iinc (n := 1) (z := 1) (lv' := fun x10 => [(2, .int x10), (1, .int x9), (0, .ref this)]) hx hb dX8_allChances_21 hl (k := 2) rfl (by decide) (by decide) (fun _ => rfl) hf (fun x10 ls hf hl => ?_)
        refine lv_goto (tgt := 4) hx hb dX8_allChances_24 (by decide) ?_
        exact hL4_1 x9 x10 S5 _ _ _ hf hR hS hE ok_this (lv_sub hl [2, 1, 0] rfl)
  exact hh11 n (0 : Int32) (0 : Int32) S _ _ _ hf hR hS hE ok_this (lv_sub hl [2, 1, 0] rfl)
abbrev rX8_allWeight : Room := { frames := 1, cells := 0, slots := 0, locals := 22 }
def f_X8_allWeight_L5 (n : Nat) (this : Nat) (a1 : Int32) : Nat → Int64 → Int32 → MS → Option (Int64 × MS)
  | 0, _, _, _ => none
  | k + 1, x3, x4, S5 => jn (f_X8_allWeight_L5 n this a1 k) fun rec5_2 => (if a1 ≤ x4 then some (x3, S5) else cl (f_X8_allChances n this S5) fun x9 S6 => bd (x3 * (x9.toInt64)) fun x10 => bd (x4 + (1 : Int32)) fun x11 => rec5_2 x10 x11 S6)
def f_X8_allWeight (n : Nat) (this : Nat) (a1 : Int32) (S : MS) : Option (Int64 × MS) :=
  f_X8_allWeight_L5 n this a1 n (1 : Int64) (0 : Int32) S
set_option maxRecDepth 100000 in
set_option maxHeartbeats 4000000 in
theorem c_X8_allWeight (l : Launch) (G : Gx) (n : Nat) (this : Nat) (a1 : Int32) (S : MS) (ro : Int64) (So : MS) (hf : f_X8_allWeight n this a1 S = some (ro, So)) (ok_this : Ok S this 8) : Cn G l yX8_allWeight cX8_allWeight 5 (some .long) rX8_allWeight [.ref this, .int a1] S (some (.long ro)) So := by
  refine Cn.of (by decide) (Nat.le_of_ble_eq_true rfl) ?_
  intro p e s m args below meth c hC hname hR ls hl
  have hC : Cx G RX8 cX8_allWeight 5 (some .long) p s m args meth c := hC
  have hl : lv_has ls 5 [(0, .ref this), (1, .int a1)] := hl
  have hx := hC.x
  have hb := hC.b
  have hS : va_S (gA G) s.heap s.heap [] := va_S.rf
  have hE : Ex S S := Ex.rf S
  unfold f_X8_allWeight at hf
  refine lv_lconst (v := 1) hx hb dX8_allWeight_0 (by decide) ?_
  refine lv_lstore_n (lv' := [(2, .long (1 : Int64)), (0, .ref this), (1, .int a1)]) hx hb dX8_allWeight_1 rfl hl (by decide) rfl (fun ls hl => ?_)
  refine lv_iconst (v := 0) hx hb dX8_allWeight_2 (by decide) ?_
  refine lv_istore (lv' := [(4, .int (0 : Int32)), (2, .long (1 : Int64)), (0, .ref this), (1, .int a1)]) hx hb dX8_allWeight_3 hl (by decide) rfl (fun ls hl => ?_)
  have hh12 : ∀ k : Nat, ∀ (x3 : Int64) (x4 : Int32) (S5 : MS) (H : Heap) (locs : List Loc) (ls : Array Slot), f_X8_allWeight_L5 n this a1 k x3 x4 S5 = some (ro, So) → Rp G S5 H → va_S (gA G) s.heap H locs → Ex S S5 → Ok S5 this 8 → lv_has ls 5 [(0, .ref this), (1, .int a1), (2, .long x3), (4, .int x4)] → W p l e rX8_allWeight s m args below meth c H locs 0 0 (MQ below (Qn G S (some (.long ro)) So) args s 0 0 (gA G)) (F0 m 5 ls []) := by
    intro k
    induction k with
    | zero =>
      intro x3 x4 S5 H locs ls hf hR hS hE ok_this hl
      exact absurd hf (by rw [f_X8_allWeight_L5]; exact fun h => by cases h)
    | succ k ih =>
      intro x3 x4 S5 H locs ls hf hR hS hE ok_this hl
      rw [f_X8_allWeight_L5] at hf
      obtain ⟨rec5_2, erec5_2, hf⟩ := jn_of3 hf
      have hL5_1 : ∀ (x3 : Int64) (x4 : Int32) (S5 : MS) (H : Heap) (locs : List Loc) (ls : Array Slot), rec5_2 x3 x4 S5 = some (ro, So) → Rp G S5 H → va_S (gA G) s.heap H locs → Ex S S5 → Ok S5 this 8 → lv_has ls 5 [(0, .ref this), (1, .int a1), (2, .long x3), (4, .int x4)] → W p l e rX8_allWeight s m args below meth c H locs 0 0 (MQ below (Qn G S (some (.long ro)) So) args s 0 0 (gA G)) (F0 m 5 ls []) := by
        intro x3 x4 S5 H locs ls hf hR hS hE ok_this hl
        rw [erec5_2] at hf
        exact ih x3 x4 S5 _ _ _ hf hR hS hE ok_this hl
      refine lv_iload hx hb dX8_allWeight_5 (lv_at hl 3 rfl) ?_
      refine lv_iload_n hx hb dX8_allWeight_7 rfl (lv_at hl 1 rfl) ?_
      refine lv_icmp_ge (tgt := 25) hx hb dX8_allWeight_8 (by decide) (fun hc => ?_) (fun hc => ?_)
      · replace hf := if_t hf hc
        refine lv_lload_n hx hb dX8_allWeight_25 rfl (lv_at hl 2 rfl) ?_
        exact r_lret hC hR hS hE hf dX8_allWeight_26
      · replace hf := if_f hf hc
        refine lv_lload_n hx hb dX8_allWeight_11 rfl (lv_at hl 2 rfl) ?_
        refine lv_aload_n hx hb dX8_allWeight_12 rfl (lv_at hl 0 rfl) ?_
        obtain ⟨x9, S6, hc7, hf⟩ := cl_of hf
        refine cl_RX8_52 (As := []) (rest := [.long x3]) hC hR hS (c_X8_allChances l G n this S5 x9 S6 hc7 ok_this) ok_this rfl ⟨Nat.le_of_ble_eq_true rfl, Nat.le_of_ble_eq_true rfl⟩ hl.1 rfl (Nat.le_of_ble_eq_true rfl) dX8_allWeight_13 (Nat.zero_le _) (Nat.zero_le _) (fun H locs hR hS hE8 => ?_)
        have ok_this := hE8 _ _ ok_this
        have hE := hE.tr hE8
        refine lv_i2l (v := (x9.toInt64)) hx hb dX8_allWeight_16 rfl ?_
        refine lv_lmul hx hb dX8_allWeight_17 ?_
        refine bdl hf (fun x10 hf => ?_)
        refine lv_lstore_n (lv' := [(2, .long x10), (0, .ref this), (1, .int a1), (4, .int x4)]) hx hb dX8_allWeight_18 rfl hl (by decide) rfl (fun ls hl => ?_)
        refine r_iinc (n := 1) (z := 1) (lv' := fun x11 => [(4, .int x11), (2, .long x10), (0, .ref this), (1, .int a1)]) hx hb dX8_allWeight_19 hl (k := 3) rfl (by decide) (by decide) (fun _ => rfl) hf (fun x11 ls hf hl => ?_)
        refine lv_goto (tgt := 5) hx hb dX8_allWeight_22 (by decide) ?_
        exact hL5_1 x10 x11 S6 _ _ _ hf hR hS hE ok_this (lv_sub hl [2, 3, 1, 0] rfl)
  exact hh12 n (1 : Int64) (0 : Int32) S _ _ _ hf hR hS hE ok_this (lv_sub hl [2, 3, 1, 0] rfl)
abbrev rX2_meanOfTried : Room := { frames := 41, cells := 0, slots := 0, locals := 1155 }
def f_X2_meanOfTried (n : Nat) (this : Nat) (a1 : Int32) (a2 : Int32) (S : MS) : Option (Int32 × MS) :=
  gR S (mR S this 4) 8 fun q1 => cl (f_X8_allWeight n q1 a2 S) fun x6 S3 => (if (lg_cmp x6 (0 : Int64)) = 0 then some ((0 : Int32), S3) else cv (f_X2_aim n this a1 (0 : Int32) S3) fun S7 => cv (f_X2_gather n this (0 : Int32) a2 (1 : Int64) S7) fun S10 => dvl x6 (some (((((mJ S10 this 10) * (1000 : Int64)) / x6).toInt32), S10)))
set_option maxRecDepth 100000 in
set_option maxHeartbeats 4000000 in
theorem c_X2_meanOfTried (l : Launch) (G : Gx) (n : Nat) (this : Nat) (a1 : Int32) (a2 : Int32) (S : MS) (ro : Int32) (So : MS) (hf : f_X2_meanOfTried n this a1 a2 S = some (ro, So)) (ok_this : Ok S this 2) : Cn G l yX2_meanOfTried cX2_meanOfTried 5 (some .int) rX2_meanOfTried [.ref this, .int a1, .int a2] S (some (.int ro)) So := by
  refine Cn.of (by decide) (Nat.le_of_ble_eq_true rfl) ?_
  intro p e s m args below meth c hC hname hR ls hl
  have hC : Cx G RX2 cX2_meanOfTried 5 (some .int) p s m args meth c := hC
  have hl : lv_has ls 5 [(0, .ref this), (1, .int a1), (2, .int a2)] := hl
  have hx := hC.x
  have hb := hC.b
  have hS : va_S (gA G) s.heap s.heap [] := va_S.rf
  have hE : Ex S S := Ex.rf S
  unfold f_X2_meanOfTried at hf
  refine lv_aload_n hx hb dX2_meanOfTried_0 rfl (lv_at hl 0 rfl) ?_
  obtain ⟨q1, hq2, ok_q1, hf⟩ := gR_of hf
  refine gf_RX2_21 hC hR ok_this hq2 dX2_meanOfTried_1 ?_
  refine lv_iload_n hx hb dX2_meanOfTried_4 rfl (lv_at hl 2 rfl) ?_
  obtain ⟨x6, S3, hc4, hf⟩ := cl_of hf
  refine cl_RX2_79 (As := [.int a2]) (rest := []) hC hR hS (c_X8_allWeight l G n q1 a2 S x6 S3 hc4 ok_q1) ok_q1 rfl ⟨Nat.le_of_ble_eq_true rfl, Nat.le_of_ble_eq_true rfl⟩ hl.1 rfl (Nat.le_of_ble_eq_true rfl) dX2_meanOfTried_5 (Nat.zero_le _) (Nat.zero_le _) (fun H locs hR hS hE5 => ?_)
  have ok_this := hE5 _ _ ok_this
  have ok_q1 := hE5 _ _ ok_q1
  have hE := hE.tr hE5
  refine lv_lstore_n (lv' := [(3, .long x6), (0, .ref this), (1, .int a1), (2, .int a2)]) hx hb dX2_meanOfTried_8 rfl hl (by decide) rfl (fun ls hl => ?_)
  refine lv_lload_n hx hb dX2_meanOfTried_9 rfl (lv_at hl 0 rfl) ?_
  refine lv_lconst (v := 0) hx hb dX2_meanOfTried_10 (by decide) ?_
  refine W.lcmp hx hb dX2_meanOfTried_11 ?_
  refine lv_if_ne (tgt := 17) hx hb dX2_meanOfTried_12 (by decide) (fun hc => ?_) (fun hc => ?_)
  · replace hf := if_f hf hc
    refine lv_aload_n hx hb dX2_meanOfTried_17 rfl (lv_at hl 1 rfl) ?_
    refine lv_iload_n hx hb dX2_meanOfTried_18 rfl (lv_at hl 2 rfl) ?_
    refine lv_iconst (v := 0) hx hb dX2_meanOfTried_19 (by decide) ?_
    obtain ⟨S7, hc8, hf⟩ := cv_of hf
    refine cl_RX2_40 (As := [.int a1, .int (0 : Int32)]) (rest := []) hC hR hS (c_X2_aim l G n this a1 (0 : Int32) S3 S7 hc8 ok_this) ok_this rfl ⟨Nat.le_of_ble_eq_true rfl, Nat.le_of_ble_eq_true rfl⟩ hl.1 rfl (Nat.le_of_ble_eq_true rfl) dX2_meanOfTried_20 (Nat.zero_le _) (Nat.zero_le _) (fun H locs hR hS hE9 => ?_)
    have ok_this := hE9 _ _ ok_this
    have ok_q1 := hE9 _ _ ok_q1
    have hE := hE.tr hE9
    refine lv_aload_n hx hb dX2_meanOfTried_23 rfl (lv_at hl 1 rfl) ?_
    refine lv_iconst (v := 0) hx hb dX2_meanOfTried_24 (by decide) ?_
    refine lv_iload_n hx hb dX2_meanOfTried_25 rfl (lv_at hl 3 rfl) ?_
    refine lv_lconst (v := 1) hx hb dX2_meanOfTried_26 (by decide) ?_
    obtain ⟨S10, hc11, hf⟩ := cv_of hf
    refine cl_RX2_44 (As := [.int (0 : Int32), .int a2, .long (1 : Int64)]) (rest := []) hC hR hS (c_X2_gather l G n this (0 : Int32) a2 (1 : Int64) S7 S10 hc11 ok_this) ok_this rfl ⟨Nat.le_of_ble_eq_true rfl, Nat.le_of_ble_eq_true rfl⟩ hl.1 rfl (Nat.le_of_ble_eq_true rfl) dX2_meanOfTried_27 (Nat.zero_le _) (Nat.zero_le _) (fun H locs hR hS hE12 => ?_)
    have ok_this := hE12 _ _ ok_this
    have ok_q1 := hE12 _ _ ok_q1
    have hE := hE.tr hE12
    refine lv_aload_n hx hb dX2_meanOfTried_30 rfl (lv_at hl 1 rfl) ?_
    refine gf_RX2_85 hC hR ok_this dX2_meanOfTried_31 ?_
    refine lv_ldc2 (v := 1000) hx hb hC.ow (hC.ts _ (bg47 _ (List.mem_of_getElem? (i := 22) rfl))) dX2_meanOfTried_34 ?_
    refine lv_lmul hx hb dX2_meanOfTried_37 ?_
    refine lv_lload_n hx hb dX2_meanOfTried_38 rfl (lv_at hl 0 rfl) ?_
    obtain ⟨hn13, hf⟩ := dvl_of hf
    refine lv_ldiv hx hb dX2_meanOfTried_39 hn13 ?_
    refine lv_l2i (v := ((((mJ S10 this 10) * (1000 : Int64)) / x6).toInt32)) hx hb dX2_meanOfTried_40 rfl ?_
    exact r_iret hC hR hS hE hf dX2_meanOfTried_41
  · replace hf := if_t hf hc
    refine lv_iconst (v := 0) hx hb dX2_meanOfTried_15 (by decide) ?_
    exact r_iret hC hR hS hE hf dX2_meanOfTried_16
abbrev rX2_meanNow : Room := { frames := 42, cells := 0, slots := 0, locals := 1179 }
def f_X2_meanNow (n : Nat) (this : Nat) (a1 : Int32) (a2 : Int32) (S : MS) : Option (Int32 × MS) :=
  gR S (mR S this 6) 15 fun q1 => ck (inb (0 : Int32) (mN S q1)) (gR S (mR S q1 (0 : Int32).toNatClampNeg) 3 fun q4 => gR S (mR S this 3) 3 fun q6 => cv (f_X3_copyFrom n q4 q6 S) fun S8 => cl (f_X2_meanOfTried n this a1 a2 S8) fun x14 S11 => some (x14, S11))
set_option maxRecDepth 100000 in
set_option maxHeartbeats 4000000 in
theorem c_X2_meanNow (l : Launch) (G : Gx) (n : Nat) (this : Nat) (a1 : Int32) (a2 : Int32) (S : MS) (ro : Int32) (So : MS) (hf : f_X2_meanNow n this a1 a2 S = some (ro, So)) (ok_this : Ok S this 2) : Cn G l yX2_meanNow cX2_meanNow 3 (some .int) rX2_meanNow [.ref this, .int a1, .int a2] S (some (.int ro)) So := by
  refine Cn.of (by decide) (Nat.le_of_ble_eq_true rfl) ?_
  intro p e s m args below meth c hC hname hR ls hl
  have hC : Cx G RX2 cX2_meanNow 3 (some .int) p s m args meth c := hC
  have hl : lv_has ls 3 [(0, .ref this), (1, .int a1), (2, .int a2)] := hl
  have hx := hC.x
  have hb := hC.b
  have hS : va_S (gA G) s.heap s.heap [] := va_S.rf
  have hE : Ex S S := Ex.rf S
  unfold f_X2_meanNow at hf
  refine lv_aload_n hx hb dX2_meanNow_0 rfl (lv_at hl 0 rfl) ?_
  obtain ⟨q1, hq2, ok_q1, hf⟩ := gR_of hf
  refine gf_RX2_11 hC hR ok_this hq2 dX2_meanNow_1 ?_
  refine lv_iconst (v := 0) hx hb dX2_meanNow_4 (by decide) ?_
  obtain ⟨hi3, hf⟩ := ck_of hf
  obtain ⟨q4, hq5, ok_q4, hf⟩ := gR_of hf
  refine r_pald (v := .ref q4) hC hR ok_q1 hi3 dX2_meanNow_5 (by rw [hq5]; rfl) ?_
  refine lv_aload_n hx hb dX2_meanNow_6 rfl (lv_at hl 0 rfl) ?_
  obtain ⟨q6, hq7, ok_q6, hf⟩ := gR_of hf
  refine gf_RX2_17 hC hR ok_this hq7 dX2_meanNow_7 ?_
  obtain ⟨S8, hc9, hf⟩ := cv_of hf
  refine cl_RX2_36 (As := [.ref q6]) (rest := []) hC hR hS (c_X3_copyFrom l G n q4 q6 S S8 hc9 ok_q4 ok_q6) ok_q4 rfl ⟨Nat.le_of_ble_eq_true rfl, Nat.le_of_ble_eq_true rfl⟩ hl.1 rfl (Nat.le_of_ble_eq_true rfl) dX2_meanNow_10 (Nat.zero_le _) (Nat.zero_le _) (fun H locs hR hS hE10 => ?_)
  have ok_this := hE10 _ _ ok_this
  have ok_q1 := hE10 _ _ ok_q1
  have ok_q4 := hE10 _ _ ok_q4
  have ok_q6 := hE10 _ _ ok_q6
  have hE := hE.tr hE10
  refine lv_aload_n hx hb dX2_meanNow_13 rfl (lv_at hl 0 rfl) ?_
  refine lv_iload_n hx hb dX2_meanNow_14 rfl (lv_at hl 1 rfl) ?_
  refine lv_iload_n hx hb dX2_meanNow_15 rfl (lv_at hl 2 rfl) ?_
  obtain ⟨x14, S11, hc12, hf⟩ := cl_of hf
  refine cl_RX2_52 (As := [.int a1, .int a2]) (rest := []) hC hR hS (c_X2_meanOfTried l G n this a1 a2 S8 x14 S11 hc12 ok_this) ok_this rfl ⟨Nat.le_of_ble_eq_true rfl, Nat.le_of_ble_eq_true rfl⟩ hl.1 rfl (Nat.le_of_ble_eq_true rfl) dX2_meanNow_16 (Nat.zero_le _) (Nat.zero_le _) (fun H locs hR hS hE13 => ?_)
  have ok_this := hE13 _ _ ok_this
  have ok_q1 := hE13 _ _ ok_q1
  have ok_q4 := hE13 _ _ ok_q4
  have ok_q6 := hE13 _ _ ok_q6
  have hE := hE.tr hE13
  exact r_iret hC hR hS hE hf dX2_meanNow_19
abbrev rX2_keepIfBetter : Room := { frames := 0, cells := 0, slots := 0, locals := 0 }
def f_X2_keepIfBetter (_n : Nat) (this : Nat) (a1 : Int32) (a2 : Int32) (a3 : Int32) (S : MS) : Option (MS) :=
  (if a3 ≤ (mI S this 2) then some S else bd (sI S this 0 a1) fun S1 => bd (sI S1 this 1 a2) fun S3 => bd (sI S3 this 2 a3) fun S5 => some S5)
set_option maxRecDepth 100000 in
set_option maxHeartbeats 4000000 in
theorem c_X2_keepIfBetter (l : Launch) (G : Gx) (n : Nat) (this : Nat) (a1 : Int32) (a2 : Int32) (a3 : Int32) (S : MS) (So : MS) (hf : f_X2_keepIfBetter n this a1 a2 a3 S = some So) (ok_this : Ok S this 2) : Cn G l yX2_keepIfBetter cX2_keepIfBetter 4 none rX2_keepIfBetter [.ref this, .int a1, .int a2, .int a3] S none So := by
  refine Cn.of (by decide) (Nat.le_of_ble_eq_true rfl) ?_
  intro p e s m args below meth c hC hname hR ls hl
  have hC : Cx G RX2 cX2_keepIfBetter 4 none p s m args meth c := hC
  have hl : lv_has ls 4 [(0, .ref this), (1, .int a1), (2, .int a2), (3, .int a3)] := hl
  have hx := hC.x
  have hb := hC.b
  have hS : va_S (gA G) s.heap s.heap [] := va_S.rf
  have hE : Ex S S := Ex.rf S
  unfold f_X2_keepIfBetter at hf
  refine lv_iload_n hx hb dX2_keepIfBetter_0 rfl (lv_at hl 3 rfl) ?_
  refine lv_aload_n hx hb dX2_keepIfBetter_1 rfl (lv_at hl 0 rfl) ?_
  refine gf_RX2_63 hC hR ok_this dX2_keepIfBetter_2 ?_
  refine lv_icmp_le (tgt := 23) hx hb dX2_keepIfBetter_5 (by decide) (fun hc => ?_) (fun hc => ?_)
  · replace hf := if_t hf hc
    exact r_vret hC hR hS hE hf dX2_keepIfBetter_23
  · replace hf := if_f hf hc
    refine lv_aload_n hx hb dX2_keepIfBetter_8 rfl (lv_at hl 0 rfl) ?_
    refine lv_iload_n hx hb dX2_keepIfBetter_9 rfl (lv_at hl 1 rfl) ?_
    refine pf_RX2_56 hC hR hS ok_this dX2_keepIfBetter_10 hf (fun S1 H locs hf hR hS hE2 => ?_)
    have ok_this := hE2 _ _ ok_this
    have hE := hE.tr hE2
    refine lv_aload_n hx hb dX2_keepIfBetter_13 rfl (lv_at hl 0 rfl) ?_
    refine lv_iload_n hx hb dX2_keepIfBetter_14 rfl (lv_at hl 2 rfl) ?_
    refine pf_RX2_60 hC hR hS ok_this dX2_keepIfBetter_15 hf (fun S3 H locs hf hR hS hE4 => ?_)
    have ok_this := hE4 _ _ ok_this
    have hE := hE.tr hE4
    refine lv_aload_n hx hb dX2_keepIfBetter_18 rfl (lv_at hl 0 rfl) ?_
    refine lv_iload_n hx hb dX2_keepIfBetter_19 rfl (lv_at hl 3 rfl) ?_
    refine pf_RX2_63 hC hR hS ok_this dX2_keepIfBetter_20 hf (fun S5 H locs hf hR hS hE6 => ?_)
    have ok_this := hE6 _ _ ok_this
    have hE := hE.tr hE6
    exact r_vret hC hR hS hE hf dX2_keepIfBetter_23
abbrev rX3_isBone : Room := { frames := 0, cells := 0, slots := 0, locals := 0 }
def f_X3_isBone (_n : Nat) (this : Nat) (a1 : Int32) (S : MS) : Option (Int32 × MS) :=
  (if a1 < 0 then zb (0 : Int32) (some ((0 : Int32), S)) else (if (mI S this 7) ≤ a1 then zb (0 : Int32) (some ((0 : Int32), S)) else zb (1 : Int32) (some ((1 : Int32), S))))
set_option maxRecDepth 100000 in
set_option maxHeartbeats 4000000 in
theorem c_X3_isBone (l : Launch) (G : Gx) (n : Nat) (this : Nat) (a1 : Int32) (S : MS) (ro : Int32) (So : MS) (hf : f_X3_isBone n this a1 S = some (ro, So)) (ok_this : Ok S this 3) : Cn G l yX3_isBone cX3_isBone 2 (some .boolean) rX3_isBone [.ref this, .int a1] S (some (.int ro)) So := by
  refine Cn.of (by decide) (Nat.le_of_ble_eq_true rfl) ?_
  intro p e s m args below meth c hC hname hR ls hl
  have hC : Cx G RX3 cX3_isBone 2 (some .boolean) p s m args meth c := hC
  have hl : lv_has ls 2 [(0, .ref this), (1, .int a1)] := hl
  have hx := hC.x
  have hb := hC.b
  have hS : va_S (gA G) s.heap s.heap [] := va_S.rf
  have hE : Ex S S := Ex.rf S
  unfold f_X3_isBone at hf
  refine lv_iload_n hx hb dX3_isBone_0 rfl (lv_at hl 1 rfl) ?_
  refine lv_if_lt (tgt := 16) hx hb dX3_isBone_1 (by decide) (fun hc => ?_) (fun hc => ?_)
  · replace hf := if_t hf hc
    refine lv_iconst (v := 0) hx hb dX3_isBone_16 (by decide) ?_
    exact r_zret hC hR hS hE hf dX3_isBone_17
  · replace hf := if_f hf hc
    refine lv_iload_n hx hb dX3_isBone_4 rfl (lv_at hl 1 rfl) ?_
    refine lv_aload_n hx hb dX3_isBone_5 rfl (lv_at hl 0 rfl) ?_
    refine gf_RX3_57 hC hR ok_this dX3_isBone_6 ?_
    refine lv_icmp_ge (tgt := 16) hx hb dX3_isBone_9 (by decide) (fun hc => ?_) (fun hc => ?_)
    · replace hf := if_t hf hc
      refine lv_iconst (v := 0) hx hb dX3_isBone_16 (by decide) ?_
      exact r_zret hC hR hS hE hf dX3_isBone_17
    · replace hf := if_f hf hc
      refine lv_iconst (v := 1) hx hb dX3_isBone_12 (by decide) ?_
      refine lv_goto (tgt := 17) hx hb dX3_isBone_13 (by decide) ?_
      exact r_zret hC hR hS hE hf dX3_isBone_17
abbrev rX3_nightCell : Room := { frames := 2, cells := 0, slots := 0, locals := 45 }
def f_X3_nightCell (n : Nat) (this : Nat) (a1 : Int32) (a2 : Int32) (S : MS) : Option (Int32 × MS) :=
  cl (f_X3_isBone n this a1 S) fun x4 S1 => (if x4 = 0 then some ((-1 : Int32), S1) else (if a2 < 0 then some ((-1 : Int32), S1) else (if a2 ≤ (3 : Int32) then jn (fun (x7 : Int32) (S8 : MS) => jn (fun (x11 : Int32) (S12 : MS) => gR S12 (mR S12 this 0) 1 fun q13 => gR S12 (mR S12 this 1) 12 fun q15 => ck (inb a1 (mN S12 q15)) (cl (f_X1_cellBeside n q13 (mI S12 q15 a1.toNatClampNeg) x7 x11 S12) fun x21 S18 => cl (f_X3_isOpen n this x21 S18) fun x25 S22 => (if x25 = 0 then some ((-1 : Int32), S22) else some (x21, S22)))) fun j57_10 => (if a2 = (2 : Int32) then j57_10 (1 : Int32) S8 else (if a2 = 0 then j57_10 (-1 : Int32) S8 else j57_10 (0 : Int32) S8))) fun j38_6 => (if a2 = (1 : Int32) then j38_6 (1 : Int32) S1 else (if a2 = (3 : Int32) then j38_6 (-1 : Int32) S1 else j38_6 (0 : Int32) S1)) else some ((-1 : Int32), S1))))
set_option maxRecDepth 100000 in
set_option maxHeartbeats 4000000 in
theorem c_X3_nightCell (l : Launch) (G : Gx) (n : Nat) (this : Nat) (a1 : Int32) (a2 : Int32) (S : MS) (ro : Int32) (So : MS) (hf : f_X3_nightCell n this a1 a2 S = some (ro, So)) (ok_this : Ok S this 3) : Cn G l yX3_nightCell cX3_nightCell 6 (some .int) rX3_nightCell [.ref this, .int a1, .int a2] S (some (.int ro)) So := by
  refine Cn.of (by decide) (Nat.le_of_ble_eq_true rfl) ?_
  intro p e s m args below meth c hC hname hR ls hl
  have hC : Cx G RX3 cX3_nightCell 6 (some .int) p s m args meth c := hC
  have hl : lv_has ls 6 [(0, .ref this), (1, .int a1), (2, .int a2)] := hl
  have hx := hC.x
  have hb := hC.b
  have hS : va_S (gA G) s.heap s.heap [] := va_S.rf
  have hE : Ex S S := Ex.rf S
  unfold f_X3_nightCell at hf
  refine lv_aload_n hx hb dX3_nightCell_0 rfl (lv_at hl 0 rfl) ?_
  refine lv_iload_n hx hb dX3_nightCell_1 rfl (lv_at hl 1 rfl) ?_
  obtain ⟨x4, S1, hc2, hf⟩ := cl_of hf
  refine cl_RX3_110 (As := [.int a1]) (rest := []) hC hR hS (c_X3_isBone l G n this a1 S x4 S1 hc2 ok_this) ok_this rfl ⟨Nat.le_of_ble_eq_true rfl, Nat.le_of_ble_eq_true rfl⟩ hl.1 rfl (Nat.le_of_ble_eq_true rfl) dX3_nightCell_2 (Nat.zero_le _) (Nat.zero_le _) (fun H locs hR hS hE3 => ?_)
  have ok_this := hE3 _ _ ok_this
  have hE := hE.tr hE3
  refine lv_if_eq (tgt := 17) hx hb dX3_nightCell_5 (by decide) (fun hc => ?_) (fun hc => ?_)
  · replace hf := if_t hf hc
    refine lv_iconst (v := -1) hx hb dX3_nightCell_17 (by decide) ?_
    exact r_iret hC hR hS hE hf dX3_nightCell_18
  · replace hf := if_f hf hc
    refine lv_iload_n hx hb dX3_nightCell_8 rfl (lv_at hl 2 rfl) ?_
    refine lv_if_lt (tgt := 17) hx hb dX3_nightCell_9 (by decide) (fun hc => ?_) (fun hc => ?_)
    · replace hf := if_t hf hc
      refine lv_iconst (v := -1) hx hb dX3_nightCell_17 (by decide) ?_
      exact r_iret hC hR hS hE hf dX3_nightCell_18
    · replace hf := if_f hf hc
      refine lv_iload_n hx hb dX3_nightCell_12 rfl (lv_at hl 2 rfl) ?_
      refine lv_iconst (v := 3) hx hb dX3_nightCell_13 (by decide) ?_
      refine lv_icmp_le (tgt := 19) hx hb dX3_nightCell_14 (by decide) (fun hc => ?_) (fun hc => ?_)
      · replace hf := if_t hf hc
        refine lv_iload_n hx hb dX3_nightCell_19 rfl (lv_at hl 2 rfl) ?_
        refine lv_iconst (v := 1) hx hb dX3_nightCell_20 (by decide) ?_
        obtain ⟨j38_6, ej38_6, hf⟩ := jn_of2 hf
        have hj38_5 : ∀ (x7 : Int32) (S8 : MS) (H : Heap) (locs : List Loc) (ls : Array Slot), j38_6 x7 S8 = some (ro, So) → Rp G S8 H → va_S (gA G) s.heap H locs → Ex S S8 → Ok S8 this 3 → lv_has ls 6 [(0, .ref this), (1, .int a1), (2, .int a2)] → W p l e rX3_nightCell s m args below meth c H locs 0 0 (MQ below (Qn G S (some (.int ro)) So) args s 0 0 (gA G)) (F0 m 38 ls [.int x7]) := by
          intro x7 S8 H locs ls hf hR hS hE ok_this hl
          rw [ej38_6] at hf
          refine lv_istore_n (lv' := [(3, .int x7), (0, .ref this), (1, .int a1), (2, .int a2)]) hx hb dX3_nightCell_38 rfl hl (by decide) rfl (fun ls hl => ?_)
          refine lv_iload_n hx hb dX3_nightCell_39 rfl (lv_at hl 3 rfl) ?_
          refine lv_iconst (v := 2) hx hb dX3_nightCell_40 (by decide) ?_
          obtain ⟨j57_10, ej57_10, hf⟩ := jn_of2 hf
          have hj57_9 : ∀ (x11 : Int32) (S12 : MS) (H : Heap) (locs : List Loc) (ls : Array Slot), j57_10 x11 S12 = some (ro, So) → Rp G S12 H → va_S (gA G) s.heap H locs → Ex S S12 → Ok S12 this 3 → lv_has ls 6 [(0, .ref this), (1, .int a1), (3, .int x7)] → W p l e rX3_nightCell s m args below meth c H locs 0 0 (MQ below (Qn G S (some (.int ro)) So) args s 0 0 (gA G)) (F0 m 57 ls [.int x11]) := by
            intro x11 S12 H locs ls hf hR hS hE ok_this hl
            rw [ej57_10] at hf
            refine lv_istore (lv' := [(4, .int x11), (0, .ref this), (1, .int a1), (3, .int x7)]) hx hb dX3_nightCell_57 hl (by decide) rfl (fun ls hl => ?_)
            refine lv_aload_n hx hb dX3_nightCell_59 rfl (lv_at hl 1 rfl) ?_
            obtain ⟨q13, hq14, ok_q13, hf⟩ := gR_of hf
            refine gf_RX3_27 hC hR ok_this hq14 dX3_nightCell_60 ?_
            refine lv_aload_n hx hb dX3_nightCell_63 rfl (lv_at hl 1 rfl) ?_
            obtain ⟨q15, hq16, ok_q15, hf⟩ := gR_of hf
            refine gf_RX3_9 hC hR ok_this hq16 dX3_nightCell_64 ?_
            refine lv_iload_n hx hb dX3_nightCell_67 rfl (lv_at hl 2 rfl) ?_
            obtain ⟨hi17, hf⟩ := ck_of hf
            refine r_iald hC hR ok_q15 hi17 dX3_nightCell_68 ?_
            refine lv_iload_n hx hb dX3_nightCell_69 rfl (lv_at hl 3 rfl) ?_
            refine lv_iload hx hb dX3_nightCell_70 (lv_at hl 0 rfl) ?_
            obtain ⟨x21, S18, hc19, hf⟩ := cl_of hf
            refine cl_RX3_113 (As := [.int (mI S12 q15 a1.toNatClampNeg), .int x7, .int x11]) (rest := []) hC hR hS (c_X1_cellBeside l G n q13 (mI S12 q15 a1.toNatClampNeg) x7 x11 S12 x21 S18 hc19 ok_q13) ok_q13 rfl ⟨Nat.le_of_ble_eq_true rfl, Nat.le_of_ble_eq_true rfl⟩ hl.1 rfl (Nat.le_of_ble_eq_true rfl) dX3_nightCell_72 (Nat.zero_le _) (Nat.zero_le _) (fun H locs hR hS hE20 => ?_)
            have ok_this := hE20 _ _ ok_this
            have ok_q13 := hE20 _ _ ok_q13
            have ok_q15 := hE20 _ _ ok_q15
            have hE := hE.tr hE20
            refine lv_istore (lv' := [(5, .int x21), (4, .int x11), (0, .ref this), (1, .int a1), (3, .int x7)]) hx hb dX3_nightCell_75 hl (by decide) rfl (fun ls hl => ?_)
            refine lv_aload_n hx hb dX3_nightCell_77 rfl (lv_at hl 2 rfl) ?_
            refine lv_iload hx hb dX3_nightCell_78 (lv_at hl 0 rfl) ?_
            obtain ⟨x25, S22, hc23, hf⟩ := cl_of hf
            refine cl_RX3_77 (As := [.int x21]) (rest := []) hC hR hS (c_X3_isOpen l G n this x21 S18 x25 S22 hc23 ok_this) ok_this rfl ⟨Nat.le_of_ble_eq_true rfl, Nat.le_of_ble_eq_true rfl⟩ hl.1 rfl (Nat.le_of_ble_eq_true rfl) dX3_nightCell_80 (Nat.zero_le _) (Nat.zero_le _) (fun H locs hR hS hE24 => ?_)
            have ok_this := hE24 _ _ ok_this
            have ok_q13 := hE24 _ _ ok_q13
            have ok_q15 := hE24 _ _ ok_q15
            have hE := hE.tr hE24
            refine lv_if_eq (tgt := 91) hx hb dX3_nightCell_83 (by decide) (fun hc => ?_) (fun hc => ?_)
            · replace hf := if_t hf hc
              refine lv_iconst (v := -1) hx hb dX3_nightCell_91 (by decide) ?_
              exact r_iret hC hR hS hE hf dX3_nightCell_92
            · replace hf := if_f hf hc
              refine lv_iload hx hb dX3_nightCell_86 (lv_at hl 0 rfl) ?_
              refine lv_goto (tgt := 92) hx hb dX3_nightCell_88 (by decide) ?_
              exact r_iret hC hR hS hE hf dX3_nightCell_92
          refine lv_icmp_ne (tgt := 48) hx hb dX3_nightCell_41 (by decide) (fun hc => ?_) (fun hc => ?_)
          · replace hf := if_f hf hc
            refine lv_iload_n hx hb dX3_nightCell_48 rfl (lv_at hl 3 rfl) ?_
            refine lv_if_ne (tgt := 56) hx hb dX3_nightCell_49 (by decide) (fun hc => ?_) (fun hc => ?_)
            · replace hf := if_f hf hc
              refine lv_iconst (v := 0) hx hb dX3_nightCell_56 (by decide) ?_
              exact hj57_9 (0 : Int32) S8 _ _ _ hf hR hS hE ok_this (lv_sub hl [1, 2, 0] rfl)
            · replace hf := if_t hf hc
              refine lv_iconst (v := -1) hx hb dX3_nightCell_52 (by decide) ?_
              refine lv_goto (tgt := 57) hx hb dX3_nightCell_53 (by decide) ?_
              exact hj57_9 (-1 : Int32) S8 _ _ _ hf hR hS hE ok_this (lv_sub hl [1, 2, 0] rfl)
          · replace hf := if_t hf hc
            refine lv_iconst (v := 1) hx hb dX3_nightCell_44 (by decide) ?_
            refine lv_goto (tgt := 57) hx hb dX3_nightCell_45 (by decide) ?_
            exact hj57_9 (1 : Int32) S8 _ _ _ hf hR hS hE ok_this (lv_sub hl [1, 2, 0] rfl)
        refine lv_icmp_ne (tgt := 28) hx hb dX3_nightCell_21 (by decide) (fun hc => ?_) (fun hc => ?_)
        · replace hf := if_f hf hc
          refine lv_iload_n hx hb dX3_nightCell_28 rfl (lv_at hl 2 rfl) ?_
          refine lv_iconst (v := 3) hx hb dX3_nightCell_29 (by decide) ?_
          refine lv_icmp_ne (tgt := 37) hx hb dX3_nightCell_30 (by decide) (fun hc => ?_) (fun hc => ?_)
          · replace hf := if_f hf hc
            refine lv_iconst (v := 0) hx hb dX3_nightCell_37 (by decide) ?_
            exact hj38_5 (0 : Int32) S1 _ _ _ hf hR hS hE ok_this (lv_sub hl [0, 1, 2] rfl)
          · replace hf := if_t hf hc
            refine lv_iconst (v := -1) hx hb dX3_nightCell_33 (by decide) ?_
            refine lv_goto (tgt := 38) hx hb dX3_nightCell_34 (by decide) ?_
            exact hj38_5 (-1 : Int32) S1 _ _ _ hf hR hS hE ok_this (lv_sub hl [0, 1, 2] rfl)
        · replace hf := if_t hf hc
          refine lv_iconst (v := 1) hx hb dX3_nightCell_24 (by decide) ?_
          refine lv_goto (tgt := 38) hx hb dX3_nightCell_25 (by decide) ?_
          exact hj38_5 (1 : Int32) S1 _ _ _ hf hR hS hE ok_this (lv_sub hl [0, 1, 2] rfl)
      · replace hf := if_f hf hc
        refine lv_iconst (v := -1) hx hb dX3_nightCell_17 (by decide) ?_
        exact r_iret hC hR hS hE hf dX3_nightCell_18
abbrev rX2_seekNight : Room := { frames := 42, cells := 0, slots := 0, locals := 1179 }
def f_X2_seekNight_L49 (n : Nat) (this : Nat) (a1 : Int32) (a2 : Int32) (x23 : Int32) (j117_28 : MS → Option (MS)) : Nat → Int32 → MS → Option (MS)
  | 0, _, _ => none
  | k + 1, x33, S34 => jn (f_X2_seekNight_L49 n this a1 a2 x23 j117_28 k) fun rec49_32 => (if (4 : Int32) ≤ x33 then j117_28 S34 else gR S34 (mR S34 this 3) 3 fun q35 => cl (f_X3_nightCell n q35 x23 x33 S34) fun x40 S37 => jn (fun (S43 : MS) => bd (x33 + (1 : Int32)) fun x44 => rec49_32 x44 S43) fun j111_42 => (if x40 = (-1 : Int32) then j111_42 S37 else gR S37 (mR S37 this 6) 15 fun q45 => ck (inb (0 : Int32) (mN S37 q45)) (gR S37 (mR S37 q45 (0 : Int32).toNatClampNeg) 3 fun q48 => gR S37 (mR S37 this 3) 3 fun q50 => cv (f_X3_copyFrom n q48 q50 S37) fun S52 => gR S52 (mR S52 this 6) 15 fun q55 => ck (inb (0 : Int32) (mN S52 q55)) (gR S52 (mR S52 q55 (0 : Int32).toNatClampNeg) 3 fun q58 => cv (f_X3_shift n q58 x23 x40 S52) fun S60 => cl (f_X2_meanOfTried n this a1 a2 S60) fun x66 S63 => cv (f_X2_keepIfBetter n this x23 x33 x66 S63) fun S67 => j111_42 S67))))
def f_X2_seekNight_L35 (n : Nat) (this : Nat) (a1 : Int32) (a2 : Int32) : Nat → Int32 → MS → Option (MS)
  | 0, _, _ => none
  | k + 1, x23, S24 => jn (f_X2_seekNight_L35 n this a1 a2 k) fun rec35_22 => gR S24 (mR S24 this 3) 3 fun q25 => (if (mI S24 q25 7) ≤ x23 then some S24 else jn (fun (S29 : MS) => bd (x23 + (1 : Int32)) fun x30 => rec35_22 x30 S29) fun j117_28 => f_X2_seekNight_L49 n this a1 a2 x23 j117_28 n (0 : Int32) S24)
def f_X2_seekNight (n : Nat) (this : Nat) (a1 : Int32) (a2 : Int32) (S : MS) : Option (MS) :=
  bd (sI S this 0 (-1 : Int32)) fun S1 => bd (sI S1 this 1 (-1 : Int32)) fun S3 => gR S3 (mR S3 this 6) 15 fun q5 => ck (inb (0 : Int32) (mN S3 q5)) (gR S3 (mR S3 q5 (0 : Int32).toNatClampNeg) 3 fun q8 => gR S3 (mR S3 this 3) 3 fun q10 => cv (f_X3_copyFrom n q8 q10 S3) fun S12 => cl (f_X2_meanOfTried n this a1 a2 S12) fun x18 S15 => bd (sI S15 this 2 x18) fun S19 => f_X2_seekNight_L35 n this a1 a2 n (0 : Int32) S19)
set_option maxRecDepth 100000 in
set_option maxHeartbeats 4000000 in
theorem c_X2_seekNight (l : Launch) (G : Gx) (n : Nat) (this : Nat) (a1 : Int32) (a2 : Int32) (S : MS) (So : MS) (hf : f_X2_seekNight n this a1 a2 S = some So) (ok_this : Ok S this 2) : Cn G l yX2_seekNight cX2_seekNight 6 none rX2_seekNight [.ref this, .int a1, .int a2] S none So := by
  refine Cn.of (by decide) (Nat.le_of_ble_eq_true rfl) ?_
  intro p e s m args below meth c hC hname hR ls hl
  have hC : Cx G RX2 cX2_seekNight 6 none p s m args meth c := hC
  have hl : lv_has ls 6 [(0, .ref this), (1, .int a1), (2, .int a2)] := hl
  have hx := hC.x
  have hb := hC.b
  have hS : va_S (gA G) s.heap s.heap [] := va_S.rf
  have hE : Ex S S := Ex.rf S
  unfold f_X2_seekNight at hf
  refine lv_aload_n hx hb dX2_seekNight_0 rfl (lv_at hl 0 rfl) ?_
  refine lv_iconst (v := -1) hx hb dX2_seekNight_1 (by decide) ?_
  refine pf_RX2_56 hC hR hS ok_this dX2_seekNight_2 hf (fun S1 H locs hf hR hS hE2 => ?_)
  have ok_this := hE2 _ _ ok_this
  have hE := hE.tr hE2
  refine lv_aload_n hx hb dX2_seekNight_5 rfl (lv_at hl 0 rfl) ?_
  refine lv_iconst (v := -1) hx hb dX2_seekNight_6 (by decide) ?_
  refine pf_RX2_60 hC hR hS ok_this dX2_seekNight_7 hf (fun S3 H locs hf hR hS hE4 => ?_)
  have ok_this := hE4 _ _ ok_this
  have hE := hE.tr hE4
  refine lv_aload_n hx hb dX2_seekNight_10 rfl (lv_at hl 0 rfl) ?_
  obtain ⟨q5, hq6, ok_q5, hf⟩ := gR_of hf
  refine gf_RX2_11 hC hR ok_this hq6 dX2_seekNight_11 ?_
  refine lv_iconst (v := 0) hx hb dX2_seekNight_14 (by decide) ?_
  obtain ⟨hi7, hf⟩ := ck_of hf
  obtain ⟨q8, hq9, ok_q8, hf⟩ := gR_of hf
  refine r_pald (v := .ref q8) hC hR ok_q5 hi7 dX2_seekNight_15 (by rw [hq9]; rfl) ?_
  refine lv_aload_n hx hb dX2_seekNight_16 rfl (lv_at hl 0 rfl) ?_
  obtain ⟨q10, hq11, ok_q10, hf⟩ := gR_of hf
  refine gf_RX2_17 hC hR ok_this hq11 dX2_seekNight_17 ?_
  obtain ⟨S12, hc13, hf⟩ := cv_of hf
  refine cl_RX2_36 (As := [.ref q10]) (rest := []) hC hR hS (c_X3_copyFrom l G n q8 q10 S3 S12 hc13 ok_q8 ok_q10) ok_q8 rfl ⟨Nat.le_of_ble_eq_true rfl, Nat.le_of_ble_eq_true rfl⟩ hl.1 rfl (Nat.le_of_ble_eq_true rfl) dX2_seekNight_20 (Nat.zero_le _) (Nat.zero_le _) (fun H locs hR hS hE14 => ?_)
  have ok_this := hE14 _ _ ok_this
  have ok_q5 := hE14 _ _ ok_q5
  have ok_q8 := hE14 _ _ ok_q8
  have ok_q10 := hE14 _ _ ok_q10
  have hE := hE.tr hE14
  refine lv_aload_n hx hb dX2_seekNight_23 rfl (lv_at hl 0 rfl) ?_
  refine lv_aload_n hx hb dX2_seekNight_24 rfl (lv_at hl 0 rfl) ?_
  refine lv_iload_n hx hb dX2_seekNight_25 rfl (lv_at hl 1 rfl) ?_
  refine lv_iload_n hx hb dX2_seekNight_26 rfl (lv_at hl 2 rfl) ?_
  obtain ⟨x18, S15, hc16, hf⟩ := cl_of hf
  refine cl_RX2_52 (As := [.int a1, .int a2]) (rest := [.ref this]) hC hR hS (c_X2_meanOfTried l G n this a1 a2 S12 x18 S15 hc16 ok_this) ok_this rfl ⟨Nat.le_of_ble_eq_true rfl, Nat.le_of_ble_eq_true rfl⟩ hl.1 rfl (Nat.le_of_ble_eq_true rfl) dX2_seekNight_27 (Nat.zero_le _) (Nat.zero_le _) (fun H locs hR hS hE17 => ?_)
  have ok_this := hE17 _ _ ok_this
  have ok_q5 := hE17 _ _ ok_q5
  have ok_q8 := hE17 _ _ ok_q8
  have ok_q10 := hE17 _ _ ok_q10
  have hE := hE.tr hE17
  refine pf_RX2_63 hC hR hS ok_this dX2_seekNight_30 hf (fun S19 H locs hf hR hS hE20 => ?_)
  have ok_this := hE20 _ _ ok_this
  have ok_q5 := hE20 _ _ ok_q5
  have ok_q8 := hE20 _ _ ok_q8
  have ok_q10 := hE20 _ _ ok_q10
  have hE := hE.tr hE20
  refine lv_iconst (v := 0) hx hb dX2_seekNight_33 (by decide) ?_
  refine lv_istore_n (lv' := [(3, .int (0 : Int32)), (0, .ref this), (1, .int a1), (2, .int a2)]) hx hb dX2_seekNight_34 rfl hl (by decide) rfl (fun ls hl => ?_)
  have hh73 : ∀ k : Nat, ∀ (x23 : Int32) (S24 : MS) (H : Heap) (locs : List Loc) (ls : Array Slot), f_X2_seekNight_L35 n this a1 a2 k x23 S24 = some So → Rp G S24 H → va_S (gA G) s.heap H locs → Ex S S24 → Ok S24 this 2 → lv_has ls 6 [(0, .ref this), (1, .int a1), (2, .int a2), (3, .int x23)] → W p l e rX2_seekNight s m args below meth c H locs 0 0 (MQ below (Qn G S none So) args s 0 0 (gA G)) (F0 m 35 ls []) := by
    intro k
    induction k with
    | zero =>
      intro x23 S24 H locs ls hf hR hS hE ok_this hl
      exact absurd hf (by rw [f_X2_seekNight_L35]; exact fun h => by cases h)
    | succ k ih =>
      intro x23 S24 H locs ls hf hR hS hE ok_this hl
      rw [f_X2_seekNight_L35] at hf
      obtain ⟨rec35_22, erec35_22, hf⟩ := jn_of2 hf
      have hL35_21 : ∀ (x23 : Int32) (S24 : MS) (H : Heap) (locs : List Loc) (ls : Array Slot), rec35_22 x23 S24 = some So → Rp G S24 H → va_S (gA G) s.heap H locs → Ex S S24 → Ok S24 this 2 → lv_has ls 6 [(0, .ref this), (1, .int a1), (2, .int a2), (3, .int x23)] → W p l e rX2_seekNight s m args below meth c H locs 0 0 (MQ below (Qn G S none So) args s 0 0 (gA G)) (F0 m 35 ls []) := by
        intro x23 S24 H locs ls hf hR hS hE ok_this hl
        rw [erec35_22] at hf
        exact ih x23 S24 _ _ _ hf hR hS hE ok_this hl
      refine lv_iload_n hx hb dX2_seekNight_35 rfl (lv_at hl 3 rfl) ?_
      refine lv_aload_n hx hb dX2_seekNight_36 rfl (lv_at hl 0 rfl) ?_
      obtain ⟨q25, hq26, ok_q25, hf⟩ := gR_of hf
      refine gf_RX2_17 hC hR ok_this hq26 dX2_seekNight_37 ?_
      refine gf_RX2_66 hC hR ok_q25 dX2_seekNight_40 ?_
      refine lv_icmp_ge (tgt := 123) hx hb dX2_seekNight_43 (by decide) (fun hc => ?_) (fun hc => ?_)
      · replace hf := if_t hf hc
        exact r_vret hC hR hS hE hf dX2_seekNight_123
      · replace hf := if_f hf hc
        refine lv_iconst (v := 0) hx hb dX2_seekNight_46 (by decide) ?_
        refine lv_istore (lv' := [(4, .int (0 : Int32)), (0, .ref this), (1, .int a1), (2, .int a2), (3, .int x23)]) hx hb dX2_seekNight_47 hl (by decide) rfl (fun ls hl => ?_)
        obtain ⟨j117_28, ej117_28, hf⟩ := jn_of1 hf
        have hj117_27 : ∀ (S29 : MS) (H : Heap) (locs : List Loc) (ls : Array Slot), j117_28 S29 = some So → Rp G S29 H → va_S (gA G) s.heap H locs → Ex S S29 → Ok S29 this 2 → lv_has ls 6 [(0, .ref this), (1, .int a1), (2, .int a2), (3, .int x23)] → W p l e rX2_seekNight s m args below meth c H locs 0 0 (MQ below (Qn G S none So) args s 0 0 (gA G)) (F0 m 117 ls []) := by
          intro S29 H locs ls hf hR hS hE ok_this hl
          rw [ej117_28] at hf
          refine r_iinc (n := 1) (z := 1) (lv' := fun x30 => [(3, .int x30), (0, .ref this), (1, .int a1), (2, .int a2)]) hx hb dX2_seekNight_117 hl (k := 3) rfl (by decide) (by decide) (fun _ => rfl) hf (fun x30 ls hf hl => ?_)
          refine lv_goto (tgt := 35) hx hb dX2_seekNight_120 (by decide) ?_
          exact hL35_21 x30 S29 _ _ _ hf hR hS hE ok_this (lv_sub hl [1, 2, 3, 0] rfl)
        have hh71 : ∀ k : Nat, ∀ (x33 : Int32) (S34 : MS) (H : Heap) (locs : List Loc) (ls : Array Slot), f_X2_seekNight_L49 n this a1 a2 x23 j117_28 k x33 S34 = some So → Rp G S34 H → va_S (gA G) s.heap H locs → Ex S S34 → Ok S34 this 2 → lv_has ls 6 [(0, .ref this), (1, .int a1), (2, .int a2), (3, .int x23), (4, .int x33)] → W p l e rX2_seekNight s m args below meth c H locs 0 0 (MQ below (Qn G S none So) args s 0 0 (gA G)) (F0 m 49 ls []) := by
          intro k
          induction k with
          | zero =>
            intro x33 S34 H locs ls hf hR hS hE ok_this hl
            exact absurd hf (by rw [f_X2_seekNight_L49]; exact fun h => by cases h)
          | succ k ih =>
            intro x33 S34 H locs ls hf hR hS hE ok_this hl
            rw [f_X2_seekNight_L49] at hf
            obtain ⟨rec49_32, erec49_32, hf⟩ := jn_of2 hf
            have hL49_31 : ∀ (x33 : Int32) (S34 : MS) (H : Heap) (locs : List Loc) (ls : Array Slot), rec49_32 x33 S34 = some So → Rp G S34 H → va_S (gA G) s.heap H locs → Ex S S34 → Ok S34 this 2 → lv_has ls 6 [(0, .ref this), (1, .int a1), (2, .int a2), (3, .int x23), (4, .int x33)] → W p l e rX2_seekNight s m args below meth c H locs 0 0 (MQ below (Qn G S none So) args s 0 0 (gA G)) (F0 m 49 ls []) := by
              intro x33 S34 H locs ls hf hR hS hE ok_this hl
              rw [erec49_32] at hf
              exact ih x33 S34 _ _ _ hf hR hS hE ok_this hl
            refine lv_iload hx hb dX2_seekNight_49 (lv_at hl 4 rfl) ?_
            refine lv_iconst (v := 4) hx hb dX2_seekNight_51 (by decide) ?_
            refine lv_icmp_ge (tgt := 117) hx hb dX2_seekNight_52 (by decide) (fun hc => ?_) (fun hc => ?_)
            · replace hf := if_t hf hc
              exact hj117_27 S34 _ _ _ hf hR hS hE ok_this (lv_sub hl [0, 1, 2, 3] rfl)
            · replace hf := if_f hf hc
              refine lv_aload_n hx hb dX2_seekNight_55 rfl (lv_at hl 0 rfl) ?_
              obtain ⟨q35, hq36, ok_q35, hf⟩ := gR_of hf
              refine gf_RX2_17 hC hR ok_this hq36 dX2_seekNight_56 ?_
              refine lv_iload_n hx hb dX2_seekNight_59 rfl (lv_at hl 3 rfl) ?_
              refine lv_iload hx hb dX2_seekNight_60 (lv_at hl 4 rfl) ?_
              obtain ⟨x40, S37, hc38, hf⟩ := cl_of hf
              refine cl_RX2_69 (As := [.int x23, .int x33]) (rest := []) hC hR hS (c_X3_nightCell l G n q35 x23 x33 S34 x40 S37 hc38 ok_q35) ok_q35 rfl ⟨Nat.le_of_ble_eq_true rfl, Nat.le_of_ble_eq_true rfl⟩ hl.1 rfl (Nat.le_of_ble_eq_true rfl) dX2_seekNight_62 (Nat.zero_le _) (Nat.zero_le _) (fun H locs hR hS hE39 => ?_)
              have ok_this := hE39 _ _ ok_this
              have ok_q35 := hE39 _ _ ok_q35
              have hE := hE.tr hE39
              refine lv_istore (lv' := [(5, .int x40), (0, .ref this), (1, .int a1), (2, .int a2), (3, .int x23), (4, .int x33)]) hx hb dX2_seekNight_65 hl (by decide) rfl (fun ls hl => ?_)
              refine lv_iload hx hb dX2_seekNight_67 (lv_at hl 0 rfl) ?_
              refine lv_iconst (v := -1) hx hb dX2_seekNight_69 (by decide) ?_
              obtain ⟨j111_42, ej111_42, hf⟩ := jn_of1 hf
              have hj111_41 : ∀ (S43 : MS) (H : Heap) (locs : List Loc) (ls : Array Slot), j111_42 S43 = some So → Rp G S43 H → va_S (gA G) s.heap H locs → Ex S S43 → Ok S43 this 2 → lv_has ls 6 [(0, .ref this), (1, .int a1), (2, .int a2), (3, .int x23), (4, .int x33)] → W p l e rX2_seekNight s m args below meth c H locs 0 0 (MQ below (Qn G S none So) args s 0 0 (gA G)) (F0 m 111 ls []) := by
                intro S43 H locs ls hf hR hS hE ok_this hl
                rw [ej111_42] at hf
                refine r_iinc (n := 1) (z := 1) (lv' := fun x44 => [(4, .int x44), (0, .ref this), (1, .int a1), (2, .int a2), (3, .int x23)]) hx hb dX2_seekNight_111 hl (k := 4) rfl (by decide) (by decide) (fun _ => rfl) hf (fun x44 ls hf hl => ?_)
                refine lv_goto (tgt := 49) hx hb dX2_seekNight_114 (by decide) ?_
                exact hL49_31 x44 S43 _ _ _ hf hR hS hE ok_this (lv_sub hl [1, 2, 3, 4, 0] rfl)
              refine lv_icmp_eq (tgt := 111) hx hb dX2_seekNight_70 (by decide) (fun hc => ?_) (fun hc => ?_)
              · replace hf := if_t hf hc
                exact hj111_41 S37 _ _ _ hf hR hS hE ok_this (lv_sub hl [1, 2, 3, 4, 5] rfl)
              · replace hf := if_f hf hc
                refine lv_aload_n hx hb dX2_seekNight_73 rfl (lv_at hl 1 rfl) ?_
                obtain ⟨q45, hq46, ok_q45, hf⟩ := gR_of hf
                refine gf_RX2_11 hC hR ok_this hq46 dX2_seekNight_74 ?_
                refine lv_iconst (v := 0) hx hb dX2_seekNight_77 (by decide) ?_
                obtain ⟨hi47, hf⟩ := ck_of hf
                obtain ⟨q48, hq49, ok_q48, hf⟩ := gR_of hf
                refine r_pald (v := .ref q48) hC hR ok_q45 hi47 dX2_seekNight_78 (by rw [hq49]; rfl) ?_
                refine lv_aload_n hx hb dX2_seekNight_79 rfl (lv_at hl 1 rfl) ?_
                obtain ⟨q50, hq51, ok_q50, hf⟩ := gR_of hf
                refine gf_RX2_17 hC hR ok_this hq51 dX2_seekNight_80 ?_
                obtain ⟨S52, hc53, hf⟩ := cv_of hf
                refine cl_RX2_36 (As := [.ref q50]) (rest := []) hC hR hS (c_X3_copyFrom l G n q48 q50 S37 S52 hc53 ok_q48 ok_q50) ok_q48 rfl ⟨Nat.le_of_ble_eq_true rfl, Nat.le_of_ble_eq_true rfl⟩ hl.1 rfl (Nat.le_of_ble_eq_true rfl) dX2_seekNight_83 (Nat.zero_le _) (Nat.zero_le _) (fun H locs hR hS hE54 => ?_)
                have ok_this := hE54 _ _ ok_this
                have ok_q35 := hE54 _ _ ok_q35
                have ok_q45 := hE54 _ _ ok_q45
                have ok_q48 := hE54 _ _ ok_q48
                have ok_q50 := hE54 _ _ ok_q50
                have hE := hE.tr hE54
                refine lv_aload_n hx hb dX2_seekNight_86 rfl (lv_at hl 1 rfl) ?_
                obtain ⟨q55, hq56, ok_q55, hf⟩ := gR_of hf
                refine gf_RX2_11 hC hR ok_this hq56 dX2_seekNight_87 ?_
                refine lv_iconst (v := 0) hx hb dX2_seekNight_90 (by decide) ?_
                obtain ⟨hi57, hf⟩ := ck_of hf
                obtain ⟨q58, hq59, ok_q58, hf⟩ := gR_of hf
                refine r_pald (v := .ref q58) hC hR ok_q55 hi57 dX2_seekNight_91 (by rw [hq59]; rfl) ?_
                refine lv_iload_n hx hb dX2_seekNight_92 rfl (lv_at hl 4 rfl) ?_
                refine lv_iload hx hb dX2_seekNight_93 (lv_at hl 0 rfl) ?_
                obtain ⟨S60, hc61, hf⟩ := cv_of hf
                refine cl_RX2_72 (As := [.int x23, .int x40]) (rest := []) hC hR hS (c_X3_shift l G n q58 x23 x40 S52 S60 hc61 ok_q58) ok_q58 rfl ⟨Nat.le_of_ble_eq_true rfl, Nat.le_of_ble_eq_true rfl⟩ hl.1 rfl (Nat.le_of_ble_eq_true rfl) dX2_seekNight_95 (Nat.zero_le _) (Nat.zero_le _) (fun H locs hR hS hE62 => ?_)
                have ok_this := hE62 _ _ ok_this
                have ok_q35 := hE62 _ _ ok_q35
                have ok_q45 := hE62 _ _ ok_q45
                have ok_q48 := hE62 _ _ ok_q48
                have ok_q50 := hE62 _ _ ok_q50
                have ok_q55 := hE62 _ _ ok_q55
                have ok_q58 := hE62 _ _ ok_q58
                have hE := hE.tr hE62
                refine lv_aload_n hx hb dX2_seekNight_98 rfl (lv_at hl 1 rfl) ?_
                refine lv_iload_n hx hb dX2_seekNight_99 rfl (lv_at hl 4 rfl) ?_
                refine lv_iload hx hb dX2_seekNight_100 (lv_at hl 5 rfl) ?_
                refine lv_aload_n hx hb dX2_seekNight_102 rfl (lv_at hl 1 rfl) ?_
                refine lv_iload_n hx hb dX2_seekNight_103 rfl (lv_at hl 2 rfl) ?_
                refine lv_iload_n hx hb dX2_seekNight_104 rfl (lv_at hl 3 rfl) ?_
                obtain ⟨x66, S63, hc64, hf⟩ := cl_of hf
                refine cl_RX2_52 (As := [.int a1, .int a2]) (rest := [.int x33, .int x23, .ref this]) hC hR hS (c_X2_meanOfTried l G n this a1 a2 S60 x66 S63 hc64 ok_this) ok_this rfl ⟨Nat.le_of_ble_eq_true rfl, Nat.le_of_ble_eq_true rfl⟩ hl.1 rfl (Nat.le_of_ble_eq_true rfl) dX2_seekNight_105 (Nat.zero_le _) (Nat.zero_le _) (fun H locs hR hS hE65 => ?_)
                have ok_this := hE65 _ _ ok_this
                have ok_q35 := hE65 _ _ ok_q35
                have ok_q45 := hE65 _ _ ok_q45
                have ok_q48 := hE65 _ _ ok_q48
                have ok_q50 := hE65 _ _ ok_q50
                have ok_q55 := hE65 _ _ ok_q55
                have ok_q58 := hE65 _ _ ok_q58
                have hE := hE.tr hE65
                obtain ⟨S67, hc68, hf⟩ := cv_of hf
                refine cl_RX2_75 (As := [.int x23, .int x33, .int x66]) (rest := []) hC hR hS (c_X2_keepIfBetter l G n this x23 x33 x66 S63 S67 hc68 ok_this) ok_this rfl ⟨Nat.le_of_ble_eq_true rfl, Nat.le_of_ble_eq_true rfl⟩ hl.1 rfl (Nat.le_of_ble_eq_true rfl) dX2_seekNight_108 (Nat.zero_le _) (Nat.zero_le _) (fun H locs hR hS hE69 => ?_)
                have ok_this := hE69 _ _ ok_this
                have ok_q35 := hE69 _ _ ok_q35
                have ok_q45 := hE69 _ _ ok_q45
                have ok_q48 := hE69 _ _ ok_q48
                have ok_q50 := hE69 _ _ ok_q50
                have ok_q55 := hE69 _ _ ok_q55
                have ok_q58 := hE69 _ _ ok_q58
                have hE := hE.tr hE69
                exact hj111_41 S67 _ _ _ hf hR hS hE ok_this (lv_sub hl [1, 2, 3, 4, 5] rfl)
        exact hh71 n (0 : Int32) S24 _ _ _ hf hR hS hE ok_this (lv_sub hl [1, 2, 3, 4, 0] rfl)
  exact hh73 n (0 : Int32) S19 _ _ _ hf hR hS hE ok_this (lv_sub hl [1, 2, 3, 0] rfl)
abbrev rX8_isWind : Room := { frames := 0, cells := 0, slots := 0, locals := 0 }
def f_X8_isWind (_n : Nat) (this : Nat) (a1 : Int32) (S : MS) : Option (Int32 × MS) :=
  (if a1 < 0 then zb (0 : Int32) (some ((0 : Int32), S)) else (if (mI S this 6) ≤ a1 then zb (0 : Int32) (some ((0 : Int32), S)) else zb (1 : Int32) (some ((1 : Int32), S))))
set_option maxRecDepth 100000 in
set_option maxHeartbeats 4000000 in
theorem c_X8_isWind (l : Launch) (G : Gx) (n : Nat) (this : Nat) (a1 : Int32) (S : MS) (ro : Int32) (So : MS) (hf : f_X8_isWind n this a1 S = some (ro, So)) (ok_this : Ok S this 8) : Cn G l yX8_isWind cX8_isWind 2 (some .boolean) rX8_isWind [.ref this, .int a1] S (some (.int ro)) So := by
  refine Cn.of (by decide) (Nat.le_of_ble_eq_true rfl) ?_
  intro p e s m args below meth c hC hname hR ls hl
  have hC : Cx G RX8 cX8_isWind 2 (some .boolean) p s m args meth c := hC
  have hl : lv_has ls 2 [(0, .ref this), (1, .int a1)] := hl
  have hx := hC.x
  have hb := hC.b
  have hS : va_S (gA G) s.heap s.heap [] := va_S.rf
  have hE : Ex S S := Ex.rf S
  unfold f_X8_isWind at hf
  refine lv_iload_n hx hb dX8_isWind_0 rfl (lv_at hl 1 rfl) ?_
  refine lv_if_lt (tgt := 16) hx hb dX8_isWind_1 (by decide) (fun hc => ?_) (fun hc => ?_)
  · replace hf := if_t hf hc
    refine lv_iconst (v := 0) hx hb dX8_isWind_16 (by decide) ?_
    exact r_zret hC hR hS hE hf dX8_isWind_17
  · replace hf := if_f hf hc
    refine lv_iload_n hx hb dX8_isWind_4 rfl (lv_at hl 1 rfl) ?_
    refine lv_aload_n hx hb dX8_isWind_5 rfl (lv_at hl 0 rfl) ?_
    refine gf_RX8_46 hC hR ok_this dX8_isWind_6 ?_
    refine lv_icmp_ge (tgt := 16) hx hb dX8_isWind_9 (by decide) (fun hc => ?_) (fun hc => ?_)
    · replace hf := if_t hf hc
      refine lv_iconst (v := 0) hx hb dX8_isWind_16 (by decide) ?_
      exact r_zret hC hR hS hE hf dX8_isWind_17
    · replace hf := if_f hf hc
      refine lv_iconst (v := 1) hx hb dX8_isWind_12 (by decide) ?_
      refine lv_goto (tgt := 17) hx hb dX8_isWind_13 (by decide) ?_
      exact r_zret hC hR hS hE hf dX8_isWind_17
abbrev rX2_goOn : Room := { frames := 5, cells := 0, slots := 0, locals := 139 }
def f_X2_goOn (n : Nat) (this : Nat) (a1 : Int32) (S : MS) : Option (Int32 × MS) :=
  gR S (mR S this 4) 8 fun q1 => gR S (mR S this 4) 8 fun q3 => gR S (mR S q3 4) 12 fun q5 => ck (inb a1 (mN S q5)) (cl (f_X8_isWind n q1 (mI S q5 a1.toNatClampNeg) S) fun x11 S8 => (if x11 = 0 then some ((0 : Int32), S8) else gR S8 (mR S8 this 5) 9 fun q12 => gR S8 (mR S8 this 6) 15 fun q14 => ck (inb (0 : Int32) (mN S8 q14)) (gR S8 (mR S8 q14 (0 : Int32).toNatClampNeg) 3 fun q17 => gR S8 (mR S8 this 4) 8 fun q19 => gR S8 (mR S8 q19 4) 12 fun q21 => ck (inb a1 (mN S8 q21)) (cl (f_X9_blow n q12 q17 (mI S8 q21 a1.toNatClampNeg) S8) fun x27 S24 => some (x27, S24)))))
set_option maxRecDepth 100000 in
set_option maxHeartbeats 4000000 in
theorem c_X2_goOn (l : Launch) (G : Gx) (n : Nat) (this : Nat) (a1 : Int32) (S : MS) (ro : Int32) (So : MS) (hf : f_X2_goOn n this a1 S = some (ro, So)) (ok_this : Ok S this 2) : Cn G l yX2_goOn cX2_goOn 2 (some .int) rX2_goOn [.ref this, .int a1] S (some (.int ro)) So := by
  refine Cn.of (by decide) (Nat.le_of_ble_eq_true rfl) ?_
  intro p e s m args below meth c hC hname hR ls hl
  have hC : Cx G RX2 cX2_goOn 2 (some .int) p s m args meth c := hC
  have hl : lv_has ls 2 [(0, .ref this), (1, .int a1)] := hl
  have hx := hC.x
  have hb := hC.b
  have hS : va_S (gA G) s.heap s.heap [] := va_S.rf
  have hE : Ex S S := Ex.rf S
  unfold f_X2_goOn at hf
  refine lv_aload_n hx hb dX2_goOn_0 rfl (lv_at hl 0 rfl) ?_
  obtain ⟨q1, hq2, ok_q1, hf⟩ := gR_of hf
  refine gf_RX2_21 hC hR ok_this hq2 dX2_goOn_1 ?_
  refine lv_aload_n hx hb dX2_goOn_4 rfl (lv_at hl 0 rfl) ?_
  obtain ⟨q3, hq4, ok_q3, hf⟩ := gR_of hf
  refine gf_RX2_21 hC hR ok_this hq4 dX2_goOn_5 ?_
  obtain ⟨q5, hq6, ok_q5, hf⟩ := gR_of hf
  refine gf_RX2_116 hC hR ok_q3 hq6 dX2_goOn_8 ?_
  refine lv_iload_n hx hb dX2_goOn_11 rfl (lv_at hl 1 rfl) ?_
  obtain ⟨hi7, hf⟩ := ck_of hf
  refine r_iald hC hR ok_q5 hi7 dX2_goOn_12 ?_
  obtain ⟨x11, S8, hc9, hf⟩ := cl_of hf
  refine cl_RX2_119 (As := [.int (mI S q5 a1.toNatClampNeg)]) (rest := []) hC hR hS (c_X8_isWind l G n q1 (mI S q5 a1.toNatClampNeg) S x11 S8 hc9 ok_q1) ok_q1 rfl ⟨Nat.le_of_ble_eq_true rfl, Nat.le_of_ble_eq_true rfl⟩ hl.1 rfl (Nat.le_of_ble_eq_true rfl) dX2_goOn_13 (Nat.zero_le _) (Nat.zero_le _) (fun H locs hR hS hE10 => ?_)
  have ok_this := hE10 _ _ ok_this
  have ok_q1 := hE10 _ _ ok_q1
  have ok_q3 := hE10 _ _ ok_q3
  have ok_q5 := hE10 _ _ ok_q5
  have hE := hE.tr hE10
  refine lv_if_eq (tgt := 44) hx hb dX2_goOn_16 (by decide) (fun hc => ?_) (fun hc => ?_)
  · replace hf := if_t hf hc
    refine lv_iconst (v := 0) hx hb dX2_goOn_44 (by decide) ?_
    exact r_iret hC hR hS hE hf dX2_goOn_45
  · replace hf := if_f hf hc
    refine lv_aload_n hx hb dX2_goOn_19 rfl (lv_at hl 0 rfl) ?_
    obtain ⟨q12, hq13, ok_q12, hf⟩ := gR_of hf
    refine gf_RX2_25 hC hR ok_this hq13 dX2_goOn_20 ?_
    refine lv_aload_n hx hb dX2_goOn_23 rfl (lv_at hl 0 rfl) ?_
    obtain ⟨q14, hq15, ok_q14, hf⟩ := gR_of hf
    refine gf_RX2_11 hC hR ok_this hq15 dX2_goOn_24 ?_
    refine lv_iconst (v := 0) hx hb dX2_goOn_27 (by decide) ?_
    obtain ⟨hi16, hf⟩ := ck_of hf
    obtain ⟨q17, hq18, ok_q17, hf⟩ := gR_of hf
    refine r_pald (v := .ref q17) hC hR ok_q14 hi16 dX2_goOn_28 (by rw [hq18]; rfl) ?_
    refine lv_aload_n hx hb dX2_goOn_29 rfl (lv_at hl 0 rfl) ?_
    obtain ⟨q19, hq20, ok_q19, hf⟩ := gR_of hf
    refine gf_RX2_21 hC hR ok_this hq20 dX2_goOn_30 ?_
    obtain ⟨q21, hq22, ok_q21, hf⟩ := gR_of hf
    refine gf_RX2_116 hC hR ok_q19 hq22 dX2_goOn_33 ?_
    refine lv_iload_n hx hb dX2_goOn_36 rfl (lv_at hl 1 rfl) ?_
    obtain ⟨hi23, hf⟩ := ck_of hf
    refine r_iald hC hR ok_q21 hi23 dX2_goOn_37 ?_
    obtain ⟨x27, S24, hc25, hf⟩ := cl_of hf
    refine cl_RX2_110 (As := [.ref q17, .int (mI S8 q21 a1.toNatClampNeg)]) (rest := []) hC hR hS (c_X9_blow l G n q12 q17 (mI S8 q21 a1.toNatClampNeg) S8 x27 S24 hc25 ok_q12 ok_q17) ok_q12 rfl ⟨Nat.le_of_ble_eq_true rfl, Nat.le_of_ble_eq_true rfl⟩ hl.1 rfl (Nat.le_of_ble_eq_true rfl) dX2_goOn_38 (Nat.zero_le _) (Nat.zero_le _) (fun H locs hR hS hE26 => ?_)
    have ok_this := hE26 _ _ ok_this
    have ok_q1 := hE26 _ _ ok_q1
    have ok_q3 := hE26 _ _ ok_q3
    have ok_q5 := hE26 _ _ ok_q5
    have ok_q12 := hE26 _ _ ok_q12
    have ok_q14 := hE26 _ _ ok_q14
    have ok_q17 := hE26 _ _ ok_q17
    have ok_q19 := hE26 _ _ ok_q19
    have ok_q21 := hE26 _ _ ok_q21
    have hE := hE.tr hE26
    refine lv_goto (tgt := 45) hx hb dX2_goOn_41 (by decide) ?_
    exact r_iret hC hR hS hE hf dX2_goOn_45
abbrev rX3_isHad : Room := { frames := 3, cells := 0, slots := 0, locals := 74 }
def f_X3_isHad (n : Nat) (this : Nat) (a1 : Int32) (a2 : Int32) (S : MS) : Option (Int32 × MS) :=
  cl (f_X3_fieldHad n this a1 S) fun x4 S1 => (if (lg_cmp ((lush x4 a2) &&& (1 : Int64)) (0 : Int64)) = 0 then zb (0 : Int32) (some ((0 : Int32), S1)) else zb (1 : Int32) (some ((1 : Int32), S1)))
set_option maxRecDepth 100000 in
set_option maxHeartbeats 4000000 in
theorem c_X3_isHad (l : Launch) (G : Gx) (n : Nat) (this : Nat) (a1 : Int32) (a2 : Int32) (S : MS) (ro : Int32) (So : MS) (hf : f_X3_isHad n this a1 a2 S = some (ro, So)) (ok_this : Ok S this 3) : Cn G l yX3_isHad cX3_isHad 3 (some .boolean) rX3_isHad [.ref this, .int a1, .int a2] S (some (.int ro)) So := by
  refine Cn.of (by decide) (Nat.le_of_ble_eq_true rfl) ?_
  intro p e s m args below meth c hC hname hR ls hl
  have hC : Cx G RX3 cX3_isHad 3 (some .boolean) p s m args meth c := hC
  have hl : lv_has ls 3 [(0, .ref this), (1, .int a1), (2, .int a2)] := hl
  have hx := hC.x
  have hb := hC.b
  have hS : va_S (gA G) s.heap s.heap [] := va_S.rf
  have hE : Ex S S := Ex.rf S
  unfold f_X3_isHad at hf
  refine lv_aload_n hx hb dX3_isHad_0 rfl (lv_at hl 0 rfl) ?_
  refine lv_iload_n hx hb dX3_isHad_1 rfl (lv_at hl 1 rfl) ?_
  obtain ⟨x4, S1, hc2, hf⟩ := cl_of hf
  refine cl_RX3_123 (As := [.int a1]) (rest := []) hC hR hS (c_X3_fieldHad l G n this a1 S x4 S1 hc2 ok_this) ok_this rfl ⟨Nat.le_of_ble_eq_true rfl, Nat.le_of_ble_eq_true rfl⟩ hl.1 rfl (Nat.le_of_ble_eq_true rfl) dX3_isHad_2 (Nat.zero_le _) (Nat.zero_le _) (fun H locs hR hS hE3 => ?_)
  have ok_this := hE3 _ _ ok_this
  have hE := hE.tr hE3
  refine lv_iload_n hx hb dX3_isHad_5 rfl (lv_at hl 2 rfl) ?_
  refine lv_lushr (v := (lush x4 a2)) hx hb dX3_isHad_6 rfl ?_
  refine lv_lconst (v := 1) hx hb dX3_isHad_7 (by decide) ?_
  refine lv_land hx hb dX3_isHad_8 ?_
  refine lv_lconst (v := 0) hx hb dX3_isHad_9 (by decide) ?_
  refine W.lcmp hx hb dX3_isHad_10 ?_
  refine lv_if_eq (tgt := 18) hx hb dX3_isHad_11 (by decide) (fun hc => ?_) (fun hc => ?_)
  · replace hf := if_t hf hc
    refine lv_iconst (v := 0) hx hb dX3_isHad_18 (by decide) ?_
    exact r_zret hC hR hS hE hf dX3_isHad_19
  · replace hf := if_f hf hc
    refine lv_iconst (v := 1) hx hb dX3_isHad_14 (by decide) ?_
    refine lv_goto (tgt := 19) hx hb dX3_isHad_15 (by decide) ?_
    exact r_zret hC hR hS hE hf dX3_isHad_19
abbrev rX2_firstSowing : Room := { frames := 6, cells := 0, slots := 0, locals := 160 }
def f_X2_firstSowing_L87 (n : Nat) (a3 : Int32) (x23 : Int64) : Nat → Int32 → MS → Option (Int32 × MS)
  | 0, _, _ => none
  | k + 1, x27, S28 => jn (f_X2_firstSowing_L87 n a3 x23 k) fun rec87_26 => (if (40 : Int32) < (x27 + a3) then some ((-1 : Int32), S28) else (if (lg_cmp (((lush x23 x27) &&& (lush x23 (x27 + a3))) &&& (1 : Int64)) (0 : Int64)) = 0 then bd (x27 + (1 : Int32)) fun x29 => rec87_26 x29 S28 else some (x27, S28)))
def f_X2_firstSowing_L35 (n : Nat) (this : Nat) (a1 : Int32) (a2 : Int32) (a3 : Int32) (j84_22 : Int64 → MS → Option (Int32 × MS)) : Nat → Int64 → Int32 → MS → Option (Int32 × MS)
  | 0, _, _, _ => none
  | k + 1, x33, x34, S35 => jn (f_X2_firstSowing_L35 n this a1 a2 a3 j84_22 k) fun rec35_32 => (if (40 : Int32) ≤ x34 then j84_22 x33 S35 else cl (f_X2_goOn n this x34 S35) fun x39 S36 => gR S36 (mR S36 this 6) 15 fun q40 => ck (inb (0 : Int32) (mN S36 q40)) (gR S36 (mR S36 q40 (0 : Int32).toNatClampNeg) 3 fun q43 => cl (f_X3_isHad n q43 a1 a2 S36) fun x48 S45 => jn (fun (x51 : Int64) (x52 : Int64) (S53 : MS) => bd (x51 ||| x52) fun x54 => bd (x34 + (1 : Int32)) fun x55 => rec35_32 x54 x55 S53) fun j75_50 => (if x48 = 0 then j75_50 x33 (0 : Int64) S45 else j75_50 x33 (lsh (1 : Int64) (x34 + (1 : Int32))) S45)))
def f_X2_firstSowing (n : Nat) (this : Nat) (a1 : Int32) (a2 : Int32) (a3 : Int32) (S : MS) : Option (Int32 × MS) :=
  gR S (mR S this 3) 3 fun q1 => cl (f_X3_isHad n q1 a1 a2 S) fun x6 S3 => jn (fun (x9 : Int64) (S10 : MS) => gR S10 (mR S10 this 6) 15 fun q11 => ck (inb (0 : Int32) (mN S10 q11)) (gR S10 (mR S10 q11 (0 : Int32).toNatClampNeg) 3 fun q14 => gR S10 (mR S10 this 3) 3 fun q16 => cv (f_X3_copyFrom n q14 q16 S10) fun S18 => jn (fun (x23 : Int64) (S24 : MS) => f_X2_firstSowing_L87 n a3 x23 n (0 : Int32) S24) fun j84_22 => f_X2_firstSowing_L35 n this a1 a2 a3 j84_22 n x9 (0 : Int32) S18)) fun j17_8 => (if x6 = 0 then j17_8 (0 : Int64) S3 else j17_8 (1 : Int64) S3)
set_option maxRecDepth 100000 in
set_option maxHeartbeats 4000000 in
theorem c_X2_firstSowing (l : Launch) (G : Gx) (n : Nat) (this : Nat) (a1 : Int32) (a2 : Int32) (a3 : Int32) (S : MS) (ro : Int32) (So : MS) (hf : f_X2_firstSowing n this a1 a2 a3 S = some (ro, So)) (ok_this : Ok S this 2) : Cn G l yX2_firstSowing cX2_firstSowing 7 (some .int) rX2_firstSowing [.ref this, .int a1, .int a2, .int a3] S (some (.int ro)) So := by
  refine Cn.of (by decide) (Nat.le_of_ble_eq_true rfl) ?_
  intro p e s m args below meth c hC hname hR ls hl
  have hC : Cx G RX2 cX2_firstSowing 7 (some .int) p s m args meth c := hC
  have hl : lv_has ls 7 [(0, .ref this), (1, .int a1), (2, .int a2), (3, .int a3)] := hl
  have hx := hC.x
  have hb := hC.b
  have hS : va_S (gA G) s.heap s.heap [] := va_S.rf
  have hE : Ex S S := Ex.rf S
  unfold f_X2_firstSowing at hf
  refine lv_aload_n hx hb dX2_firstSowing_0 rfl (lv_at hl 0 rfl) ?_
  obtain ⟨q1, hq2, ok_q1, hf⟩ := gR_of hf
  refine gf_RX2_17 hC hR ok_this hq2 dX2_firstSowing_1 ?_
  refine lv_iload_n hx hb dX2_firstSowing_4 rfl (lv_at hl 1 rfl) ?_
  refine lv_iload_n hx hb dX2_firstSowing_5 rfl (lv_at hl 2 rfl) ?_
  obtain ⟨x6, S3, hc4, hf⟩ := cl_of hf
  refine cl_RX2_123 (As := [.int a1, .int a2]) (rest := []) hC hR hS (c_X3_isHad l G n q1 a1 a2 S x6 S3 hc4 ok_q1) ok_q1 rfl ⟨Nat.le_of_ble_eq_true rfl, Nat.le_of_ble_eq_true rfl⟩ hl.1 rfl (Nat.le_of_ble_eq_true rfl) dX2_firstSowing_6 (Nat.zero_le _) (Nat.zero_le _) (fun H locs hR hS hE5 => ?_)
  have ok_this := hE5 _ _ ok_this
  have ok_q1 := hE5 _ _ ok_q1
  have hE := hE.tr hE5
  obtain ⟨j17_8, ej17_8, hf⟩ := jn_of2 hf
  have hj17_7 : ∀ (x9 : Int64) (S10 : MS) (H : Heap) (locs : List Loc) (ls : Array Slot), j17_8 x9 S10 = some (ro, So) → Rp G S10 H → va_S (gA G) s.heap H locs → Ex S S10 → Ok S10 this 2 → lv_has ls 7 [(0, .ref this), (1, .int a1), (2, .int a2), (3, .int a3)] → W p l e rX2_firstSowing s m args below meth c H locs 0 0 (MQ below (Qn G S (some (.int ro)) So) args s 0 0 (gA G)) (F0 m 17 ls [.long x9]) := by
    intro x9 S10 H locs ls hf hR hS hE ok_this hl
    rw [ej17_8] at hf
    refine lv_lstore (lv' := [(4, .long x9), (0, .ref this), (1, .int a1), (2, .int a2), (3, .int a3)]) hx hb dX2_firstSowing_17 hl (by decide) rfl (fun ls hl => ?_)
    refine lv_aload_n hx hb dX2_firstSowing_19 rfl (lv_at hl 1 rfl) ?_
    obtain ⟨q11, hq12, ok_q11, hf⟩ := gR_of hf
    refine gf_RX2_11 hC hR ok_this hq12 dX2_firstSowing_20 ?_
    refine lv_iconst (v := 0) hx hb dX2_firstSowing_23 (by decide) ?_
    obtain ⟨hi13, hf⟩ := ck_of hf
    obtain ⟨q14, hq15, ok_q14, hf⟩ := gR_of hf
    refine r_pald (v := .ref q14) hC hR ok_q11 hi13 dX2_firstSowing_24 (by rw [hq15]; rfl) ?_
    refine lv_aload_n hx hb dX2_firstSowing_25 rfl (lv_at hl 1 rfl) ?_
    obtain ⟨q16, hq17, ok_q16, hf⟩ := gR_of hf
    refine gf_RX2_17 hC hR ok_this hq17 dX2_firstSowing_26 ?_
    obtain ⟨S18, hc19, hf⟩ := cv_of hf
    refine cl_RX2_36 (As := [.ref q16]) (rest := []) hC hR hS (c_X3_copyFrom l G n q14 q16 S10 S18 hc19 ok_q14 ok_q16) ok_q14 rfl ⟨Nat.le_of_ble_eq_true rfl, Nat.le_of_ble_eq_true rfl⟩ hl.1 rfl (Nat.le_of_ble_eq_true rfl) dX2_firstSowing_29 (Nat.zero_le _) (Nat.zero_le _) (fun H locs hR hS hE20 => ?_)
    have ok_this := hE20 _ _ ok_this
    have ok_q11 := hE20 _ _ ok_q11
    have ok_q14 := hE20 _ _ ok_q14
    have ok_q16 := hE20 _ _ ok_q16
    have hE := hE.tr hE20
    refine lv_iconst (v := 0) hx hb dX2_firstSowing_32 (by decide) ?_
    refine lv_istore (lv' := [(6, .int (0 : Int32)), (4, .long x9), (0, .ref this), (1, .int a1), (2, .int a2), (3, .int a3)]) hx hb dX2_firstSowing_33 hl (by decide) rfl (fun ls hl => ?_)
    obtain ⟨j84_22, ej84_22, hf⟩ := jn_of2 hf
    have hj84_21 : ∀ (x23 : Int64) (S24 : MS) (H : Heap) (locs : List Loc) (ls : Array Slot), j84_22 x23 S24 = some (ro, So) → Rp G S24 H → va_S (gA G) s.heap H locs → Ex S S24 → lv_has ls 7 [(3, .int a3), (4, .long x23)] → W p l e rX2_firstSowing s m args below meth c H locs 0 0 (MQ below (Qn G S (some (.int ro)) So) args s 0 0 (gA G)) (F0 m 84 ls []) := by
      intro x23 S24 H locs ls hf hR hS hE  hl
      rw [ej84_22] at hf
      refine lv_iconst (v := 0) hx hb dX2_firstSowing_84 (by decide) ?_
      refine lv_istore (lv' := [(6, .int (0 : Int32)), (3, .int a3), (4, .long x23)]) hx hb dX2_firstSowing_85 hl (by decide) rfl (fun ls hl => ?_)
      have hh30 : ∀ k : Nat, ∀ (x27 : Int32) (S28 : MS) (H : Heap) (locs : List Loc) (ls : Array Slot), f_X2_firstSowing_L87 n a3 x23 k x27 S28 = some (ro, So) → Rp G S28 H → va_S (gA G) s.heap H locs → Ex S S28 → lv_has ls 7 [(3, .int a3), (4, .long x23), (6, .int x27)] → W p l e rX2_firstSowing s m args below meth c H locs 0 0 (MQ below (Qn G S (some (.int ro)) So) args s 0 0 (gA G)) (F0 m 87 ls []) := by
        intro k
        induction k with
        | zero =>
          intro x27 S28 H locs ls hf hR hS hE  hl
          exact absurd hf (by rw [f_X2_firstSowing_L87]; exact fun h => by cases h)
        | succ k ih =>
          intro x27 S28 H locs ls hf hR hS hE  hl
          rw [f_X2_firstSowing_L87] at hf
          obtain ⟨rec87_26, erec87_26, hf⟩ := jn_of2 hf
          have hL87_25 : ∀ (x27 : Int32) (S28 : MS) (H : Heap) (locs : List Loc) (ls : Array Slot), rec87_26 x27 S28 = some (ro, So) → Rp G S28 H → va_S (gA G) s.heap H locs → Ex S S28 → lv_has ls 7 [(3, .int a3), (4, .long x23), (6, .int x27)] → W p l e rX2_firstSowing s m args below meth c H locs 0 0 (MQ below (Qn G S (some (.int ro)) So) args s 0 0 (gA G)) (F0 m 87 ls []) := by
            intro x27 S28 H locs ls hf hR hS hE  hl
            rw [erec87_26] at hf
            exact ih x27 S28 _ _ _ hf hR hS hE  hl
          refine lv_iload hx hb dX2_firstSowing_87 (lv_at hl 2 rfl) ?_
          refine lv_iload_n hx hb dX2_firstSowing_89 rfl (lv_at hl 0 rfl) ?_
          refine lv_iadd hx hb dX2_firstSowing_90 ?_
          refine lv_bipush (v := 40) hx hb dX2_firstSowing_91 (by decide) ?_
          refine lv_icmp_gt (tgt := 125) hx hb dX2_firstSowing_93 (by decide) (fun hc => ?_) (fun hc => ?_)
          · replace hf := if_t hf hc
            refine lv_iconst (v := -1) hx hb dX2_firstSowing_125 (by decide) ?_
            exact r_iret hC hR hS hE hf dX2_firstSowing_126
          · replace hf := if_f hf hc
            refine lv_lload hx hb dX2_firstSowing_96 (lv_at hl 1 rfl) ?_
            refine lv_iload hx hb dX2_firstSowing_98 (lv_at hl 2 rfl) ?_
            refine lv_lushr (v := (lush x23 x27)) hx hb dX2_firstSowing_100 rfl ?_
            refine lv_lload hx hb dX2_firstSowing_101 (lv_at hl 1 rfl) ?_
            refine lv_iload hx hb dX2_firstSowing_103 (lv_at hl 2 rfl) ?_
            refine lv_iload_n hx hb dX2_firstSowing_105 rfl (lv_at hl 0 rfl) ?_
            refine lv_iadd hx hb dX2_firstSowing_106 ?_
            refine lv_lushr (v := (lush x23 (x27 + a3))) hx hb dX2_firstSowing_107 rfl ?_
            refine lv_land hx hb dX2_firstSowing_108 ?_
            refine lv_lconst (v := 1) hx hb dX2_firstSowing_109 (by decide) ?_
            refine lv_land hx hb dX2_firstSowing_110 ?_
            refine lv_lconst (v := 0) hx hb dX2_firstSowing_111 (by decide) ?_
            refine W.lcmp hx hb dX2_firstSowing_112 ?_
            refine lv_if_eq (tgt := 119) hx hb dX2_firstSowing_113 (by decide) (fun hc => ?_) (fun hc => ?_)
            · replace hf := if_t hf hc
              refine r_iinc (n := 1) (z := 1) (lv' := fun x29 => [(6, .int x29), (3, .int a3), (4, .long x23)]) hx hb dX2_firstSowing_119 hl (k := 2) rfl (by decide) (by decide) (fun _ => rfl) hf (fun x29 ls hf hl => ?_)
              refine lv_goto (tgt := 87) hx hb dX2_firstSowing_122 (by decide) ?_
              exact hL87_25 x29 S28 _ _ _ hf hR hS hE (lv_sub hl [1, 2, 0] rfl)
            · replace hf := if_f hf hc
              refine lv_iload hx hb dX2_firstSowing_116 (lv_at hl 2 rfl) ?_
              exact r_iret hC hR hS hE hf dX2_firstSowing_118
      exact hh30 n (0 : Int32) S24 _ _ _ hf hR hS hE (lv_sub hl [1, 2, 0] rfl)
    have hh59 : ∀ k : Nat, ∀ (x33 : Int64) (x34 : Int32) (S35 : MS) (H : Heap) (locs : List Loc) (ls : Array Slot), f_X2_firstSowing_L35 n this a1 a2 a3 j84_22 k x33 x34 S35 = some (ro, So) → Rp G S35 H → va_S (gA G) s.heap H locs → Ex S S35 → Ok S35 this 2 → lv_has ls 7 [(0, .ref this), (1, .int a1), (2, .int a2), (3, .int a3), (4, .long x33), (6, .int x34)] → W p l e rX2_firstSowing s m args below meth c H locs 0 0 (MQ below (Qn G S (some (.int ro)) So) args s 0 0 (gA G)) (F0 m 35 ls []) := by
      intro k
      induction k with
      | zero =>
        intro x33 x34 S35 H locs ls hf hR hS hE ok_this hl
        exact absurd hf (by rw [f_X2_firstSowing_L35]; exact fun h => by cases h)
      | succ k ih =>
        intro x33 x34 S35 H locs ls hf hR hS hE ok_this hl
        rw [f_X2_firstSowing_L35] at hf
        obtain ⟨rec35_32, erec35_32, hf⟩ := jn_of3 hf
        have hL35_31 : ∀ (x33 : Int64) (x34 : Int32) (S35 : MS) (H : Heap) (locs : List Loc) (ls : Array Slot), rec35_32 x33 x34 S35 = some (ro, So) → Rp G S35 H → va_S (gA G) s.heap H locs → Ex S S35 → Ok S35 this 2 → lv_has ls 7 [(0, .ref this), (1, .int a1), (2, .int a2), (3, .int a3), (4, .long x33), (6, .int x34)] → W p l e rX2_firstSowing s m args below meth c H locs 0 0 (MQ below (Qn G S (some (.int ro)) So) args s 0 0 (gA G)) (F0 m 35 ls []) := by
          intro x33 x34 S35 H locs ls hf hR hS hE ok_this hl
          rw [erec35_32] at hf
          exact ih x33 x34 S35 _ _ _ hf hR hS hE ok_this hl
        refine lv_iload hx hb dX2_firstSowing_35 (lv_at hl 5 rfl) ?_
        refine lv_bipush (v := 40) hx hb dX2_firstSowing_37 (by decide) ?_
        refine lv_icmp_ge (tgt := 84) hx hb dX2_firstSowing_39 (by decide) (fun hc => ?_) (fun hc => ?_)
        · replace hf := if_t hf hc
          exact hj84_21 x33 S35 _ _ _ hf hR hS hE (lv_sub hl [3, 4] rfl)
        · replace hf := if_f hf hc
          refine lv_aload_n hx hb dX2_firstSowing_42 rfl (lv_at hl 0 rfl) ?_
          refine lv_iload hx hb dX2_firstSowing_43 (lv_at hl 5 rfl) ?_
          obtain ⟨x39, S36, hc37, hf⟩ := cl_of hf
          refine cl_RX2_127 (As := [.int x34]) (rest := []) hC hR hS (c_X2_goOn l G n this x34 S35 x39 S36 hc37 ok_this) ok_this rfl ⟨Nat.le_of_ble_eq_true rfl, Nat.le_of_ble_eq_true rfl⟩ hl.1 rfl (Nat.le_of_ble_eq_true rfl) dX2_firstSowing_45 (Nat.zero_le _) (Nat.zero_le _) (fun H locs hR hS hE38 => ?_)
          have ok_this := hE38 _ _ ok_this
          have hE := hE.tr hE38
          refine lv_pop hx hb dX2_firstSowing_48 rfl ?_
          refine lv_lload hx hb dX2_firstSowing_49 (lv_at hl 4 rfl) ?_
          refine lv_aload_n hx hb dX2_firstSowing_51 rfl (lv_at hl 0 rfl) ?_
          obtain ⟨q40, hq41, ok_q40, hf⟩ := gR_of hf
          refine gf_RX2_11 hC hR ok_this hq41 dX2_firstSowing_52 ?_
          refine lv_iconst (v := 0) hx hb dX2_firstSowing_55 (by decide) ?_
          obtain ⟨hi42, hf⟩ := ck_of hf
          obtain ⟨q43, hq44, ok_q43, hf⟩ := gR_of hf
          refine r_pald (v := .ref q43) hC hR ok_q40 hi42 dX2_firstSowing_56 (by rw [hq44]; rfl) ?_
          refine lv_iload_n hx hb dX2_firstSowing_57 rfl (lv_at hl 1 rfl) ?_
          refine lv_iload_n hx hb dX2_firstSowing_58 rfl (lv_at hl 2 rfl) ?_
          obtain ⟨x48, S45, hc46, hf⟩ := cl_of hf
          refine cl_RX2_123 (As := [.int a1, .int a2]) (rest := [.long x33]) hC hR hS (c_X3_isHad l G n q43 a1 a2 S36 x48 S45 hc46 ok_q43) ok_q43 rfl ⟨Nat.le_of_ble_eq_true rfl, Nat.le_of_ble_eq_true rfl⟩ hl.1 rfl (Nat.le_of_ble_eq_true rfl) dX2_firstSowing_59 (Nat.zero_le _) (Nat.zero_le _) (fun H locs hR hS hE47 => ?_)
          have ok_this := hE47 _ _ ok_this
          have ok_q40 := hE47 _ _ ok_q40
          have ok_q43 := hE47 _ _ ok_q43
          have hE := hE.tr hE47
          obtain ⟨j75_50, ej75_50, hf⟩ := jn_of3 hf
          have hj75_49 : ∀ (x51 : Int64) (x52 : Int64) (S53 : MS) (H : Heap) (locs : List Loc) (ls : Array Slot), j75_50 x51 x52 S53 = some (ro, So) → Rp G S53 H → va_S (gA G) s.heap H locs → Ex S S53 → Ok S53 this 2 → lv_has ls 7 [(0, .ref this), (1, .int a1), (2, .int a2), (3, .int a3), (6, .int x34)] → W p l e rX2_firstSowing s m args below meth c H locs 0 0 (MQ below (Qn G S (some (.int ro)) So) args s 0 0 (gA G)) (F0 m 75 ls [.long x52, .long x51]) := by
            intro x51 x52 S53 H locs ls hf hR hS hE ok_this hl
            rw [ej75_50] at hf
            refine lv_lor hx hb dX2_firstSowing_75 ?_
            refine bdl hf (fun x54 hf => ?_)
            refine lv_lstore (lv' := [(4, .long x54), (0, .ref this), (1, .int a1), (2, .int a2), (3, .int a3), (6, .int x34)]) hx hb dX2_firstSowing_76 hl (by decide) rfl (fun ls hl => ?_)
            refine r_iinc (n := 1) (z := 1) (lv' := fun x55 => [(6, .int x55), (4, .long x54), (0, .ref this), (1, .int a1), (2, .int a2), (3, .int a3)]) hx hb dX2_firstSowing_78 hl (k := 5) rfl (by decide) (by decide) (fun _ => rfl) hf (fun x55 ls hf hl => ?_)
            refine lv_goto (tgt := 35) hx hb dX2_firstSowing_81 (by decide) ?_
            exact hL35_31 x54 x55 S53 _ _ _ hf hR hS hE ok_this (lv_sub hl [2, 3, 4, 5, 1, 0] rfl)
          refine lv_if_eq (tgt := 74) hx hb dX2_firstSowing_62 (by decide) (fun hc => ?_) (fun hc => ?_)
          · replace hf := if_t hf hc
            refine lv_lconst (v := 0) hx hb dX2_firstSowing_74 (by decide) ?_
            exact hj75_49 x33 (0 : Int64) S45 _ _ _ hf hR hS hE ok_this (lv_sub hl [0, 1, 2, 3, 5] rfl)
          · replace hf := if_f hf hc
            refine lv_lconst (v := 1) hx hb dX2_firstSowing_65 (by decide) ?_
            refine lv_iload hx hb dX2_firstSowing_66 (lv_at hl 5 rfl) ?_
            refine lv_iconst (v := 1) hx hb dX2_firstSowing_68 (by decide) ?_
            refine lv_iadd hx hb dX2_firstSowing_69 ?_
            refine lv_lshl (v := (lsh (1 : Int64) (x34 + (1 : Int32)))) hx hb dX2_firstSowing_70 rfl ?_
            refine lv_goto (tgt := 75) hx hb dX2_firstSowing_71 (by decide) ?_
            exact hj75_49 x33 (lsh (1 : Int64) (x34 + (1 : Int32))) S45 _ _ _ hf hR hS hE ok_this (lv_sub hl [0, 1, 2, 3, 5] rfl)
    exact hh59 n x9 (0 : Int32) S18 _ _ _ hf hR hS hE ok_this (lv_sub hl [2, 3, 4, 5, 1, 0] rfl)
  refine lv_if_eq (tgt := 16) hx hb dX2_firstSowing_9 (by decide) (fun hc => ?_) (fun hc => ?_)
  · replace hf := if_t hf hc
    refine lv_lconst (v := 0) hx hb dX2_firstSowing_16 (by decide) ?_
    exact hj17_7 (0 : Int64) S3 _ _ _ hf hR hS hE ok_this (lv_sub hl [0, 1, 2, 3] rfl)
  · replace hf := if_f hf hc
    refine lv_lconst (v := 1) hx hb dX2_firstSowing_12 (by decide) ?_
    refine lv_goto (tgt := 17) hx hb dX2_firstSowing_13 (by decide) ?_
    exact hj17_7 (1 : Int64) S3 _ _ _ hf hR hS hE ok_this (lv_sub hl [0, 1, 2, 3] rfl)
abbrev rX2_isKept : Room := { frames := 6, cells := 0, slots := 0, locals := 160 }
def f_X2_isKept_L3 (n : Nat) (this : Nat) (a1 : Int32) (a2 : Int32) (a3 : Int32) : Nat → Int32 → MS → Option (Int32 × MS)
  | 0, _, _ => none
  | k + 1, x3, S4 => jn (f_X2_isKept_L3 n this a1 a2 a3 k) fun rec3_2 => (if a3 ≤ x3 then zb (1 : Int32) (some ((1 : Int32), S4)) else cl (f_X2_goOn n this x3 S4) fun x8 S5 => gR S5 (mR S5 this 6) 15 fun q9 => ck (inb (0 : Int32) (mN S5 q9)) (gR S5 (mR S5 q9 (0 : Int32).toNatClampNeg) 3 fun q12 => cl (f_X3_isHad n q12 a1 a2 S5) fun x17 S14 => (if x17 = 0 then zb (0 : Int32) (some ((0 : Int32), S14)) else bd (x3 + (1 : Int32)) fun x18 => rec3_2 x18 S14)))
def f_X2_isKept (n : Nat) (this : Nat) (a1 : Int32) (a2 : Int32) (a3 : Int32) (S : MS) : Option (Int32 × MS) :=
  f_X2_isKept_L3 n this a1 a2 a3 n (0 : Int32) S
set_option maxRecDepth 100000 in
set_option maxHeartbeats 4000000 in
theorem c_X2_isKept (l : Launch) (G : Gx) (n : Nat) (this : Nat) (a1 : Int32) (a2 : Int32) (a3 : Int32) (S : MS) (ro : Int32) (So : MS) (hf : f_X2_isKept n this a1 a2 a3 S = some (ro, So)) (ok_this : Ok S this 2) : Cn G l yX2_isKept cX2_isKept 5 (some .boolean) rX2_isKept [.ref this, .int a1, .int a2, .int a3] S (some (.int ro)) So := by
  refine Cn.of (by decide) (Nat.le_of_ble_eq_true rfl) ?_
  intro p e s m args below meth c hC hname hR ls hl
  have hC : Cx G RX2 cX2_isKept 5 (some .boolean) p s m args meth c := hC
  have hl : lv_has ls 5 [(0, .ref this), (1, .int a1), (2, .int a2), (3, .int a3)] := hl
  have hx := hC.x
  have hb := hC.b
  have hS : va_S (gA G) s.heap s.heap [] := va_S.rf
  have hE : Ex S S := Ex.rf S
  unfold f_X2_isKept at hf
  refine lv_iconst (v := 0) hx hb dX2_isKept_0 (by decide) ?_
  refine lv_istore (lv' := [(4, .int (0 : Int32)), (0, .ref this), (1, .int a1), (2, .int a2), (3, .int a3)]) hx hb dX2_isKept_1 hl (by decide) rfl (fun ls hl => ?_)
  have hh19 : ∀ k : Nat, ∀ (x3 : Int32) (S4 : MS) (H : Heap) (locs : List Loc) (ls : Array Slot), f_X2_isKept_L3 n this a1 a2 a3 k x3 S4 = some (ro, So) → Rp G S4 H → va_S (gA G) s.heap H locs → Ex S S4 → Ok S4 this 2 → lv_has ls 5 [(0, .ref this), (1, .int a1), (2, .int a2), (3, .int a3), (4, .int x3)] → W p l e rX2_isKept s m args below meth c H locs 0 0 (MQ below (Qn G S (some (.int ro)) So) args s 0 0 (gA G)) (F0 m 3 ls []) := by
    intro k
    induction k with
    | zero =>
      intro x3 S4 H locs ls hf hR hS hE ok_this hl
      exact absurd hf (by rw [f_X2_isKept_L3]; exact fun h => by cases h)
    | succ k ih =>
      intro x3 S4 H locs ls hf hR hS hE ok_this hl
      rw [f_X2_isKept_L3] at hf
      obtain ⟨rec3_2, erec3_2, hf⟩ := jn_of2 hf
      have hL3_1 : ∀ (x3 : Int32) (S4 : MS) (H : Heap) (locs : List Loc) (ls : Array Slot), rec3_2 x3 S4 = some (ro, So) → Rp G S4 H → va_S (gA G) s.heap H locs → Ex S S4 → Ok S4 this 2 → lv_has ls 5 [(0, .ref this), (1, .int a1), (2, .int a2), (3, .int a3), (4, .int x3)] → W p l e rX2_isKept s m args below meth c H locs 0 0 (MQ below (Qn G S (some (.int ro)) So) args s 0 0 (gA G)) (F0 m 3 ls []) := by
        intro x3 S4 H locs ls hf hR hS hE ok_this hl
        rw [erec3_2] at hf
        exact ih x3 S4 _ _ _ hf hR hS hE ok_this hl
      refine lv_iload hx hb dX2_isKept_3 (lv_at hl 4 rfl) ?_
      refine lv_iload_n hx hb dX2_isKept_5 rfl (lv_at hl 3 rfl) ?_
      refine lv_icmp_ge (tgt := 38) hx hb dX2_isKept_6 (by decide) (fun hc => ?_) (fun hc => ?_)
      · replace hf := if_t hf hc
        refine lv_iconst (v := 1) hx hb dX2_isKept_38 (by decide) ?_
        exact r_zret hC hR hS hE hf dX2_isKept_39
      · replace hf := if_f hf hc
        refine lv_aload_n hx hb dX2_isKept_9 rfl (lv_at hl 0 rfl) ?_
        refine lv_iload hx hb dX2_isKept_10 (lv_at hl 4 rfl) ?_
        obtain ⟨x8, S5, hc6, hf⟩ := cl_of hf
        refine cl_RX2_127 (As := [.int x3]) (rest := []) hC hR hS (c_X2_goOn l G n this x3 S4 x8 S5 hc6 ok_this) ok_this rfl ⟨Nat.le_of_ble_eq_true rfl, Nat.le_of_ble_eq_true rfl⟩ hl.1 rfl (Nat.le_of_ble_eq_true rfl) dX2_isKept_12 (Nat.zero_le _) (Nat.zero_le _) (fun H locs hR hS hE7 => ?_)
        have ok_this := hE7 _ _ ok_this
        have hE := hE.tr hE7
        refine lv_pop hx hb dX2_isKept_15 rfl ?_
        refine lv_aload_n hx hb dX2_isKept_16 rfl (lv_at hl 0 rfl) ?_
        obtain ⟨q9, hq10, ok_q9, hf⟩ := gR_of hf
        refine gf_RX2_11 hC hR ok_this hq10 dX2_isKept_17 ?_
        refine lv_iconst (v := 0) hx hb dX2_isKept_20 (by decide) ?_
        obtain ⟨hi11, hf⟩ := ck_of hf
        obtain ⟨q12, hq13, ok_q12, hf⟩ := gR_of hf
        refine r_pald (v := .ref q12) hC hR ok_q9 hi11 dX2_isKept_21 (by rw [hq13]; rfl) ?_
        refine lv_iload_n hx hb dX2_isKept_22 rfl (lv_at hl 1 rfl) ?_
        refine lv_iload_n hx hb dX2_isKept_23 rfl (lv_at hl 2 rfl) ?_
        obtain ⟨x17, S14, hc15, hf⟩ := cl_of hf
        refine cl_RX2_123 (As := [.int a1, .int a2]) (rest := []) hC hR hS (c_X3_isHad l G n q12 a1 a2 S5 x17 S14 hc15 ok_q12) ok_q12 rfl ⟨Nat.le_of_ble_eq_true rfl, Nat.le_of_ble_eq_true rfl⟩ hl.1 rfl (Nat.le_of_ble_eq_true rfl) dX2_isKept_24 (Nat.zero_le _) (Nat.zero_le _) (fun H locs hR hS hE16 => ?_)
        have ok_this := hE16 _ _ ok_this
        have ok_q9 := hE16 _ _ ok_q9
        have ok_q12 := hE16 _ _ ok_q12
        have hE := hE.tr hE16
        refine lv_if_ne (tgt := 32) hx hb dX2_isKept_27 (by decide) (fun hc => ?_) (fun hc => ?_)
        · replace hf := if_f hf hc
          refine r_iinc (n := 1) (z := 1) (lv' := fun x18 => [(4, .int x18), (0, .ref this), (1, .int a1), (2, .int a2), (3, .int a3)]) hx hb dX2_isKept_32 hl (k := 4) rfl (by decide) (by decide) (fun _ => rfl) hf (fun x18 ls hf hl => ?_)
          refine lv_goto (tgt := 3) hx hb dX2_isKept_35 (by decide) ?_
          exact hL3_1 x18 S14 _ _ _ hf hR hS hE ok_this (lv_sub hl [1, 2, 3, 4, 0] rfl)
        · replace hf := if_t hf hc
          refine lv_iconst (v := 0) hx hb dX2_isKept_30 (by decide) ?_
          exact r_zret hC hR hS hE hf dX2_isKept_31
  exact hh19 n (0 : Int32) S _ _ _ hf hR hS hE ok_this (lv_sub hl [1, 2, 3, 4, 0] rfl)
abbrev rX2_leastMore : Room := { frames := 7, cells := 0, slots := 0, locals := 184 }
def f_X2_leastMore_L11 (n : Nat) (this : Nat) (a1 : Int32) (a2 : Int32) (a3 : Int32) (a4 : Int32) : Nat → Int32 → MS → Option (Int32 × MS)
  | 0, _, _ => none
  | k + 1, x9, S10 => jn (f_X2_leastMore_L11 n this a1 a2 a3 a4 k) fun rec11_8 => (if (99 : Int32) < x9 then some ((-1 : Int32), S10) else gR S10 (mR S10 this 6) 15 fun q11 => ck (inb (0 : Int32) (mN S10 q11)) (gR S10 (mR S10 q11 (0 : Int32).toNatClampNeg) 3 fun q14 => gR S10 (mR S10 this 3) 3 fun q16 => cv (f_X3_copyFrom n q14 q16 S10) fun S18 => gR S18 (mR S18 this 6) 15 fun q21 => ck (inb (0 : Int32) (mN S18 q21)) (gR S18 (mR S18 q21 (0 : Int32).toNatClampNeg) 3 fun q24 => gR S18 (mR S18 q24 2) 12 fun q26 => ck (inb a3 (mN S18 q26)) (bd (sI S18 q26 a3.toNatClampNeg x9) fun S29 => cl (f_X2_isKept n this a1 a2 a4 S29) fun x34 S31 => (if x34 = 0 then bd (x9 + (1 : Int32)) fun x35 => rec11_8 x35 S31 else gR S31 (mR S31 this 3) 3 fun q36 => gR S31 (mR S31 q36 2) 12 fun q38 => ck (inb a3 (mN S31 q38)) (some ((x9 - (mI S31 q38 a3.toNatClampNeg)), S31)))))))
def f_X2_leastMore (n : Nat) (this : Nat) (a1 : Int32) (a2 : Int32) (a3 : Int32) (a4 : Int32) (S : MS) : Option (Int32 × MS) :=
  gR S (mR S this 3) 3 fun q1 => gR S (mR S q1 2) 12 fun q3 => ck (inb a3 (mN S q3)) (bd (mI S q3 a3.toNatClampNeg) fun x6 => f_X2_leastMore_L11 n this a1 a2 a3 a4 n x6 S)
set_option maxRecDepth 100000 in
set_option maxHeartbeats 4000000 in
theorem c_X2_leastMore (l : Launch) (G : Gx) (n : Nat) (this : Nat) (a1 : Int32) (a2 : Int32) (a3 : Int32) (a4 : Int32) (S : MS) (ro : Int32) (So : MS) (hf : f_X2_leastMore n this a1 a2 a3 a4 S = some (ro, So)) (ok_this : Ok S this 2) : Cn G l yX2_leastMore cX2_leastMore 6 (some .int) rX2_leastMore [.ref this, .int a1, .int a2, .int a3, .int a4] S (some (.int ro)) So := by
  refine Cn.of (by decide) (Nat.le_of_ble_eq_true rfl) ?_
  intro p e s m args below meth c hC hname hR ls hl
  have hC : Cx G RX2 cX2_leastMore 6 (some .int) p s m args meth c := hC
  have hl : lv_has ls 6 [(0, .ref this), (1, .int a1), (2, .int a2), (3, .int a3), (4, .int a4)] := hl
  have hx := hC.x
  have hb := hC.b
  have hS : va_S (gA G) s.heap s.heap [] := va_S.rf
  have hE : Ex S S := Ex.rf S
  unfold f_X2_leastMore at hf
  refine lv_aload_n hx hb dX2_leastMore_0 rfl (lv_at hl 0 rfl) ?_
  obtain ⟨q1, hq2, ok_q1, hf⟩ := gR_of hf
  refine gf_RX2_17 hC hR ok_this hq2 dX2_leastMore_1 ?_
  obtain ⟨q3, hq4, ok_q3, hf⟩ := gR_of hf
  refine gf_RX2_131 hC hR ok_q1 hq4 dX2_leastMore_4 ?_
  refine lv_iload_n hx hb dX2_leastMore_7 rfl (lv_at hl 3 rfl) ?_
  obtain ⟨hi5, hf⟩ := ck_of hf
  refine r_iald hC hR ok_q3 hi5 dX2_leastMore_8 ?_
  refine bdi hf (fun x6 hf => ?_)
  refine lv_istore (lv' := [(5, .int x6), (0, .ref this), (1, .int a1), (2, .int a2), (3, .int a3), (4, .int a4)]) hx hb dX2_leastMore_9 hl (by decide) rfl (fun ls hl => ?_)
  have hh41 : ∀ k : Nat, ∀ (x9 : Int32) (S10 : MS) (H : Heap) (locs : List Loc) (ls : Array Slot), f_X2_leastMore_L11 n this a1 a2 a3 a4 k x9 S10 = some (ro, So) → Rp G S10 H → va_S (gA G) s.heap H locs → Ex S S10 → Ok S10 this 2 → lv_has ls 6 [(0, .ref this), (1, .int a1), (2, .int a2), (3, .int a3), (4, .int a4), (5, .int x9)] → W p l e rX2_leastMore s m args below meth c H locs 0 0 (MQ below (Qn G S (some (.int ro)) So) args s 0 0 (gA G)) (F0 m 11 ls []) := by
    intro k
    induction k with
    | zero =>
      intro x9 S10 H locs ls hf hR hS hE ok_this hl
      exact absurd hf (by rw [f_X2_leastMore_L11]; exact fun h => by cases h)
    | succ k ih =>
      intro x9 S10 H locs ls hf hR hS hE ok_this hl
      rw [f_X2_leastMore_L11] at hf
      obtain ⟨rec11_8, erec11_8, hf⟩ := jn_of2 hf
      have hL11_7 : ∀ (x9 : Int32) (S10 : MS) (H : Heap) (locs : List Loc) (ls : Array Slot), rec11_8 x9 S10 = some (ro, So) → Rp G S10 H → va_S (gA G) s.heap H locs → Ex S S10 → Ok S10 this 2 → lv_has ls 6 [(0, .ref this), (1, .int a1), (2, .int a2), (3, .int a3), (4, .int a4), (5, .int x9)] → W p l e rX2_leastMore s m args below meth c H locs 0 0 (MQ below (Qn G S (some (.int ro)) So) args s 0 0 (gA G)) (F0 m 11 ls []) := by
        intro x9 S10 H locs ls hf hR hS hE ok_this hl
        rw [erec11_8] at hf
        exact ih x9 S10 _ _ _ hf hR hS hE ok_this hl
      refine lv_iload hx hb dX2_leastMore_11 (lv_at hl 5 rfl) ?_
      refine lv_bipush (v := 99) hx hb dX2_leastMore_13 (by decide) ?_
      refine lv_icmp_gt (tgt := 74) hx hb dX2_leastMore_15 (by decide) (fun hc => ?_) (fun hc => ?_)
      · replace hf := if_t hf hc
        refine lv_iconst (v := -1) hx hb dX2_leastMore_74 (by decide) ?_
        exact r_iret hC hR hS hE hf dX2_leastMore_75
      · replace hf := if_f hf hc
        refine lv_aload_n hx hb dX2_leastMore_18 rfl (lv_at hl 0 rfl) ?_
        obtain ⟨q11, hq12, ok_q11, hf⟩ := gR_of hf
        refine gf_RX2_11 hC hR ok_this hq12 dX2_leastMore_19 ?_
        refine lv_iconst (v := 0) hx hb dX2_leastMore_22 (by decide) ?_
        obtain ⟨hi13, hf⟩ := ck_of hf
        obtain ⟨q14, hq15, ok_q14, hf⟩ := gR_of hf
        refine r_pald (v := .ref q14) hC hR ok_q11 hi13 dX2_leastMore_23 (by rw [hq15]; rfl) ?_
        refine lv_aload_n hx hb dX2_leastMore_24 rfl (lv_at hl 0 rfl) ?_
        obtain ⟨q16, hq17, ok_q16, hf⟩ := gR_of hf
        refine gf_RX2_17 hC hR ok_this hq17 dX2_leastMore_25 ?_
        obtain ⟨S18, hc19, hf⟩ := cv_of hf
        refine cl_RX2_36 (As := [.ref q16]) (rest := []) hC hR hS (c_X3_copyFrom l G n q14 q16 S10 S18 hc19 ok_q14 ok_q16) ok_q14 rfl ⟨Nat.le_of_ble_eq_true rfl, Nat.le_of_ble_eq_true rfl⟩ hl.1 rfl (Nat.le_of_ble_eq_true rfl) dX2_leastMore_28 (Nat.zero_le _) (Nat.zero_le _) (fun H locs hR hS hE20 => ?_)
        have ok_this := hE20 _ _ ok_this
        have ok_q11 := hE20 _ _ ok_q11
        have ok_q14 := hE20 _ _ ok_q14
        have ok_q16 := hE20 _ _ ok_q16
        have hE := hE.tr hE20
        refine lv_aload_n hx hb dX2_leastMore_31 rfl (lv_at hl 0 rfl) ?_
        obtain ⟨q21, hq22, ok_q21, hf⟩ := gR_of hf
        refine gf_RX2_11 hC hR ok_this hq22 dX2_leastMore_32 ?_
        refine lv_iconst (v := 0) hx hb dX2_leastMore_35 (by decide) ?_
        obtain ⟨hi23, hf⟩ := ck_of hf
        obtain ⟨q24, hq25, ok_q24, hf⟩ := gR_of hf
        refine r_pald (v := .ref q24) hC hR ok_q21 hi23 dX2_leastMore_36 (by rw [hq25]; rfl) ?_
        obtain ⟨q26, hq27, ok_q26, hf⟩ := gR_of hf
        refine gf_RX2_131 hC hR ok_q24 hq27 dX2_leastMore_37 ?_
        refine lv_iload_n hx hb dX2_leastMore_40 rfl (lv_at hl 3 rfl) ?_
        refine lv_iload hx hb dX2_leastMore_41 (lv_at hl 5 rfl) ?_
        obtain ⟨hi28, hf⟩ := ck_of hf
        refine rB_iast hC hR hS ok_q26 hi28 dX2_leastMore_43 hf (fun S29 H locs hf hR hS hE30 => ?_)
        have ok_this := hE30 _ _ ok_this
        have ok_q11 := hE30 _ _ ok_q11
        have ok_q14 := hE30 _ _ ok_q14
        have ok_q16 := hE30 _ _ ok_q16
        have ok_q21 := hE30 _ _ ok_q21
        have ok_q24 := hE30 _ _ ok_q24
        have ok_q26 := hE30 _ _ ok_q26
        have hE := hE.tr hE30
        refine lv_aload_n hx hb dX2_leastMore_44 rfl (lv_at hl 0 rfl) ?_
        refine lv_iload_n hx hb dX2_leastMore_45 rfl (lv_at hl 1 rfl) ?_
        refine lv_iload_n hx hb dX2_leastMore_46 rfl (lv_at hl 2 rfl) ?_
        refine lv_iload hx hb dX2_leastMore_47 (lv_at hl 4 rfl) ?_
        obtain ⟨x34, S31, hc32, hf⟩ := cl_of hf
        refine cl_RX2_134 (As := [.int a1, .int a2, .int a4]) (rest := []) hC hR hS (c_X2_isKept l G n this a1 a2 a4 S29 x34 S31 hc32 ok_this) ok_this rfl ⟨Nat.le_of_ble_eq_true rfl, Nat.le_of_ble_eq_true rfl⟩ hl.1 rfl (Nat.le_of_ble_eq_true rfl) dX2_leastMore_49 (Nat.zero_le _) (Nat.zero_le _) (fun H locs hR hS hE33 => ?_)
        have ok_this := hE33 _ _ ok_this
        have ok_q11 := hE33 _ _ ok_q11
        have ok_q14 := hE33 _ _ ok_q14
        have ok_q16 := hE33 _ _ ok_q16
        have ok_q21 := hE33 _ _ ok_q21
        have ok_q24 := hE33 _ _ ok_q24
        have ok_q26 := hE33 _ _ ok_q26
        have hE := hE.tr hE33
        refine lv_if_eq (tgt := 68) hx hb dX2_leastMore_52 (by decide) (fun hc => ?_) (fun hc => ?_)
        · replace hf := if_t hf hc
          refine r_iinc (n := 1) (z := 1) (lv' := fun x35 => [(5, .int x35), (0, .ref this), (1, .int a1), (2, .int a2), (3, .int a3), (4, .int a4)]) hx hb dX2_leastMore_68 hl (k := 5) rfl (by decide) (by decide) (fun _ => rfl) hf (fun x35 ls hf hl => ?_)
          refine lv_goto (tgt := 11) hx hb dX2_leastMore_71 (by decide) ?_
          exact hL11_7 x35 S31 _ _ _ hf hR hS hE ok_this (lv_sub hl [1, 2, 3, 4, 5, 0] rfl)
        · replace hf := if_f hf hc
          refine lv_iload hx hb dX2_leastMore_55 (lv_at hl 5 rfl) ?_
          refine lv_aload_n hx hb dX2_leastMore_57 rfl (lv_at hl 0 rfl) ?_
          obtain ⟨q36, hq37, ok_q36, hf⟩ := gR_of hf
          refine gf_RX2_17 hC hR ok_this hq37 dX2_leastMore_58 ?_
          obtain ⟨q38, hq39, ok_q38, hf⟩ := gR_of hf
          refine gf_RX2_131 hC hR ok_q36 hq39 dX2_leastMore_61 ?_
          refine lv_iload_n hx hb dX2_leastMore_64 rfl (lv_at hl 3 rfl) ?_
          obtain ⟨hi40, hf⟩ := ck_of hf
          refine r_iald hC hR ok_q38 hi40 dX2_leastMore_65 ?_
          refine lv_isub hx hb dX2_leastMore_66 ?_
          exact r_iret hC hR hS hE hf dX2_leastMore_67
  exact hh41 n x6 S _ _ _ hf hR hS hE ok_this (lv_sub hl [1, 2, 3, 4, 5, 0] rfl)
abbrev rX2_calmHours : Room := { frames := 6, cells := 0, slots := 0, locals := 160 }
def f_X2_calmHours_L15 (n : Nat) (this : Nat) : Nat → Int32 → MS → Option (Int32 × MS)
  | 0, _, _ => none
  | k + 1, x13, S14 => jn (f_X2_calmHours_L15 n this k) fun rec15_12 => (if (40 : Int32) ≤ x13 then some ((40 : Int32), S14) else cl (f_X2_goOn n this x13 S14) fun x18 S15 => (if x18 ≤ 0 then bd (x13 + (1 : Int32)) fun x19 => rec15_12 x19 S15 else some (x13, S15)))
def f_X2_calmHours (n : Nat) (this : Nat) (S : MS) : Option (Int32 × MS) :=
  gR S (mR S this 6) 15 fun q1 => ck (inb (0 : Int32) (mN S q1)) (gR S (mR S q1 (0 : Int32).toNatClampNeg) 3 fun q4 => gR S (mR S this 3) 3 fun q6 => cv (f_X3_copyFrom n q4 q6 S) fun S8 => f_X2_calmHours_L15 n this n (0 : Int32) S8)
set_option maxRecDepth 100000 in
set_option maxHeartbeats 4000000 in
theorem c_X2_calmHours (l : Launch) (G : Gx) (n : Nat) (this : Nat) (S : MS) (ro : Int32) (So : MS) (hf : f_X2_calmHours n this S = some (ro, So)) (ok_this : Ok S this 2) : Cn G l yX2_calmHours cX2_calmHours 2 (some .int) rX2_calmHours [.ref this] S (some (.int ro)) So := by
  refine Cn.of (by decide) (Nat.le_of_ble_eq_true rfl) ?_
  intro p e s m args below meth c hC hname hR ls hl
  have hC : Cx G RX2 cX2_calmHours 2 (some .int) p s m args meth c := hC
  have hl : lv_has ls 2 [(0, .ref this)] := hl
  have hx := hC.x
  have hb := hC.b
  have hS : va_S (gA G) s.heap s.heap [] := va_S.rf
  have hE : Ex S S := Ex.rf S
  unfold f_X2_calmHours at hf
  refine lv_aload_n hx hb dX2_calmHours_0 rfl (lv_at hl 0 rfl) ?_
  obtain ⟨q1, hq2, ok_q1, hf⟩ := gR_of hf
  refine gf_RX2_11 hC hR ok_this hq2 dX2_calmHours_1 ?_
  refine lv_iconst (v := 0) hx hb dX2_calmHours_4 (by decide) ?_
  obtain ⟨hi3, hf⟩ := ck_of hf
  obtain ⟨q4, hq5, ok_q4, hf⟩ := gR_of hf
  refine r_pald (v := .ref q4) hC hR ok_q1 hi3 dX2_calmHours_5 (by rw [hq5]; rfl) ?_
  refine lv_aload_n hx hb dX2_calmHours_6 rfl (lv_at hl 0 rfl) ?_
  obtain ⟨q6, hq7, ok_q6, hf⟩ := gR_of hf
  refine gf_RX2_17 hC hR ok_this hq7 dX2_calmHours_7 ?_
  obtain ⟨S8, hc9, hf⟩ := cv_of hf
  refine cl_RX2_36 (As := [.ref q6]) (rest := []) hC hR hS (c_X3_copyFrom l G n q4 q6 S S8 hc9 ok_q4 ok_q6) ok_q4 rfl ⟨Nat.le_of_ble_eq_true rfl, Nat.le_of_ble_eq_true rfl⟩ hl.1 rfl (Nat.le_of_ble_eq_true rfl) dX2_calmHours_10 (Nat.zero_le _) (Nat.zero_le _) (fun H locs hR hS hE10 => ?_)
  have ok_this := hE10 _ _ ok_this
  have ok_q1 := hE10 _ _ ok_q1
  have ok_q4 := hE10 _ _ ok_q4
  have ok_q6 := hE10 _ _ ok_q6
  have hE := hE.tr hE10
  refine lv_iconst (v := 0) hx hb dX2_calmHours_13 (by decide) ?_
  refine lv_istore_n (lv' := [(1, .int (0 : Int32)), (0, .ref this)]) hx hb dX2_calmHours_14 rfl hl (by decide) rfl (fun ls hl => ?_)
  have hh20 : ∀ k : Nat, ∀ (x13 : Int32) (S14 : MS) (H : Heap) (locs : List Loc) (ls : Array Slot), f_X2_calmHours_L15 n this k x13 S14 = some (ro, So) → Rp G S14 H → va_S (gA G) s.heap H locs → Ex S S14 → Ok S14 this 2 → lv_has ls 2 [(0, .ref this), (1, .int x13)] → W p l e rX2_calmHours s m args below meth c H locs 0 0 (MQ below (Qn G S (some (.int ro)) So) args s 0 0 (gA G)) (F0 m 15 ls []) := by
    intro k
    induction k with
    | zero =>
      intro x13 S14 H locs ls hf hR hS hE ok_this hl
      exact absurd hf (by rw [f_X2_calmHours_L15]; exact fun h => by cases h)
    | succ k ih =>
      intro x13 S14 H locs ls hf hR hS hE ok_this hl
      rw [f_X2_calmHours_L15] at hf
      obtain ⟨rec15_12, erec15_12, hf⟩ := jn_of2 hf
      have hL15_11 : ∀ (x13 : Int32) (S14 : MS) (H : Heap) (locs : List Loc) (ls : Array Slot), rec15_12 x13 S14 = some (ro, So) → Rp G S14 H → va_S (gA G) s.heap H locs → Ex S S14 → Ok S14 this 2 → lv_has ls 2 [(0, .ref this), (1, .int x13)] → W p l e rX2_calmHours s m args below meth c H locs 0 0 (MQ below (Qn G S (some (.int ro)) So) args s 0 0 (gA G)) (F0 m 15 ls []) := by
        intro x13 S14 H locs ls hf hR hS hE ok_this hl
        rw [erec15_12] at hf
        exact ih x13 S14 _ _ _ hf hR hS hE ok_this hl
      refine lv_iload_n hx hb dX2_calmHours_15 rfl (lv_at hl 1 rfl) ?_
      refine lv_bipush (v := 40) hx hb dX2_calmHours_16 (by decide) ?_
      refine lv_icmp_ge (tgt := 37) hx hb dX2_calmHours_18 (by decide) (fun hc => ?_) (fun hc => ?_)
      · replace hf := if_t hf hc
        refine lv_bipush (v := 40) hx hb dX2_calmHours_37 (by decide) ?_
        exact r_iret hC hR hS hE hf dX2_calmHours_39
      · replace hf := if_f hf hc
        refine lv_aload_n hx hb dX2_calmHours_21 rfl (lv_at hl 0 rfl) ?_
        refine lv_iload_n hx hb dX2_calmHours_22 rfl (lv_at hl 1 rfl) ?_
        obtain ⟨x18, S15, hc16, hf⟩ := cl_of hf
        refine cl_RX2_127 (As := [.int x13]) (rest := []) hC hR hS (c_X2_goOn l G n this x13 S14 x18 S15 hc16 ok_this) ok_this rfl ⟨Nat.le_of_ble_eq_true rfl, Nat.le_of_ble_eq_true rfl⟩ hl.1 rfl (Nat.le_of_ble_eq_true rfl) dX2_calmHours_23 (Nat.zero_le _) (Nat.zero_le _) (fun H locs hR hS hE17 => ?_)
        have ok_this := hE17 _ _ ok_this
        have hE := hE.tr hE17
        refine lv_if_le (tgt := 31) hx hb dX2_calmHours_26 (by decide) (fun hc => ?_) (fun hc => ?_)
        · replace hf := if_t hf hc
          refine r_iinc (n := 1) (z := 1) (lv' := fun x19 => [(1, .int x19), (0, .ref this)]) hx hb dX2_calmHours_31 hl (k := 1) rfl (by decide) (by decide) (fun _ => rfl) hf (fun x19 ls hf hl => ?_)
          refine lv_goto (tgt := 15) hx hb dX2_calmHours_34 (by decide) ?_
          exact hL15_11 x19 S15 _ _ _ hf hR hS hE ok_this (lv_sub hl [1, 0] rfl)
        · replace hf := if_f hf hc
          refine lv_iload_n hx hb dX2_calmHours_29 rfl (lv_at hl 1 rfl) ?_
          exact r_iret hC hR hS hE hf dX2_calmHours_30
  exact hh20 n (0 : Int32) S8 _ _ _ hf hR hS hE ok_this (lv_sub hl [1, 0] rfl)
abbrev rX3_disputed : Room := { frames := 3, cells := 0, slots := 0, locals := 74 }
def f_X3_disputed_L4 (n : Nat) (this : Nat) : Nat → Int32 → Int32 → MS → Option (Int32 × MS)
  | 0, _, _, _ => none
  | k + 1, x3, x4, S5 => jn (f_X3_disputed_L4 n this k) fun rec4_2 => (if (6 : Int32) ≤ x4 then some (x3, S5) else cl (f_X3_fieldHad n this x4 S5) fun x9 S6 => cl (f_X3_holders n this x9 S6) fun x13 S10 => cl (f_J6_bitCount_0f7a4 n x13 S10) fun x17 S14 => jn (fun (x20 : Int32) (S21 : MS) => bd (x4 + (1 : Int32)) fun x22 => rec4_2 x20 x22 S21) fun j41_19 => (if x17 ≤ (1 : Int32) then j41_19 x3 S14 else (if (x13 &&& (-x13)) = ((1 : Int32) <<< (x4 &&& 31)) then bd (x3 + (1 : Int32)) fun x23 => j41_19 x23 S14 else j41_19 x3 S14)))
def f_X3_disputed (n : Nat) (this : Nat) (S : MS) : Option (Int32 × MS) :=
  f_X3_disputed_L4 n this n (0 : Int32) (0 : Int32) S
set_option maxRecDepth 100000 in
set_option maxHeartbeats 4000000 in
theorem c_X3_disputed (l : Launch) (G : Gx) (n : Nat) (this : Nat) (S : MS) (ro : Int32) (So : MS) (hf : f_X3_disputed n this S = some (ro, So)) (ok_this : Ok S this 3) : Cn G l yX3_disputed cX3_disputed 4 (some .int) rX3_disputed [.ref this] S (some (.int ro)) So := by
  refine Cn.of (by decide) (Nat.le_of_ble_eq_true rfl) ?_
  intro p e s m args below meth c hC hname hR ls hl
  have hC : Cx G RX3 cX3_disputed 4 (some .int) p s m args meth c := hC
  have hl : lv_has ls 4 [(0, .ref this)] := hl
  have hx := hC.x
  have hb := hC.b
  have hS : va_S (gA G) s.heap s.heap [] := va_S.rf
  have hE : Ex S S := Ex.rf S
  unfold f_X3_disputed at hf
  refine lv_iconst (v := 0) hx hb dX3_disputed_0 (by decide) ?_
  refine lv_istore_n (lv' := [(1, .int (0 : Int32)), (0, .ref this)]) hx hb dX3_disputed_1 rfl hl (by decide) rfl (fun ls hl => ?_)
  refine lv_iconst (v := 0) hx hb dX3_disputed_2 (by decide) ?_
  refine lv_istore_n (lv' := [(2, .int (0 : Int32)), (1, .int (0 : Int32)), (0, .ref this)]) hx hb dX3_disputed_3 rfl hl (by decide) rfl (fun ls hl => ?_)
  have hh26 : ∀ k : Nat, ∀ (x3 : Int32) (x4 : Int32) (S5 : MS) (H : Heap) (locs : List Loc) (ls : Array Slot), f_X3_disputed_L4 n this k x3 x4 S5 = some (ro, So) → Rp G S5 H → va_S (gA G) s.heap H locs → Ex S S5 → Ok S5 this 3 → lv_has ls 4 [(0, .ref this), (1, .int x3), (2, .int x4)] → W p l e rX3_disputed s m args below meth c H locs 0 0 (MQ below (Qn G S (some (.int ro)) So) args s 0 0 (gA G)) (F0 m 4 ls []) := by
    intro k
    induction k with
    | zero =>
      intro x3 x4 S5 H locs ls hf hR hS hE ok_this hl
      exact absurd hf (by rw [f_X3_disputed_L4]; exact fun h => by cases h)
    | succ k ih =>
      intro x3 x4 S5 H locs ls hf hR hS hE ok_this hl
      rw [f_X3_disputed_L4] at hf
      obtain ⟨rec4_2, erec4_2, hf⟩ := jn_of3 hf
      have hL4_1 : ∀ (x3 : Int32) (x4 : Int32) (S5 : MS) (H : Heap) (locs : List Loc) (ls : Array Slot), rec4_2 x3 x4 S5 = some (ro, So) → Rp G S5 H → va_S (gA G) s.heap H locs → Ex S S5 → Ok S5 this 3 → lv_has ls 4 [(0, .ref this), (1, .int x3), (2, .int x4)] → W p l e rX3_disputed s m args below meth c H locs 0 0 (MQ below (Qn G S (some (.int ro)) So) args s 0 0 (gA G)) (F0 m 4 ls []) := by
        intro x3 x4 S5 H locs ls hf hR hS hE ok_this hl
        rw [erec4_2] at hf
        exact ih x3 x4 S5 _ _ _ hf hR hS hE ok_this hl
      refine lv_iload_n hx hb dX3_disputed_4 rfl (lv_at hl 2 rfl) ?_
      refine lv_bipush (v := 6) hx hb dX3_disputed_5 (by decide) ?_
      refine lv_icmp_ge (tgt := 47) hx hb dX3_disputed_7 (by decide) (fun hc => ?_) (fun hc => ?_)
      · replace hf := if_t hf hc
        refine lv_iload_n hx hb dX3_disputed_47 rfl (lv_at hl 1 rfl) ?_
        exact r_iret hC hR hS hE hf dX3_disputed_48
      · replace hf := if_f hf hc
        refine lv_aload_n hx hb dX3_disputed_10 rfl (lv_at hl 0 rfl) ?_
        refine lv_aload_n hx hb dX3_disputed_11 rfl (lv_at hl 0 rfl) ?_
        refine lv_iload_n hx hb dX3_disputed_12 rfl (lv_at hl 2 rfl) ?_
        obtain ⟨x9, S6, hc7, hf⟩ := cl_of hf
        refine cl_RX3_123 (As := [.int x4]) (rest := [.ref this]) hC hR hS (c_X3_fieldHad l G n this x4 S5 x9 S6 hc7 ok_this) ok_this rfl ⟨Nat.le_of_ble_eq_true rfl, Nat.le_of_ble_eq_true rfl⟩ hl.1 rfl (Nat.le_of_ble_eq_true rfl) dX3_disputed_13 (Nat.zero_le _) (Nat.zero_le _) (fun H locs hR hS hE8 => ?_)
        have ok_this := hE8 _ _ ok_this
        have hE := hE.tr hE8
        obtain ⟨x13, S10, hc11, hf⟩ := cl_of hf
        refine cl_RX3_127 (As := [.long x9]) (rest := []) hC hR hS (c_X3_holders l G n this x9 S6 x13 S10 hc11 ok_this) ok_this rfl ⟨Nat.le_of_ble_eq_true rfl, Nat.le_of_ble_eq_true rfl⟩ hl.1 rfl (Nat.le_of_ble_eq_true rfl) dX3_disputed_16 (Nat.zero_le _) (Nat.zero_le _) (fun H locs hR hS hE12 => ?_)
        have ok_this := hE12 _ _ ok_this
        have hE := hE.tr hE12
        refine lv_istore_n (lv' := [(3, .int x13), (0, .ref this), (1, .int x3), (2, .int x4)]) hx hb dX3_disputed_19 rfl hl (by decide) rfl (fun ls hl => ?_)
        refine lv_iload_n hx hb dX3_disputed_20 rfl (lv_at hl 0 rfl) ?_
        obtain ⟨x17, S14, hc15, hf⟩ := cl_of hf
        refine cl_RX3_131 (As := [.int x13]) (rest := []) hC hR hS (c_J6_bitCount_0f7a4 l G n x13 S10 x17 S14 hc15 ) rfl ⟨Nat.le_of_ble_eq_true rfl, Nat.le_of_ble_eq_true rfl⟩ hl.1 rfl (Nat.le_of_ble_eq_true rfl) dX3_disputed_21 (Nat.zero_le _) (Nat.zero_le _) (fun H locs hR hS hE16 => ?_)
        have ok_this := hE16 _ _ ok_this
        have hE := hE.tr hE16
        refine lv_iconst (v := 1) hx hb dX3_disputed_24 (by decide) ?_
        obtain ⟨j41_19, ej41_19, hf⟩ := jn_of2 hf
        have hj41_18 : ∀ (x20 : Int32) (S21 : MS) (H : Heap) (locs : List Loc) (ls : Array Slot), j41_19 x20 S21 = some (ro, So) → Rp G S21 H → va_S (gA G) s.heap H locs → Ex S S21 → Ok S21 this 3 → lv_has ls 4 [(0, .ref this), (1, .int x20), (2, .int x4)] → W p l e rX3_disputed s m args below meth c H locs 0 0 (MQ below (Qn G S (some (.int ro)) So) args s 0 0 (gA G)) (F0 m 41 ls []) := by
          intro x20 S21 H locs ls hf hR hS hE ok_this hl
          rw [ej41_19] at hf
          refine r_iinc (n := 1) (z := 1) (lv' := fun x22 => [(2, .int x22), (0, .ref this), (1, .int x20)]) hx hb dX3_disputed_41 hl (k := 2) rfl (by decide) (by decide) (fun _ => rfl) hf (fun x22 ls hf hl => ?_)
          refine lv_goto (tgt := 4) hx hb dX3_disputed_44 (by decide) ?_
          exact hL4_1 x20 x22 S21 _ _ _ hf hR hS hE ok_this (lv_sub hl [1, 2, 0] rfl)
        refine lv_icmp_le (tgt := 41) hx hb dX3_disputed_25 (by decide) (fun hc => ?_) (fun hc => ?_)
        · replace hf := if_t hf hc
          exact hj41_18 x3 S14 _ _ _ hf hR hS hE ok_this (lv_sub hl [1, 2, 3] rfl)
        · replace hf := if_f hf hc
          refine lv_iload_n hx hb dX3_disputed_28 rfl (lv_at hl 0 rfl) ?_
          refine lv_iload_n hx hb dX3_disputed_29 rfl (lv_at hl 0 rfl) ?_
          refine lv_ineg hx hb dX3_disputed_30 ?_
          refine lv_iand hx hb dX3_disputed_31 ?_
          refine lv_iconst (v := 1) hx hb dX3_disputed_32 (by decide) ?_
          refine lv_iload_n hx hb dX3_disputed_33 rfl (lv_at hl 3 rfl) ?_
          refine lv_ishl hx hb dX3_disputed_34 ?_
          refine lv_icmp_ne (tgt := 41) hx hb dX3_disputed_35 (by decide) (fun hc => ?_) (fun hc => ?_)
          · replace hf := if_f hf hc
            exact hj41_18 x3 S14 _ _ _ hf hR hS hE ok_this (lv_sub hl [1, 2, 3] rfl)
          · replace hf := if_t hf hc
            refine r_iinc (n := 1) (z := 1) (lv' := fun x23 => [(1, .int x23), (3, .int x13), (0, .ref this), (2, .int x4)]) hx hb dX3_disputed_38 hl (k := 2) rfl (by decide) (by decide) (fun _ => rfl) hf (fun x23 ls hf hl => ?_)
            exact hj41_18 x23 S14 _ _ _ hf hR hS hE ok_this (lv_sub hl [2, 0, 3] rfl)
  exact hh26 n (0 : Int32) (0 : Int32) S _ _ _ hf hR hS hE ok_this (lv_sub hl [2, 1, 0] rfl)
abbrev rX2_disputedBehind : Room := { frames := 6, cells := 0, slots := 0, locals := 160 }
def f_X2_disputedBehind_L17 (n : Nat) (this : Nat) (a1 : Int32) : Nat → Int32 → Int32 → MS → Option (Int32 × MS)
  | 0, _, _, _ => none
  | k + 1, x13, x14, S15 => jn (f_X2_disputedBehind_L17 n this a1 k) fun rec17_12 => (if a1 ≤ x14 then some (x13, S15) else cl (f_X2_goOn n this x14 S15) fun x19 S16 => gR S16 (mR S16 this 6) 15 fun q20 => ck (inb (0 : Int32) (mN S16 q20)) (gR S16 (mR S16 q20 (0 : Int32).toNatClampNeg) 3 fun q23 => cl (f_X3_disputed n q23 S16) fun x28 S25 => bd (x13 + x28) fun x29 => bd (x14 + (1 : Int32)) fun x30 => rec17_12 x29 x30 S25))
def f_X2_disputedBehind (n : Nat) (this : Nat) (a1 : Int32) (S : MS) : Option (Int32 × MS) :=
  gR S (mR S this 6) 15 fun q1 => ck (inb (0 : Int32) (mN S q1)) (gR S (mR S q1 (0 : Int32).toNatClampNeg) 3 fun q4 => gR S (mR S this 3) 3 fun q6 => cv (f_X3_copyFrom n q4 q6 S) fun S8 => f_X2_disputedBehind_L17 n this a1 n (0 : Int32) (0 : Int32) S8)
set_option maxRecDepth 100000 in
set_option maxHeartbeats 4000000 in
theorem c_X2_disputedBehind (l : Launch) (G : Gx) (n : Nat) (this : Nat) (a1 : Int32) (S : MS) (ro : Int32) (So : MS) (hf : f_X2_disputedBehind n this a1 S = some (ro, So)) (ok_this : Ok S this 2) : Cn G l yX2_disputedBehind cX2_disputedBehind 4 (some .int) rX2_disputedBehind [.ref this, .int a1] S (some (.int ro)) So := by
  refine Cn.of (by decide) (Nat.le_of_ble_eq_true rfl) ?_
  intro p e s m args below meth c hC hname hR ls hl
  have hC : Cx G RX2 cX2_disputedBehind 4 (some .int) p s m args meth c := hC
  have hl : lv_has ls 4 [(0, .ref this), (1, .int a1)] := hl
  have hx := hC.x
  have hb := hC.b
  have hS : va_S (gA G) s.heap s.heap [] := va_S.rf
  have hE : Ex S S := Ex.rf S
  unfold f_X2_disputedBehind at hf
  refine lv_iconst (v := 0) hx hb dX2_disputedBehind_0 (by decide) ?_
  refine lv_istore_n (lv' := [(2, .int (0 : Int32)), (0, .ref this), (1, .int a1)]) hx hb dX2_disputedBehind_1 rfl hl (by decide) rfl (fun ls hl => ?_)
  refine lv_aload_n hx hb dX2_disputedBehind_2 rfl (lv_at hl 1 rfl) ?_
  obtain ⟨q1, hq2, ok_q1, hf⟩ := gR_of hf
  refine gf_RX2_11 hC hR ok_this hq2 dX2_disputedBehind_3 ?_
  refine lv_iconst (v := 0) hx hb dX2_disputedBehind_6 (by decide) ?_
  obtain ⟨hi3, hf⟩ := ck_of hf
  obtain ⟨q4, hq5, ok_q4, hf⟩ := gR_of hf
  refine r_pald (v := .ref q4) hC hR ok_q1 hi3 dX2_disputedBehind_7 (by rw [hq5]; rfl) ?_
  refine lv_aload_n hx hb dX2_disputedBehind_8 rfl (lv_at hl 1 rfl) ?_
  obtain ⟨q6, hq7, ok_q6, hf⟩ := gR_of hf
  refine gf_RX2_17 hC hR ok_this hq7 dX2_disputedBehind_9 ?_
  obtain ⟨S8, hc9, hf⟩ := cv_of hf
  refine cl_RX2_36 (As := [.ref q6]) (rest := []) hC hR hS (c_X3_copyFrom l G n q4 q6 S S8 hc9 ok_q4 ok_q6) ok_q4 rfl ⟨Nat.le_of_ble_eq_true rfl, Nat.le_of_ble_eq_true rfl⟩ hl.1 rfl (Nat.le_of_ble_eq_true rfl) dX2_disputedBehind_12 (Nat.zero_le _) (Nat.zero_le _) (fun H locs hR hS hE10 => ?_)
  have ok_this := hE10 _ _ ok_this
  have ok_q1 := hE10 _ _ ok_q1
  have ok_q4 := hE10 _ _ ok_q4
  have ok_q6 := hE10 _ _ ok_q6
  have hE := hE.tr hE10
  refine lv_iconst (v := 0) hx hb dX2_disputedBehind_15 (by decide) ?_
  refine lv_istore_n (lv' := [(3, .int (0 : Int32)), (2, .int (0 : Int32)), (0, .ref this), (1, .int a1)]) hx hb dX2_disputedBehind_16 rfl hl (by decide) rfl (fun ls hl => ?_)
  have hh31 : ∀ k : Nat, ∀ (x13 : Int32) (x14 : Int32) (S15 : MS) (H : Heap) (locs : List Loc) (ls : Array Slot), f_X2_disputedBehind_L17 n this a1 k x13 x14 S15 = some (ro, So) → Rp G S15 H → va_S (gA G) s.heap H locs → Ex S S15 → Ok S15 this 2 → lv_has ls 4 [(0, .ref this), (1, .int a1), (2, .int x13), (3, .int x14)] → W p l e rX2_disputedBehind s m args below meth c H locs 0 0 (MQ below (Qn G S (some (.int ro)) So) args s 0 0 (gA G)) (F0 m 17 ls []) := by
    intro k
    induction k with
    | zero =>
      intro x13 x14 S15 H locs ls hf hR hS hE ok_this hl
      exact absurd hf (by rw [f_X2_disputedBehind_L17]; exact fun h => by cases h)
    | succ k ih =>
      intro x13 x14 S15 H locs ls hf hR hS hE ok_this hl
      rw [f_X2_disputedBehind_L17] at hf
      obtain ⟨rec17_12, erec17_12, hf⟩ := jn_of3 hf
      have hL17_11 : ∀ (x13 : Int32) (x14 : Int32) (S15 : MS) (H : Heap) (locs : List Loc) (ls : Array Slot), rec17_12 x13 x14 S15 = some (ro, So) → Rp G S15 H → va_S (gA G) s.heap H locs → Ex S S15 → Ok S15 this 2 → lv_has ls 4 [(0, .ref this), (1, .int a1), (2, .int x13), (3, .int x14)] → W p l e rX2_disputedBehind s m args below meth c H locs 0 0 (MQ below (Qn G S (some (.int ro)) So) args s 0 0 (gA G)) (F0 m 17 ls []) := by
        intro x13 x14 S15 H locs ls hf hR hS hE ok_this hl
        rw [erec17_12] at hf
        exact ih x13 x14 S15 _ _ _ hf hR hS hE ok_this hl
      refine lv_iload_n hx hb dX2_disputedBehind_17 rfl (lv_at hl 3 rfl) ?_
      refine lv_iload_n hx hb dX2_disputedBehind_18 rfl (lv_at hl 1 rfl) ?_
      refine lv_icmp_ge (tgt := 46) hx hb dX2_disputedBehind_19 (by decide) (fun hc => ?_) (fun hc => ?_)
      · replace hf := if_t hf hc
        refine lv_iload_n hx hb dX2_disputedBehind_46 rfl (lv_at hl 2 rfl) ?_
        exact r_iret hC hR hS hE hf dX2_disputedBehind_47
      · replace hf := if_f hf hc
        refine lv_aload_n hx hb dX2_disputedBehind_22 rfl (lv_at hl 0 rfl) ?_
        refine lv_iload_n hx hb dX2_disputedBehind_23 rfl (lv_at hl 3 rfl) ?_
        obtain ⟨x19, S16, hc17, hf⟩ := cl_of hf
        refine cl_RX2_127 (As := [.int x14]) (rest := []) hC hR hS (c_X2_goOn l G n this x14 S15 x19 S16 hc17 ok_this) ok_this rfl ⟨Nat.le_of_ble_eq_true rfl, Nat.le_of_ble_eq_true rfl⟩ hl.1 rfl (Nat.le_of_ble_eq_true rfl) dX2_disputedBehind_24 (Nat.zero_le _) (Nat.zero_le _) (fun H locs hR hS hE18 => ?_)
        have ok_this := hE18 _ _ ok_this
        have hE := hE.tr hE18
        refine lv_pop hx hb dX2_disputedBehind_27 rfl ?_
        refine lv_iload_n hx hb dX2_disputedBehind_28 rfl (lv_at hl 2 rfl) ?_
        refine lv_aload_n hx hb dX2_disputedBehind_29 rfl (lv_at hl 0 rfl) ?_
        obtain ⟨q20, hq21, ok_q20, hf⟩ := gR_of hf
        refine gf_RX2_11 hC hR ok_this hq21 dX2_disputedBehind_30 ?_
        refine lv_iconst (v := 0) hx hb dX2_disputedBehind_33 (by decide) ?_
        obtain ⟨hi22, hf⟩ := ck_of hf
        obtain ⟨q23, hq24, ok_q23, hf⟩ := gR_of hf
        refine r_pald (v := .ref q23) hC hR ok_q20 hi22 dX2_disputedBehind_34 (by rw [hq24]; rfl) ?_
        obtain ⟨x28, S25, hc26, hf⟩ := cl_of hf
        refine cl_RX2_138 (As := []) (rest := [.int x13]) hC hR hS (c_X3_disputed l G n q23 S16 x28 S25 hc26 ok_q23) ok_q23 rfl ⟨Nat.le_of_ble_eq_true rfl, Nat.le_of_ble_eq_true rfl⟩ hl.1 rfl (Nat.le_of_ble_eq_true rfl) dX2_disputedBehind_35 (Nat.zero_le _) (Nat.zero_le _) (fun H locs hR hS hE27 => ?_)
        have ok_this := hE27 _ _ ok_this
        have ok_q20 := hE27 _ _ ok_q20
        have ok_q23 := hE27 _ _ ok_q23
        have hE := hE.tr hE27
        refine lv_iadd hx hb dX2_disputedBehind_38 ?_
        refine bdi hf (fun x29 hf => ?_)
        refine lv_istore_n (lv' := [(2, .int x29), (0, .ref this), (1, .int a1), (3, .int x14)]) hx hb dX2_disputedBehind_39 rfl hl (by decide) rfl (fun ls hl => ?_)
        refine r_iinc (n := 1) (z := 1) (lv' := fun x30 => [(3, .int x30), (2, .int x29), (0, .ref this), (1, .int a1)]) hx hb dX2_disputedBehind_40 hl (k := 3) rfl (by decide) (by decide) (fun _ => rfl) hf (fun x30 ls hf hl => ?_)
        refine lv_goto (tgt := 17) hx hb dX2_disputedBehind_43 (by decide) ?_
        exact hL17_11 x29 x30 S25 _ _ _ hf hR hS hE ok_this (lv_sub hl [2, 3, 1, 0] rfl)
  exact hh31 n (0 : Int32) (0 : Int32) S8 _ _ _ hf hR hS hE ok_this (lv_sub hl [2, 3, 1, 0] rfl)
abbrev rX2_isMapped : Room := { frames := 0, cells := 0, slots := 0, locals := 0 }
def f_X2_isMapped_L2 (n : Nat) (this : Nat) (a1 : Nat) : Nat → Int32 → MS → Option (Int32 × MS)
  | 0, _, _ => none
  | k + 1, x3, S4 => jn (f_X2_isMapped_L2 n this a1 k) fun rec2_2 => (if (mI S4 a1 7) ≤ x3 then zb (1 : Int32) (some ((1 : Int32), S4)) else gR S4 (mR S4 this 4) 8 fun q5 => gR S4 (mR S4 q5 5) 12 fun q7 => ck (inb x3 (mN S4 q7)) (jn (fun (S12 : MS) => bd (x3 + (1 : Int32)) fun x13 => rec2_2 x13 S12) fun j43_11 => (if (mI S4 q7 x3.toNatClampNeg) = (-1 : Int32) then j43_11 S4 else gR S4 (mR S4 this 4) 8 fun q14 => gR S4 (mR S4 q14 5) 12 fun q16 => ck (inb x3 (mN S4 q16)) (gR S4 (mR S4 a1 1) 12 fun q19 => ck (inb x3 (mN S4 q19)) ((if (mI S4 q16 x3.toNatClampNeg) = (mI S4 q19 x3.toNatClampNeg) then j43_11 S4 else zb (0 : Int32) (some ((0 : Int32), S4))))))))
def f_X2_isMapped (n : Nat) (this : Nat) (a1 : Nat) (S : MS) : Option (Int32 × MS) :=
  f_X2_isMapped_L2 n this a1 n (0 : Int32) S
set_option maxRecDepth 100000 in
set_option maxHeartbeats 4000000 in
theorem c_X2_isMapped (l : Launch) (G : Gx) (n : Nat) (this : Nat) (a1 : Nat) (S : MS) (ro : Int32) (So : MS) (hf : f_X2_isMapped n this a1 S = some (ro, So)) (ok_this : Ok S this 2) (ok_a1 : Ok S a1 3) : Cn G l yX2_isMapped cX2_isMapped 3 (some .boolean) rX2_isMapped [.ref this, .ref a1] S (some (.int ro)) So := by
  refine Cn.of (by decide) (Nat.le_of_ble_eq_true rfl) ?_
  intro p e s m args below meth c hC hname hR ls hl
  have hC : Cx G RX2 cX2_isMapped 3 (some .boolean) p s m args meth c := hC
  have hl : lv_has ls 3 [(0, .ref this), (1, .ref a1)] := hl
  have hx := hC.x
  have hb := hC.b
  have hS : va_S (gA G) s.heap s.heap [] := va_S.rf
  have hE : Ex S S := Ex.rf S
  unfold f_X2_isMapped at hf
  refine lv_iconst (v := 0) hx hb dX2_isMapped_0 (by decide) ?_
  refine lv_istore_n (lv' := [(2, .int (0 : Int32)), (0, .ref this), (1, .ref a1)]) hx hb dX2_isMapped_1 rfl hl (by decide) rfl (fun ls hl => ?_)
  have hh23 : ∀ k : Nat, ∀ (x3 : Int32) (S4 : MS) (H : Heap) (locs : List Loc) (ls : Array Slot), f_X2_isMapped_L2 n this a1 k x3 S4 = some (ro, So) → Rp G S4 H → va_S (gA G) s.heap H locs → Ex S S4 → Ok S4 this 2 → Ok S4 a1 3 → lv_has ls 3 [(0, .ref this), (1, .ref a1), (2, .int x3)] → W p l e rX2_isMapped s m args below meth c H locs 0 0 (MQ below (Qn G S (some (.int ro)) So) args s 0 0 (gA G)) (F0 m 2 ls []) := by
    intro k
    induction k with
    | zero =>
      intro x3 S4 H locs ls hf hR hS hE ok_this ok_a1 hl
      exact absurd hf (by rw [f_X2_isMapped_L2]; exact fun h => by cases h)
    | succ k ih =>
      intro x3 S4 H locs ls hf hR hS hE ok_this ok_a1 hl
      rw [f_X2_isMapped_L2] at hf
      obtain ⟨rec2_2, erec2_2, hf⟩ := jn_of2 hf
      have hL2_1 : ∀ (x3 : Int32) (S4 : MS) (H : Heap) (locs : List Loc) (ls : Array Slot), rec2_2 x3 S4 = some (ro, So) → Rp G S4 H → va_S (gA G) s.heap H locs → Ex S S4 → Ok S4 this 2 → Ok S4 a1 3 → lv_has ls 3 [(0, .ref this), (1, .ref a1), (2, .int x3)] → W p l e rX2_isMapped s m args below meth c H locs 0 0 (MQ below (Qn G S (some (.int ro)) So) args s 0 0 (gA G)) (F0 m 2 ls []) := by
        intro x3 S4 H locs ls hf hR hS hE ok_this ok_a1 hl
        rw [erec2_2] at hf
        exact ih x3 S4 _ _ _ hf hR hS hE ok_this ok_a1 hl
      refine lv_iload_n hx hb dX2_isMapped_2 rfl (lv_at hl 2 rfl) ?_
      refine lv_aload_n hx hb dX2_isMapped_3 rfl (lv_at hl 1 rfl) ?_
      refine gf_RX2_66 hC hR ok_a1 dX2_isMapped_4 ?_
      refine lv_icmp_ge (tgt := 49) hx hb dX2_isMapped_7 (by decide) (fun hc => ?_) (fun hc => ?_)
      · replace hf := if_t hf hc
        refine lv_iconst (v := 1) hx hb dX2_isMapped_49 (by decide) ?_
        exact r_zret hC hR hS hE hf dX2_isMapped_50
      · replace hf := if_f hf hc
        refine lv_aload_n hx hb dX2_isMapped_10 rfl (lv_at hl 0 rfl) ?_
        obtain ⟨q5, hq6, ok_q5, hf⟩ := gR_of hf
        refine gf_RX2_21 hC hR ok_this hq6 dX2_isMapped_11 ?_
        obtain ⟨q7, hq8, ok_q7, hf⟩ := gR_of hf
        refine gf_RX2_146 hC hR ok_q5 hq8 dX2_isMapped_14 ?_
        refine lv_iload_n hx hb dX2_isMapped_17 rfl (lv_at hl 2 rfl) ?_
        obtain ⟨hi9, hf⟩ := ck_of hf
        refine r_iald hC hR ok_q7 hi9 dX2_isMapped_18 ?_
        refine lv_iconst (v := -1) hx hb dX2_isMapped_19 (by decide) ?_
        obtain ⟨j43_11, ej43_11, hf⟩ := jn_of1 hf
        have hj43_10 : ∀ (S12 : MS) (H : Heap) (locs : List Loc) (ls : Array Slot), j43_11 S12 = some (ro, So) → Rp G S12 H → va_S (gA G) s.heap H locs → Ex S S12 → Ok S12 this 2 → Ok S12 a1 3 → lv_has ls 3 [(0, .ref this), (1, .ref a1), (2, .int x3)] → W p l e rX2_isMapped s m args below meth c H locs 0 0 (MQ below (Qn G S (some (.int ro)) So) args s 0 0 (gA G)) (F0 m 43 ls []) := by
          intro S12 H locs ls hf hR hS hE ok_this ok_a1 hl
          rw [ej43_11] at hf
          refine r_iinc (n := 1) (z := 1) (lv' := fun x13 => [(2, .int x13), (0, .ref this), (1, .ref a1)]) hx hb dX2_isMapped_43 hl (k := 2) rfl (by decide) (by decide) (fun _ => rfl) hf (fun x13 ls hf hl => ?_)
          refine lv_goto (tgt := 2) hx hb dX2_isMapped_46 (by decide) ?_
          exact hL2_1 x13 S12 _ _ _ hf hR hS hE ok_this ok_a1 (lv_sub hl [1, 2, 0] rfl)
        refine lv_icmp_eq (tgt := 43) hx hb dX2_isMapped_20 (by decide) (fun hc => ?_) (fun hc => ?_)
        · replace hf := if_t hf hc
          exact hj43_10 S4 _ _ _ hf hR hS hE ok_this ok_a1 (lv_sub hl [0, 1, 2] rfl)
        · replace hf := if_f hf hc
          refine lv_aload_n hx hb dX2_isMapped_23 rfl (lv_at hl 0 rfl) ?_
          obtain ⟨q14, hq15, ok_q14, hf⟩ := gR_of hf
          refine gf_RX2_21 hC hR ok_this hq15 dX2_isMapped_24 ?_
          obtain ⟨q16, hq17, ok_q16, hf⟩ := gR_of hf
          refine gf_RX2_146 hC hR ok_q14 hq17 dX2_isMapped_27 ?_
          refine lv_iload_n hx hb dX2_isMapped_30 rfl (lv_at hl 2 rfl) ?_
          obtain ⟨hi18, hf⟩ := ck_of hf
          refine r_iald hC hR ok_q16 hi18 dX2_isMapped_31 ?_
          refine lv_aload_n hx hb dX2_isMapped_32 rfl (lv_at hl 1 rfl) ?_
          obtain ⟨q19, hq20, ok_q19, hf⟩ := gR_of hf
          refine gf_RX2_149 hC hR ok_a1 hq20 dX2_isMapped_33 ?_
          refine lv_iload_n hx hb dX2_isMapped_36 rfl (lv_at hl 2 rfl) ?_
          obtain ⟨hi21, hf⟩ := ck_of hf
          refine r_iald hC hR ok_q19 hi21 dX2_isMapped_37 ?_
          refine lv_icmp_eq (tgt := 43) hx hb dX2_isMapped_38 (by decide) (fun hc => ?_) (fun hc => ?_)
          · replace hf := if_t hf hc
            exact hj43_10 S4 _ _ _ hf hR hS hE ok_this ok_a1 (lv_sub hl [0, 1, 2] rfl)
          · replace hf := if_f hf hc
            refine lv_iconst (v := 0) hx hb dX2_isMapped_41 (by decide) ?_
            exact r_zret hC hR hS hE hf dX2_isMapped_42
  exact hh23 n (0 : Int32) S _ _ _ hf hR hS hE ok_this ok_a1 (lv_sub hl [1, 2, 0] rfl)
abbrev rX2_makers : Room := { frames := 5, cells := 0, slots := 0, locals := 141 }
def f_X2_makers_L4 (n : Nat) (this : Nat) : Nat → Int32 → Int32 → MS → Option (Int32 × MS)
  | 0, _, _, _ => none
  | k + 1, x3, x4, S5 => jn (f_X2_makers_L4 n this k) fun rec4_2 => gR S5 (mR S5 this 4) 8 fun q6 => (if (mI S5 q6 6) ≤ x4 then some (x3, S5) else gR S5 (mR S5 this 6) 15 fun q8 => ck (inb (0 : Int32) (mN S5 q8)) (gR S5 (mR S5 q8 (0 : Int32).toNatClampNeg) 3 fun q11 => gR S5 (mR S5 this 3) 3 fun q13 => cv (f_X3_copyFrom n q11 q13 S5) fun S15 => gR S15 (mR S15 this 5) 9 fun q18 => gR S15 (mR S15 this 6) 15 fun q20 => ck (inb (0 : Int32) (mN S15 q20)) (gR S15 (mR S15 q20 (0 : Int32).toNatClampNeg) 3 fun q23 => cl (f_X9_blow n q18 q23 x4 S15) fun x28 S25 => gR S25 (mR S25 this 6) 15 fun q29 => ck (inb (0 : Int32) (mN S25 q29)) (gR S25 (mR S25 q29 (0 : Int32).toNatClampNeg) 3 fun q32 => cl (f_X2_isMapped n this q32 S25) fun x37 S34 => jn (fun (x40 : Int32) (x41 : Int32) (S42 : MS) => bd (x40 ||| x41) fun x43 => bd (x4 + (1 : Int32)) fun x44 => rec4_2 x43 x44 S42) fun j64_39 => (if x37 = 0 then j64_39 x3 (0 : Int32) S34 else j64_39 x3 ((1 : Int32) <<< (x4 &&& 31)) S34)))))
def f_X2_makers (n : Nat) (this : Nat) (S : MS) : Option (Int32 × MS) :=
  f_X2_makers_L4 n this n (0 : Int32) (0 : Int32) S
set_option maxRecDepth 100000 in
set_option maxHeartbeats 4000000 in
theorem c_X2_makers (l : Launch) (G : Gx) (n : Nat) (this : Nat) (S : MS) (ro : Int32) (So : MS) (hf : f_X2_makers n this S = some (ro, So)) (ok_this : Ok S this 2) : Cn G l yX2_makers cX2_makers 3 (some .int) rX2_makers [.ref this] S (some (.int ro)) So := by
  refine Cn.of (by decide) (Nat.le_of_ble_eq_true rfl) ?_
  intro p e s m args below meth c hC hname hR ls hl
  have hC : Cx G RX2 cX2_makers 3 (some .int) p s m args meth c := hC
  have hl : lv_has ls 3 [(0, .ref this)] := hl
  have hx := hC.x
  have hb := hC.b
  have hS : va_S (gA G) s.heap s.heap [] := va_S.rf
  have hE : Ex S S := Ex.rf S
  unfold f_X2_makers at hf
  refine lv_iconst (v := 0) hx hb dX2_makers_0 (by decide) ?_
  refine lv_istore_n (lv' := [(1, .int (0 : Int32)), (0, .ref this)]) hx hb dX2_makers_1 rfl hl (by decide) rfl (fun ls hl => ?_)
  refine lv_iconst (v := 0) hx hb dX2_makers_2 (by decide) ?_
  refine lv_istore_n (lv' := [(2, .int (0 : Int32)), (1, .int (0 : Int32)), (0, .ref this)]) hx hb dX2_makers_3 rfl hl (by decide) rfl (fun ls hl => ?_)
  have hh48 : ∀ k : Nat, ∀ (x3 : Int32) (x4 : Int32) (S5 : MS) (H : Heap) (locs : List Loc) (ls : Array Slot), f_X2_makers_L4 n this k x3 x4 S5 = some (ro, So) → Rp G S5 H → va_S (gA G) s.heap H locs → Ex S S5 → Ok S5 this 2 → lv_has ls 3 [(0, .ref this), (1, .int x3), (2, .int x4)] → W p l e rX2_makers s m args below meth c H locs 0 0 (MQ below (Qn G S (some (.int ro)) So) args s 0 0 (gA G)) (F0 m 4 ls []) := by
    intro k
    induction k with
    | zero =>
      intro x3 x4 S5 H locs ls hf hR hS hE ok_this hl
      exact absurd hf (by rw [f_X2_makers_L4]; exact fun h => by cases h)
    | succ k ih =>
      intro x3 x4 S5 H locs ls hf hR hS hE ok_this hl
      rw [f_X2_makers_L4] at hf
      obtain ⟨rec4_2, erec4_2, hf⟩ := jn_of3 hf
      have hL4_1 : ∀ (x3 : Int32) (x4 : Int32) (S5 : MS) (H : Heap) (locs : List Loc) (ls : Array Slot), rec4_2 x3 x4 S5 = some (ro, So) → Rp G S5 H → va_S (gA G) s.heap H locs → Ex S S5 → Ok S5 this 2 → lv_has ls 3 [(0, .ref this), (1, .int x3), (2, .int x4)] → W p l e rX2_makers s m args below meth c H locs 0 0 (MQ below (Qn G S (some (.int ro)) So) args s 0 0 (gA G)) (F0 m 4 ls []) := by
        intro x3 x4 S5 H locs ls hf hR hS hE ok_this hl
        rw [erec4_2] at hf
        exact ih x3 x4 S5 _ _ _ hf hR hS hE ok_this hl
      refine lv_iload_n hx hb dX2_makers_4 rfl (lv_at hl 2 rfl) ?_
      refine lv_aload_n hx hb dX2_makers_5 rfl (lv_at hl 0 rfl) ?_
      obtain ⟨q6, hq7, ok_q6, hf⟩ := gR_of hf
      refine gf_RX2_21 hC hR ok_this hq7 dX2_makers_6 ?_
      refine gf_RX2_103 hC hR ok_q6 dX2_makers_9 ?_
      refine lv_icmp_ge (tgt := 72) hx hb dX2_makers_12 (by decide) (fun hc => ?_) (fun hc => ?_)
      · replace hf := if_t hf hc
        refine lv_iload_n hx hb dX2_makers_72 rfl (lv_at hl 1 rfl) ?_
        exact r_iret hC hR hS hE hf dX2_makers_73
      · replace hf := if_f hf hc
        refine lv_aload_n hx hb dX2_makers_15 rfl (lv_at hl 0 rfl) ?_
        obtain ⟨q8, hq9, ok_q8, hf⟩ := gR_of hf
        refine gf_RX2_11 hC hR ok_this hq9 dX2_makers_16 ?_
        refine lv_iconst (v := 0) hx hb dX2_makers_19 (by decide) ?_
        obtain ⟨hi10, hf⟩ := ck_of hf
        obtain ⟨q11, hq12, ok_q11, hf⟩ := gR_of hf
        refine r_pald (v := .ref q11) hC hR ok_q8 hi10 dX2_makers_20 (by rw [hq12]; rfl) ?_
        refine lv_aload_n hx hb dX2_makers_21 rfl (lv_at hl 0 rfl) ?_
        obtain ⟨q13, hq14, ok_q13, hf⟩ := gR_of hf
        refine gf_RX2_17 hC hR ok_this hq14 dX2_makers_22 ?_
        obtain ⟨S15, hc16, hf⟩ := cv_of hf
        refine cl_RX2_36 (As := [.ref q13]) (rest := []) hC hR hS (c_X3_copyFrom l G n q11 q13 S5 S15 hc16 ok_q11 ok_q13) ok_q11 rfl ⟨Nat.le_of_ble_eq_true rfl, Nat.le_of_ble_eq_true rfl⟩ hl.1 rfl (Nat.le_of_ble_eq_true rfl) dX2_makers_25 (Nat.zero_le _) (Nat.zero_le _) (fun H locs hR hS hE17 => ?_)
        have ok_this := hE17 _ _ ok_this
        have ok_q6 := hE17 _ _ ok_q6
        have ok_q8 := hE17 _ _ ok_q8
        have ok_q11 := hE17 _ _ ok_q11
        have ok_q13 := hE17 _ _ ok_q13
        have hE := hE.tr hE17
        refine lv_aload_n hx hb dX2_makers_28 rfl (lv_at hl 0 rfl) ?_
        obtain ⟨q18, hq19, ok_q18, hf⟩ := gR_of hf
        refine gf_RX2_25 hC hR ok_this hq19 dX2_makers_29 ?_
        refine lv_aload_n hx hb dX2_makers_32 rfl (lv_at hl 0 rfl) ?_
        obtain ⟨q20, hq21, ok_q20, hf⟩ := gR_of hf
        refine gf_RX2_11 hC hR ok_this hq21 dX2_makers_33 ?_
        refine lv_iconst (v := 0) hx hb dX2_makers_36 (by decide) ?_
        obtain ⟨hi22, hf⟩ := ck_of hf
        obtain ⟨q23, hq24, ok_q23, hf⟩ := gR_of hf
        refine r_pald (v := .ref q23) hC hR ok_q20 hi22 dX2_makers_37 (by rw [hq24]; rfl) ?_
        refine lv_iload_n hx hb dX2_makers_38 rfl (lv_at hl 2 rfl) ?_
        obtain ⟨x28, S25, hc26, hf⟩ := cl_of hf
        refine cl_RX2_110 (As := [.ref q23, .int x4]) (rest := []) hC hR hS (c_X9_blow l G n q18 q23 x4 S15 x28 S25 hc26 ok_q18 ok_q23) ok_q18 rfl ⟨Nat.le_of_ble_eq_true rfl, Nat.le_of_ble_eq_true rfl⟩ hl.1 rfl (Nat.le_of_ble_eq_true rfl) dX2_makers_39 (Nat.zero_le _) (Nat.zero_le _) (fun H locs hR hS hE27 => ?_)
        have ok_this := hE27 _ _ ok_this
        have ok_q6 := hE27 _ _ ok_q6
        have ok_q8 := hE27 _ _ ok_q8
        have ok_q11 := hE27 _ _ ok_q11
        have ok_q13 := hE27 _ _ ok_q13
        have ok_q18 := hE27 _ _ ok_q18
        have ok_q20 := hE27 _ _ ok_q20
        have ok_q23 := hE27 _ _ ok_q23
        have hE := hE.tr hE27
        refine lv_pop hx hb dX2_makers_42 rfl ?_
        refine lv_iload_n hx hb dX2_makers_43 rfl (lv_at hl 1 rfl) ?_
        refine lv_aload_n hx hb dX2_makers_44 rfl (lv_at hl 0 rfl) ?_
        refine lv_aload_n hx hb dX2_makers_45 rfl (lv_at hl 0 rfl) ?_
        obtain ⟨q29, hq30, ok_q29, hf⟩ := gR_of hf
        refine gf_RX2_11 hC hR ok_this hq30 dX2_makers_46 ?_
        refine lv_iconst (v := 0) hx hb dX2_makers_49 (by decide) ?_
        obtain ⟨hi31, hf⟩ := ck_of hf
        obtain ⟨q32, hq33, ok_q32, hf⟩ := gR_of hf
        refine r_pald (v := .ref q32) hC hR ok_q29 hi31 dX2_makers_50 (by rw [hq33]; rfl) ?_
        obtain ⟨x37, S34, hc35, hf⟩ := cl_of hf
        refine cl_RX2_142 (As := [.ref q32]) (rest := [.int x3]) hC hR hS (c_X2_isMapped l G n this q32 S25 x37 S34 hc35 ok_this ok_q32) ok_this rfl ⟨Nat.le_of_ble_eq_true rfl, Nat.le_of_ble_eq_true rfl⟩ hl.1 rfl (Nat.le_of_ble_eq_true rfl) dX2_makers_51 (Nat.zero_le _) (Nat.zero_le _) (fun H locs hR hS hE36 => ?_)
        have ok_this := hE36 _ _ ok_this
        have ok_q6 := hE36 _ _ ok_q6
        have ok_q8 := hE36 _ _ ok_q8
        have ok_q11 := hE36 _ _ ok_q11
        have ok_q13 := hE36 _ _ ok_q13
        have ok_q18 := hE36 _ _ ok_q18
        have ok_q20 := hE36 _ _ ok_q20
        have ok_q23 := hE36 _ _ ok_q23
        have ok_q29 := hE36 _ _ ok_q29
        have ok_q32 := hE36 _ _ ok_q32
        have hE := hE.tr hE36
        obtain ⟨j64_39, ej64_39, hf⟩ := jn_of3 hf
        have hj64_38 : ∀ (x40 : Int32) (x41 : Int32) (S42 : MS) (H : Heap) (locs : List Loc) (ls : Array Slot), j64_39 x40 x41 S42 = some (ro, So) → Rp G S42 H → va_S (gA G) s.heap H locs → Ex S S42 → Ok S42 this 2 → lv_has ls 3 [(0, .ref this), (2, .int x4)] → W p l e rX2_makers s m args below meth c H locs 0 0 (MQ below (Qn G S (some (.int ro)) So) args s 0 0 (gA G)) (F0 m 64 ls [.int x41, .int x40]) := by
          intro x40 x41 S42 H locs ls hf hR hS hE ok_this hl
          rw [ej64_39] at hf
          refine lv_ior hx hb dX2_makers_64 ?_
          refine bdi hf (fun x43 hf => ?_)
          refine lv_istore_n (lv' := [(1, .int x43), (0, .ref this), (2, .int x4)]) hx hb dX2_makers_65 rfl hl (by decide) rfl (fun ls hl => ?_)
          refine r_iinc (n := 1) (z := 1) (lv' := fun x44 => [(2, .int x44), (1, .int x43), (0, .ref this)]) hx hb dX2_makers_66 hl (k := 2) rfl (by decide) (by decide) (fun _ => rfl) hf (fun x44 ls hf hl => ?_)
          refine lv_goto (tgt := 4) hx hb dX2_makers_69 (by decide) ?_
          exact hL4_1 x43 x44 S42 _ _ _ hf hR hS hE ok_this (lv_sub hl [2, 1, 0] rfl)
        refine lv_if_eq (tgt := 63) hx hb dX2_makers_54 (by decide) (fun hc => ?_) (fun hc => ?_)
        · replace hf := if_t hf hc
          refine lv_iconst (v := 0) hx hb dX2_makers_63 (by decide) ?_
          exact hj64_38 x3 (0 : Int32) S34 _ _ _ hf hR hS hE ok_this (lv_sub hl [0, 2] rfl)
        · replace hf := if_f hf hc
          refine lv_iconst (v := 1) hx hb dX2_makers_57 (by decide) ?_
          refine lv_iload_n hx hb dX2_makers_58 rfl (lv_at hl 2 rfl) ?_
          refine lv_ishl hx hb dX2_makers_59 ?_
          refine lv_goto (tgt := 64) hx hb dX2_makers_60 (by decide) ?_
          exact hj64_38 x3 ((1 : Int32) <<< (x4 &&& 31)) S34 _ _ _ hf hR hS hE ok_this (lv_sub hl [0, 2] rfl)
  exact hh48 n (0 : Int32) (0 : Int32) S _ _ _ hf hR hS hE ok_this (lv_sub hl [2, 1, 0] rfl)
abbrev rX3_addBone : Room := { frames := 2, cells := 0, slots := 0, locals := 42 }
def f_X3_addBone (n : Nat) (this : Nat) (a1 : Int32) (a2 : Int32) (S : MS) : Option (Int32 × MS) :=
  (if a2 < (1 : Int32) then some ((-1 : Int32), S) else (if (99 : Int32) < a2 then some ((-1 : Int32), S) else (if (24 : Int32) ≤ (mI S this 7) then some ((-1 : Int32), S) else cl (f_X3_isOpen n this a1 S) fun x4 S1 => (if x4 = 0 then some ((-1 : Int32), S1) else bd (mI S1 this 7) fun x5 => bd (sI S1 this 7 ((mI S1 this 7) + (1 : Int32))) fun S6 => gR S6 (mR S6 this 1) 12 fun q8 => ck (inb x5 (mN S6 q8)) (bd (sI S6 q8 x5.toNatClampNeg a1) fun S11 => gR S11 (mR S11 this 2) 12 fun q13 => ck (inb x5 (mN S11 q13)) (bd (sI S11 q13 x5.toNatClampNeg a2) fun S16 => gR S16 (mR S16 this 3) 12 fun q18 => ck (inb x5 (mN S16 q18)) (bd (sI S16 q18 x5.toNatClampNeg (0 : Int32)) fun S21 => bd (sJ S21 this 10 ((mJ S21 this 10) ||| (lsh (1 : Int64) a1))) fun S23 => gR S23 (mR S23 this 6) 12 fun q25 => ck (inb a1 (mN S23 q25)) (bd (sI S23 q25 a1.toNatClampNeg (-1 : Int32)) fun S28 => some (x5, S28)))))))))
set_option maxRecDepth 100000 in
set_option maxHeartbeats 4000000 in
theorem c_X3_addBone (l : Launch) (G : Gx) (n : Nat) (this : Nat) (a1 : Int32) (a2 : Int32) (S : MS) (ro : Int32) (So : MS) (hf : f_X3_addBone n this a1 a2 S = some (ro, So)) (ok_this : Ok S this 3) : Cn G l yX3_addBone cX3_addBone 4 (some .int) rX3_addBone [.ref this, .int a1, .int a2] S (some (.int ro)) So := by
  refine Cn.of (by decide) (Nat.le_of_ble_eq_true rfl) ?_
  intro p e s m args below meth c hC hname hR ls hl
  have hC : Cx G RX3 cX3_addBone 4 (some .int) p s m args meth c := hC
  have hl : lv_has ls 4 [(0, .ref this), (1, .int a1), (2, .int a2)] := hl
  have hx := hC.x
  have hb := hC.b
  have hS : va_S (gA G) s.heap s.heap [] := va_S.rf
  have hE : Ex S S := Ex.rf S
  unfold f_X3_addBone at hf
  refine lv_iload_n hx hb dX3_addBone_0 rfl (lv_at hl 2 rfl) ?_
  refine lv_iconst (v := 1) hx hb dX3_addBone_1 (by decide) ?_
  refine lv_icmp_lt (tgt := 28) hx hb dX3_addBone_2 (by decide) (fun hc => ?_) (fun hc => ?_)
  · replace hf := if_t hf hc
    refine lv_iconst (v := -1) hx hb dX3_addBone_28 (by decide) ?_
    exact r_iret hC hR hS hE hf dX3_addBone_29
  · replace hf := if_f hf hc
    refine lv_iload_n hx hb dX3_addBone_5 rfl (lv_at hl 2 rfl) ?_
    refine lv_bipush (v := 99) hx hb dX3_addBone_6 (by decide) ?_
    refine lv_icmp_gt (tgt := 28) hx hb dX3_addBone_8 (by decide) (fun hc => ?_) (fun hc => ?_)
    · replace hf := if_t hf hc
      refine lv_iconst (v := -1) hx hb dX3_addBone_28 (by decide) ?_
      exact r_iret hC hR hS hE hf dX3_addBone_29
    · replace hf := if_f hf hc
      refine lv_aload_n hx hb dX3_addBone_11 rfl (lv_at hl 0 rfl) ?_
      refine gf_RX3_57 hC hR ok_this dX3_addBone_12 ?_
      refine lv_bipush (v := 24) hx hb dX3_addBone_15 (by decide) ?_
      refine lv_icmp_ge (tgt := 28) hx hb dX3_addBone_17 (by decide) (fun hc => ?_) (fun hc => ?_)
      · replace hf := if_t hf hc
        refine lv_iconst (v := -1) hx hb dX3_addBone_28 (by decide) ?_
        exact r_iret hC hR hS hE hf dX3_addBone_29
      · replace hf := if_f hf hc
        refine lv_aload_n hx hb dX3_addBone_20 rfl (lv_at hl 0 rfl) ?_
        refine lv_iload_n hx hb dX3_addBone_21 rfl (lv_at hl 1 rfl) ?_
        obtain ⟨x4, S1, hc2, hf⟩ := cl_of hf
        refine cl_RX3_77 (As := [.int a1]) (rest := []) hC hR hS (c_X3_isOpen l G n this a1 S x4 S1 hc2 ok_this) ok_this rfl ⟨Nat.le_of_ble_eq_true rfl, Nat.le_of_ble_eq_true rfl⟩ hl.1 rfl (Nat.le_of_ble_eq_true rfl) dX3_addBone_22 (Nat.zero_le _) (Nat.zero_le _) (fun H locs hR hS hE3 => ?_)
        have ok_this := hE3 _ _ ok_this
        have hE := hE.tr hE3
        refine lv_if_ne (tgt := 30) hx hb dX3_addBone_25 (by decide) (fun hc => ?_) (fun hc => ?_)
        · replace hf := if_f hf hc
          refine lv_aload_n hx hb dX3_addBone_30 rfl (lv_at hl 0 rfl) ?_
          refine gf_RX3_57 hC hR ok_this dX3_addBone_31 ?_
          refine bdi hf (fun x5 hf => ?_)
          refine lv_istore_n (lv' := [(3, .int x5), (0, .ref this), (1, .int a1), (2, .int a2)]) hx hb dX3_addBone_34 rfl hl (by decide) rfl (fun ls hl => ?_)
          refine lv_aload_n hx hb dX3_addBone_35 rfl (lv_at hl 1 rfl) ?_
          refine lv_dup hx hb dX3_addBone_36 rfl ?_
          refine gf_RX3_57 hC hR ok_this dX3_addBone_37 ?_
          refine lv_iconst (v := 1) hx hb dX3_addBone_40 (by decide) ?_
          refine lv_iadd hx hb dX3_addBone_41 ?_
          refine pf_RX3_57 hC hR hS ok_this dX3_addBone_42 hf (fun S6 H locs hf hR hS hE7 => ?_)
          have ok_this := hE7 _ _ ok_this
          have hE := hE.tr hE7
          refine lv_aload_n hx hb dX3_addBone_45 rfl (lv_at hl 1 rfl) ?_
          obtain ⟨q8, hq9, ok_q8, hf⟩ := gR_of hf
          refine gf_RX3_9 hC hR ok_this hq9 dX3_addBone_46 ?_
          refine lv_iload_n hx hb dX3_addBone_49 rfl (lv_at hl 0 rfl) ?_
          refine lv_iload_n hx hb dX3_addBone_50 rfl (lv_at hl 2 rfl) ?_
          obtain ⟨hi10, hf⟩ := ck_of hf
          refine rB_iast hC hR hS ok_q8 hi10 dX3_addBone_51 hf (fun S11 H locs hf hR hS hE12 => ?_)
          have ok_this := hE12 _ _ ok_this
          have ok_q8 := hE12 _ _ ok_q8
          have hE := hE.tr hE12
          refine lv_aload_n hx hb dX3_addBone_52 rfl (lv_at hl 1 rfl) ?_
          obtain ⟨q13, hq14, ok_q13, hf⟩ := gR_of hf
          refine gf_RX3_15 hC hR ok_this hq14 dX3_addBone_53 ?_
          refine lv_iload_n hx hb dX3_addBone_56 rfl (lv_at hl 0 rfl) ?_
          refine lv_iload_n hx hb dX3_addBone_57 rfl (lv_at hl 3 rfl) ?_
          obtain ⟨hi15, hf⟩ := ck_of hf
          refine rB_iast hC hR hS ok_q13 hi15 dX3_addBone_58 hf (fun S16 H locs hf hR hS hE17 => ?_)
          have ok_this := hE17 _ _ ok_this
          have ok_q8 := hE17 _ _ ok_q8
          have ok_q13 := hE17 _ _ ok_q13
          have hE := hE.tr hE17
          refine lv_aload_n hx hb dX3_addBone_59 rfl (lv_at hl 1 rfl) ?_
          obtain ⟨q18, hq19, ok_q18, hf⟩ := gR_of hf
          refine gf_RX3_18 hC hR ok_this hq19 dX3_addBone_60 ?_
          refine lv_iload_n hx hb dX3_addBone_63 rfl (lv_at hl 0 rfl) ?_
          refine lv_iconst (v := 0) hx hb dX3_addBone_64 (by decide) ?_
          obtain ⟨hi20, hf⟩ := ck_of hf
          refine rB_iast hC hR hS ok_q18 hi20 dX3_addBone_65 hf (fun S21 H locs hf hR hS hE22 => ?_)
          have ok_this := hE22 _ _ ok_this
          have ok_q8 := hE22 _ _ ok_q8
          have ok_q13 := hE22 _ _ ok_q13
          have ok_q18 := hE22 _ _ ok_q18
          have hE := hE.tr hE22
          refine lv_aload_n hx hb dX3_addBone_66 rfl (lv_at hl 1 rfl) ?_
          refine lv_dup hx hb dX3_addBone_67 rfl ?_
          refine gf_RX3_67 hC hR ok_this dX3_addBone_68 ?_
          refine lv_lconst (v := 1) hx hb dX3_addBone_71 (by decide) ?_
          refine lv_iload_n hx hb dX3_addBone_72 rfl (lv_at hl 2 rfl) ?_
          refine lv_lshl (v := (lsh (1 : Int64) a1)) hx hb dX3_addBone_73 rfl ?_
          refine lv_lor hx hb dX3_addBone_74 ?_
          refine pf_RX3_67 hC hR hS ok_this dX3_addBone_75 hf (fun S23 H locs hf hR hS hE24 => ?_)
          have ok_this := hE24 _ _ ok_this
          have ok_q8 := hE24 _ _ ok_q8
          have ok_q13 := hE24 _ _ ok_q13
          have ok_q18 := hE24 _ _ ok_q18
          have hE := hE.tr hE24
          refine lv_aload_n hx hb dX3_addBone_78 rfl (lv_at hl 1 rfl) ?_
          obtain ⟨q25, hq26, ok_q25, hf⟩ := gR_of hf
          refine gf_RX3_36 hC hR ok_this hq26 dX3_addBone_79 ?_
          refine lv_iload_n hx hb dX3_addBone_82 rfl (lv_at hl 2 rfl) ?_
          refine lv_iconst (v := -1) hx hb dX3_addBone_83 (by decide) ?_
          obtain ⟨hi27, hf⟩ := ck_of hf
          refine rB_iast hC hR hS ok_q25 hi27 dX3_addBone_84 hf (fun S28 H locs hf hR hS hE29 => ?_)
          have ok_this := hE29 _ _ ok_this
          have ok_q8 := hE29 _ _ ok_q8
          have ok_q13 := hE29 _ _ ok_q13
          have ok_q18 := hE29 _ _ ok_q18
          have ok_q25 := hE29 _ _ ok_q25
          have hE := hE.tr hE29
          refine lv_iload_n hx hb dX3_addBone_85 rfl (lv_at hl 0 rfl) ?_
          exact r_iret hC hR hS hE hf dX3_addBone_86
        · replace hf := if_t hf hc
          refine lv_iconst (v := -1) hx hb dX3_addBone_28 (by decide) ?_
          exact r_iret hC hR hS hE hf dX3_addBone_29
abbrev rX10_isFarmer : Room := { frames := 0, cells := 0, slots := 0, locals := 0 }
def f_X10_isFarmer (_n : Nat) (a1 : Int32) (S : MS) : Option (Int32 × MS) :=
  (if a1 < 0 then zb (0 : Int32) (some ((0 : Int32), S)) else (if (6 : Int32) ≤ a1 then zb (0 : Int32) (some ((0 : Int32), S)) else zb (1 : Int32) (some ((1 : Int32), S))))
set_option maxRecDepth 100000 in
set_option maxHeartbeats 4000000 in
theorem c_X10_isFarmer (l : Launch) (G : Gx) (n : Nat) (a1 : Int32) (S : MS) (ro : Int32) (So : MS) (hf : f_X10_isFarmer n a1 S = some (ro, So)) : Cn G l yX10_isFarmer cX10_isFarmer 1 (some .boolean) rX10_isFarmer [.int a1] S (some (.int ro)) So := by
  refine Cn.of (by decide) (Nat.le_of_ble_eq_true rfl) ?_
  intro p e s m args below meth c hC hname hR ls hl
  have hC : Cx G RX10 cX10_isFarmer 1 (some .boolean) p s m args meth c := hC
  have hl : lv_has ls 1 [(0, .int a1)] := hl
  have hx := hC.x
  have hb := hC.b
  have hS : va_S (gA G) s.heap s.heap [] := va_S.rf
  have hE : Ex S S := Ex.rf S
  unfold f_X10_isFarmer at hf
  refine lv_iload_n hx hb dX10_isFarmer_0 rfl (lv_at hl 0 rfl) ?_
  refine lv_if_lt (tgt := 14) hx hb dX10_isFarmer_1 (by decide) (fun hc => ?_) (fun hc => ?_)
  · replace hf := if_t hf hc
    refine lv_iconst (v := 0) hx hb dX10_isFarmer_14 (by decide) ?_
    exact r_zret hC hR hS hE hf dX10_isFarmer_15
  · replace hf := if_f hf hc
    refine lv_iload_n hx hb dX10_isFarmer_4 rfl (lv_at hl 0 rfl) ?_
    refine lv_bipush (v := 6) hx hb dX10_isFarmer_5 (by decide) ?_
    refine lv_icmp_ge (tgt := 14) hx hb dX10_isFarmer_7 (by decide) (fun hc => ?_) (fun hc => ?_)
    · replace hf := if_t hf hc
      refine lv_iconst (v := 0) hx hb dX10_isFarmer_14 (by decide) ?_
      exact r_zret hC hR hS hE hf dX10_isFarmer_15
    · replace hf := if_f hf hc
      refine lv_iconst (v := 1) hx hb dX10_isFarmer_10 (by decide) ?_
      refine lv_goto (tgt := 15) hx hb dX10_isFarmer_11 (by decide) ?_
      exact r_zret hC hR hS hE hf dX10_isFarmer_15
abbrev rX3_setStake : Room := { frames := 1, cells := 0, slots := 0, locals := 21 }
def f_X3_setStake_L54 (n : Nat) (this : Nat) : Nat → Int32 → MS → Option (Int32 × MS)
  | 0, _, _ => none
  | k + 1, x17, S18 => jn (f_X3_setStake_L54 n this k) fun rec54_16 => (if (6 : Int32) ≤ x17 then zb (1 : Int32) (some ((1 : Int32), S18)) else gR S18 (mR S18 this 4) 12 fun q19 => ck (inb x17 (mN S18 q19)) (jn (fun (q24 : Nat) (x25 : Int64) (x26 : Int64) (S27 : MS) => bd (sJ S27 q24 11 (x25 ||| x26)) fun S28 => bd (x17 + (1 : Int32)) fun x30 => rec54_16 x30 S28) fun j87_23 => (if (mI S18 q19 x17.toNatClampNeg) = (-1 : Int32) then j87_23 this (mJ S18 this 11) (0 : Int64) S18 else gR S18 (mR S18 this 4) 12 fun q31 => ck (inb x17 (mN S18 q31)) (j87_23 this (mJ S18 this 11) (lsh (1 : Int64) (mI S18 q31 x17.toNatClampNeg)) S18))))
def f_X3_setStake (n : Nat) (this : Nat) (a1 : Int32) (a2 : Int32) (S : MS) : Option (Int32 × MS) :=
  cl (f_X10_isFarmer n a1 S) fun x4 S1 => (if x4 = 0 then zb (0 : Int32) (some ((0 : Int32), S1)) else jn (fun (S7 : MS) => gR S7 (mR S7 this 4) 12 fun q8 => ck (inb a1 (mN S7 q8)) (bd (sI S7 q8 a1.toNatClampNeg a2) fun S11 => bd (sJ S11 this 11 (0 : Int64)) fun S13 => f_X3_setStake_L54 n this n (0 : Int32) S13)) fun j40_6 => (if a2 = (-1 : Int32) then j40_6 S1 else gR S1 (mR S1 this 0) 1 fun q39 => cl (f_X1_holds n q39 a2 S1) fun x44 S41 => (if x44 = 0 then zb (0 : Int32) (some ((0 : Int32), S41)) else (if (lg_cmp ((lush (mJ S41 this 10) a2) &&& (1 : Int64)) (0 : Int64)) = 0 then j40_6 S41 else zb (0 : Int32) (some ((0 : Int32), S41))))))
set_option maxRecDepth 100000 in
set_option maxHeartbeats 4000000 in
theorem c_X3_setStake (l : Launch) (G : Gx) (n : Nat) (this : Nat) (a1 : Int32) (a2 : Int32) (S : MS) (ro : Int32) (So : MS) (hf : f_X3_setStake n this a1 a2 S = some (ro, So)) (ok_this : Ok S this 3) : Cn G l yX3_setStake cX3_setStake 4 (some .boolean) rX3_setStake [.ref this, .int a1, .int a2] S (some (.int ro)) So := by
  refine Cn.of (by decide) (Nat.le_of_ble_eq_true rfl) ?_
  intro p e s m args below meth c hC hname hR ls hl
  have hC : Cx G RX3 cX3_setStake 4 (some .boolean) p s m args meth c := hC
  have hl : lv_has ls 4 [(0, .ref this), (1, .int a1), (2, .int a2)] := hl
  have hx := hC.x
  have hb := hC.b
  have hS : va_S (gA G) s.heap s.heap [] := va_S.rf
  have hE : Ex S S := Ex.rf S
  unfold f_X3_setStake at hf
  refine lv_iload_n hx hb dX3_setStake_0 rfl (lv_at hl 1 rfl) ?_
  obtain ⟨x4, S1, hc2, hf⟩ := cl_of hf
  refine cl_RX3_80 (As := [.int a1]) (rest := []) hC hR hS (c_X10_isFarmer l G n a1 S x4 S1 hc2 ) rfl ⟨Nat.le_of_ble_eq_true rfl, Nat.le_of_ble_eq_true rfl⟩ hl.1 rfl (Nat.le_of_ble_eq_true rfl) dX3_setStake_1 (Nat.zero_le _) (Nat.zero_le _) (fun H locs hR hS hE3 => ?_)
  have ok_this := hE3 _ _ ok_this
  have hE := hE.tr hE3
  refine lv_if_ne (tgt := 9) hx hb dX3_setStake_4 (by decide) (fun hc => ?_) (fun hc => ?_)
  · replace hf := if_f hf hc
    refine lv_iload_n hx hb dX3_setStake_9 rfl (lv_at hl 2 rfl) ?_
    refine lv_iconst (v := -1) hx hb dX3_setStake_10 (by decide) ?_
    obtain ⟨j40_6, ej40_6, hf⟩ := jn_of1 hf
    have hj40_5 : ∀ (S7 : MS) (H : Heap) (locs : List Loc) (ls : Array Slot), j40_6 S7 = some (ro, So) → Rp G S7 H → va_S (gA G) s.heap H locs → Ex S S7 → Ok S7 this 3 → lv_has ls 4 [(0, .ref this), (1, .int a1), (2, .int a2)] → W p l e rX3_setStake s m args below meth c H locs 0 0 (MQ below (Qn G S (some (.int ro)) So) args s 0 0 (gA G)) (F0 m 40 ls []) := by
      intro S7 H locs ls hf hR hS hE ok_this hl
      rw [ej40_6] at hf
      refine lv_aload_n hx hb dX3_setStake_40 rfl (lv_at hl 0 rfl) ?_
      obtain ⟨q8, hq9, ok_q8, hf⟩ := gR_of hf
      refine gf_RX3_21 hC hR ok_this hq9 dX3_setStake_41 ?_
      refine lv_iload_n hx hb dX3_setStake_44 rfl (lv_at hl 1 rfl) ?_
      refine lv_iload_n hx hb dX3_setStake_45 rfl (lv_at hl 2 rfl) ?_
      obtain ⟨hi10, hf⟩ := ck_of hf
      refine rB_iast hC hR hS ok_q8 hi10 dX3_setStake_46 hf (fun S11 H locs hf hR hS hE12 => ?_)
      have ok_this := hE12 _ _ ok_this
      have ok_q8 := hE12 _ _ ok_q8
      have hE := hE.tr hE12
      refine lv_aload_n hx hb dX3_setStake_47 rfl (lv_at hl 0 rfl) ?_
      refine lv_lconst (v := 0) hx hb dX3_setStake_48 (by decide) ?_
      refine pf_RX3_70 hC hR hS ok_this dX3_setStake_49 hf (fun S13 H locs hf hR hS hE14 => ?_)
      have ok_this := hE14 _ _ ok_this
      have ok_q8 := hE14 _ _ ok_q8
      have hE := hE.tr hE14
      refine lv_iconst (v := 0) hx hb dX3_setStake_52 (by decide) ?_
      refine lv_istore_n (lv' := [(3, .int (0 : Int32)), (0, .ref this), (1, .int a1), (2, .int a2)]) hx hb dX3_setStake_53 rfl hl (by decide) rfl (fun ls hl => ?_)
      have hh38 : ∀ k : Nat, ∀ (x17 : Int32) (S18 : MS) (H : Heap) (locs : List Loc) (ls : Array Slot), f_X3_setStake_L54 n this k x17 S18 = some (ro, So) → Rp G S18 H → va_S (gA G) s.heap H locs → Ex S S18 → Ok S18 this 3 → lv_has ls 4 [(0, .ref this), (3, .int x17)] → W p l e rX3_setStake s m args below meth c H locs 0 0 (MQ below (Qn G S (some (.int ro)) So) args s 0 0 (gA G)) (F0 m 54 ls []) := by
        intro k
        induction k with
        | zero =>
          intro x17 S18 H locs ls hf hR hS hE ok_this hl
          exact absurd hf (by rw [f_X3_setStake_L54]; exact fun h => by cases h)
        | succ k ih =>
          intro x17 S18 H locs ls hf hR hS hE ok_this hl
          rw [f_X3_setStake_L54] at hf
          obtain ⟨rec54_16, erec54_16, hf⟩ := jn_of2 hf
          have hL54_15 : ∀ (x17 : Int32) (S18 : MS) (H : Heap) (locs : List Loc) (ls : Array Slot), rec54_16 x17 S18 = some (ro, So) → Rp G S18 H → va_S (gA G) s.heap H locs → Ex S S18 → Ok S18 this 3 → lv_has ls 4 [(0, .ref this), (3, .int x17)] → W p l e rX3_setStake s m args below meth c H locs 0 0 (MQ below (Qn G S (some (.int ro)) So) args s 0 0 (gA G)) (F0 m 54 ls []) := by
            intro x17 S18 H locs ls hf hR hS hE ok_this hl
            rw [erec54_16] at hf
            exact ih x17 S18 _ _ _ hf hR hS hE ok_this hl
          refine lv_iload_n hx hb dX3_setStake_54 rfl (lv_at hl 1 rfl) ?_
          refine lv_bipush (v := 6) hx hb dX3_setStake_55 (by decide) ?_
          refine lv_icmp_ge (tgt := 97) hx hb dX3_setStake_57 (by decide) (fun hc => ?_) (fun hc => ?_)
          · replace hf := if_t hf hc
            refine lv_iconst (v := 1) hx hb dX3_setStake_97 (by decide) ?_
            exact r_zret hC hR hS hE hf dX3_setStake_98
          · replace hf := if_f hf hc
            refine lv_aload_n hx hb dX3_setStake_60 rfl (lv_at hl 0 rfl) ?_
            refine lv_dup hx hb dX3_setStake_61 rfl ?_
            refine gf_RX3_70 hC hR ok_this dX3_setStake_62 ?_
            refine lv_aload_n hx hb dX3_setStake_65 rfl (lv_at hl 0 rfl) ?_
            obtain ⟨q19, hq20, ok_q19, hf⟩ := gR_of hf
            refine gf_RX3_21 hC hR ok_this hq20 dX3_setStake_66 ?_
            refine lv_iload_n hx hb dX3_setStake_69 rfl (lv_at hl 1 rfl) ?_
            obtain ⟨hi21, hf⟩ := ck_of hf
            refine r_iald hC hR ok_q19 hi21 dX3_setStake_70 ?_
            refine lv_iconst (v := -1) hx hb dX3_setStake_71 (by decide) ?_
            obtain ⟨j87_23, ej87_23, hf⟩ := jn_of4 hf
            have hj87_22 : ∀ (q24 : Nat) (x25 : Int64) (x26 : Int64) (S27 : MS) (H : Heap) (locs : List Loc) (ls : Array Slot), j87_23 q24 x25 x26 S27 = some (ro, So) → Rp G S27 H → va_S (gA G) s.heap H locs → Ex S S27 → Ok S27 this 3 → Ok S27 q24 3 → lv_has ls 4 [(0, .ref this), (3, .int x17)] → W p l e rX3_setStake s m args below meth c H locs 0 0 (MQ below (Qn G S (some (.int ro)) So) args s 0 0 (gA G)) (F0 m 87 ls [.long x26, .long x25, .ref q24]) := by
              intro q24 x25 x26 S27 H locs ls hf hR hS hE ok_this ok_q24 hl
              rw [ej87_23] at hf
              refine lv_lor hx hb dX3_setStake_87 ?_
              refine pf_RX3_70 hC hR hS ok_q24 dX3_setStake_88 hf (fun S28 H locs hf hR hS hE29 => ?_)
              have ok_this := hE29 _ _ ok_this
              have ok_q24 := hE29 _ _ ok_q24
              have hE := hE.tr hE29
              refine r_iinc (n := 1) (z := 1) (lv' := fun x30 => [(3, .int x30), (0, .ref this)]) hx hb dX3_setStake_91 hl (k := 1) rfl (by decide) (by decide) (fun _ => rfl) hf (fun x30 ls hf hl => ?_)
              refine lv_goto (tgt := 54) hx hb dX3_setStake_94 (by decide) ?_
              exact hL54_15 x30 S28 _ _ _ hf hR hS hE ok_this (lv_sub hl [1, 0] rfl)
            refine lv_icmp_ne (tgt := 79) hx hb dX3_setStake_72 (by decide) (fun hc => ?_) (fun hc => ?_)
            · replace hf := if_f hf hc
              refine lv_lconst (v := 1) hx hb dX3_setStake_79 (by decide) ?_
              refine lv_aload_n hx hb dX3_setStake_80 rfl (lv_at hl 0 rfl) ?_
              obtain ⟨q31, hq32, ok_q31, hf⟩ := gR_of hf
              refine gf_RX3_21 hC hR ok_this hq32 dX3_setStake_81 ?_
              refine lv_iload_n hx hb dX3_setStake_84 rfl (lv_at hl 1 rfl) ?_
              obtain ⟨hi33, hf⟩ := ck_of hf
              refine r_iald hC hR ok_q31 hi33 dX3_setStake_85 ?_
              refine lv_lshl (v := (lsh (1 : Int64) (mI S18 q31 x17.toNatClampNeg))) hx hb dX3_setStake_86 rfl ?_
              exact hj87_22 this (mJ S18 this 11) (lsh (1 : Int64) (mI S18 q31 x17.toNatClampNeg)) S18 _ _ _ hf hR hS hE ok_this ok_this (lv_sub hl [0, 1] rfl)
            · replace hf := if_t hf hc
              refine lv_lconst (v := 0) hx hb dX3_setStake_75 (by decide) ?_
              refine lv_goto (tgt := 87) hx hb dX3_setStake_76 (by decide) ?_
              exact hj87_22 this (mJ S18 this 11) (0 : Int64) S18 _ _ _ hf hR hS hE ok_this ok_this (lv_sub hl [0, 1] rfl)
      exact hh38 n (0 : Int32) S13 _ _ _ hf hR hS hE ok_this (lv_sub hl [1, 0] rfl)
    refine lv_icmp_eq (tgt := 40) hx hb dX3_setStake_11 (by decide) (fun hc => ?_) (fun hc => ?_)
    · replace hf := if_t hf hc
      exact hj40_5 S1 _ _ _ hf hR hS hE ok_this (lv_sub hl [0, 1, 2] rfl)
    · replace hf := if_f hf hc
      refine lv_aload_n hx hb dX3_setStake_14 rfl (lv_at hl 0 rfl) ?_
      obtain ⟨q39, hq40, ok_q39, hf⟩ := gR_of hf
      refine gf_RX3_27 hC hR ok_this hq40 dX3_setStake_15 ?_
      refine lv_iload_n hx hb dX3_setStake_18 rfl (lv_at hl 2 rfl) ?_
      obtain ⟨x44, S41, hc42, hf⟩ := cl_of hf
      refine cl_RX3_73 (As := [.int a2]) (rest := []) hC hR hS (c_X1_holds l G n q39 a2 S1 x44 S41 hc42 ok_q39) ok_q39 rfl ⟨Nat.le_of_ble_eq_true rfl, Nat.le_of_ble_eq_true rfl⟩ hl.1 rfl (Nat.le_of_ble_eq_true rfl) dX3_setStake_19 (Nat.zero_le _) (Nat.zero_le _) (fun H locs hR hS hE43 => ?_)
      have ok_this := hE43 _ _ ok_this
      have ok_q39 := hE43 _ _ ok_q39
      have hE := hE.tr hE43
      refine lv_if_eq (tgt := 38) hx hb dX3_setStake_22 (by decide) (fun hc => ?_) (fun hc => ?_)
      · replace hf := if_t hf hc
        refine lv_iconst (v := 0) hx hb dX3_setStake_38 (by decide) ?_
        exact r_zret hC hR hS hE hf dX3_setStake_39
      · replace hf := if_f hf hc
        refine lv_aload_n hx hb dX3_setStake_25 rfl (lv_at hl 0 rfl) ?_
        refine gf_RX3_67 hC hR ok_this dX3_setStake_26 ?_
        refine lv_iload_n hx hb dX3_setStake_29 rfl (lv_at hl 2 rfl) ?_
        refine lv_lushr (v := (lush (mJ S41 this 10) a2)) hx hb dX3_setStake_30 rfl ?_
        refine lv_lconst (v := 1) hx hb dX3_setStake_31 (by decide) ?_
        refine lv_land hx hb dX3_setStake_32 ?_
        refine lv_lconst (v := 0) hx hb dX3_setStake_33 (by decide) ?_
        refine W.lcmp hx hb dX3_setStake_34 ?_
        refine lv_if_eq (tgt := 40) hx hb dX3_setStake_35 (by decide) (fun hc => ?_) (fun hc => ?_)
        · replace hf := if_t hf hc
          exact hj40_5 S41 _ _ _ hf hR hS hE ok_this (lv_sub hl [0, 1, 2] rfl)
        · replace hf := if_f hf hc
          refine lv_iconst (v := 0) hx hb dX3_setStake_38 (by decide) ?_
          exact r_zret hC hR hS hE hf dX3_setStake_39
  · replace hf := if_t hf hc
    refine lv_iconst (v := 0) hx hb dX3_setStake_7 (by decide) ?_
    exact r_zret hC hR hS hE hf dX3_setStake_8
abbrev rX3_clearOff : Room := { frames := 1, cells := 0, slots := 0, locals := 23 }
def f_X3_clearOff (n : Nat) (this : Nat) (S : MS) : Option (MS) :=
  bd (sI S this 7 (0 : Int32)) fun S1 => bd (sJ S1 this 10 (0 : Int64)) fun S3 => bd (sJ S3 this 11 (0 : Int64)) fun S5 => gR S5 (mR S5 this 4) 12 fun q7 => cv (f_J7_fill_53178 n q7 (-1 : Int32) S5) fun S9 => gR S9 (mR S9 this 6) 12 fun q12 => cv (f_J7_fill_53178 n q12 (-1 : Int32) S9) fun S14 => some S14
set_option maxRecDepth 100000 in
set_option maxHeartbeats 4000000 in
theorem c_X3_clearOff (l : Launch) (G : Gx) (n : Nat) (this : Nat) (S : MS) (So : MS) (hf : f_X3_clearOff n this S = some So) (ok_this : Ok S this 3) : Cn G l yX3_clearOff cX3_clearOff 1 none rX3_clearOff [.ref this] S none So := by
  refine Cn.of (by decide) (Nat.le_of_ble_eq_true rfl) ?_
  intro p e s m args below meth c hC hname hR ls hl
  have hC : Cx G RX3 cX3_clearOff 1 none p s m args meth c := hC
  have hl : lv_has ls 1 [(0, .ref this)] := hl
  have hx := hC.x
  have hb := hC.b
  have hS : va_S (gA G) s.heap s.heap [] := va_S.rf
  have hE : Ex S S := Ex.rf S
  unfold f_X3_clearOff at hf
  refine lv_aload_n hx hb dX3_clearOff_0 rfl (lv_at hl 0 rfl) ?_
  refine lv_iconst (v := 0) hx hb dX3_clearOff_1 (by decide) ?_
  refine pf_RX3_57 hC hR hS ok_this dX3_clearOff_2 hf (fun S1 H locs hf hR hS hE2 => ?_)
  have ok_this := hE2 _ _ ok_this
  have hE := hE.tr hE2
  refine lv_aload_n hx hb dX3_clearOff_5 rfl (lv_at hl 0 rfl) ?_
  refine lv_lconst (v := 0) hx hb dX3_clearOff_6 (by decide) ?_
  refine pf_RX3_67 hC hR hS ok_this dX3_clearOff_7 hf (fun S3 H locs hf hR hS hE4 => ?_)
  have ok_this := hE4 _ _ ok_this
  have hE := hE.tr hE4
  refine lv_aload_n hx hb dX3_clearOff_10 rfl (lv_at hl 0 rfl) ?_
  refine lv_lconst (v := 0) hx hb dX3_clearOff_11 (by decide) ?_
  refine pf_RX3_70 hC hR hS ok_this dX3_clearOff_12 hf (fun S5 H locs hf hR hS hE6 => ?_)
  have ok_this := hE6 _ _ ok_this
  have hE := hE.tr hE6
  refine lv_aload_n hx hb dX3_clearOff_15 rfl (lv_at hl 0 rfl) ?_
  obtain ⟨q7, hq8, ok_q7, hf⟩ := gR_of hf
  refine gf_RX3_21 hC hR ok_this hq8 dX3_clearOff_16 ?_
  refine lv_iconst (v := -1) hx hb dX3_clearOff_19 (by decide) ?_
  obtain ⟨S9, hc10, hf⟩ := cv_of hf
  refine cl_RX3_39 (As := [.ref q7, .int (-1 : Int32)]) (rest := []) hC hR hS (c_J7_fill_53178 l G n q7 (-1 : Int32) S5 S9 hc10 ok_q7) rfl ⟨Nat.le_of_ble_eq_true rfl, Nat.le_of_ble_eq_true rfl⟩ hl.1 rfl (Nat.le_of_ble_eq_true rfl) dX3_clearOff_20 (Nat.zero_le _) (Nat.zero_le _) (fun H locs hR hS hE11 => ?_)
  have ok_this := hE11 _ _ ok_this
  have ok_q7 := hE11 _ _ ok_q7
  have hE := hE.tr hE11
  refine lv_aload_n hx hb dX3_clearOff_23 rfl (lv_at hl 0 rfl) ?_
  obtain ⟨q12, hq13, ok_q12, hf⟩ := gR_of hf
  refine gf_RX3_36 hC hR ok_this hq13 dX3_clearOff_24 ?_
  refine lv_iconst (v := -1) hx hb dX3_clearOff_27 (by decide) ?_
  obtain ⟨S14, hc15, hf⟩ := cv_of hf
  refine cl_RX3_39 (As := [.ref q12, .int (-1 : Int32)]) (rest := []) hC hR hS (c_J7_fill_53178 l G n q12 (-1 : Int32) S9 S14 hc15 ok_q12) rfl ⟨Nat.le_of_ble_eq_true rfl, Nat.le_of_ble_eq_true rfl⟩ hl.1 rfl (Nat.le_of_ble_eq_true rfl) dX3_clearOff_28 (Nat.zero_le _) (Nat.zero_le _) (fun H locs hR hS hE16 => ?_)
  have ok_this := hE16 _ _ ok_this
  have ok_q7 := hE16 _ _ ok_q7
  have ok_q12 := hE16 _ _ ok_q12
  have hE := hE.tr hE16
  exact r_vret hC hR hS hE hf dX3_clearOff_31
abbrev rX3_drawnBy : Room := { frames := 3, cells := 0, slots := 0, locals := 65 }
def f_X3_drawnBy_L2 (n : Nat) (this : Nat) (a1 : Option Nat) : Nat → Int32 → MS → Option (Int32 × MS)
  | 0, _, _ => none
  | k + 1, x3, S4 => jn (f_X3_drawnBy_L2 n this a1 k) fun rec2_2 => nn a1 fun q5 => (if (mI S4 q5 5) ≤ x3 then some ((-1 : Int32), S4) else (if (20 : Int32) ≤ x3 then some ((-1 : Int32), S4) else nn a1 fun q7 => gR S4 (mR S4 q7 0) 12 fun q9 => ck (inb x3 (mN S4 q9)) (bd (mI S4 q9 x3.toNatClampNeg) fun x12 => jn (fun (S15 : MS) => bd (x3 + (1 : Int32)) fun x16 => rec2_2 x16 S15) fun j121_14 => jn (fun (S19 : MS) => gR S19 (mR S19 this 0) 1 fun q20 => nn a1 fun q22 => gR S19 (mR S19 q22 2) 12 fun q24 => ck (inb x3 (mN S19 q24)) (nn a1 fun q27 => gR S19 (mR S19 q27 3) 12 fun q29 => ck (inb x3 (mN S19 q29)) (cl (f_X1_cellAt n q20 (mI S19 q24 x3.toNatClampNeg) (mI S19 q29 x3.toNatClampNeg) S19) fun x35 S32 => jn (fun (x38 : Int32) (S39 : MS) => (if x38 = 0 then some (x3, S39) else j121_14 S39)) fun j112_37 => (if x12 = (22 : Int32) then nn a1 fun q53 => gR S32 (mR S32 q53 1) 12 fun q55 => ck (inb x3 (mN S32 q55)) (cl (f_X3_addBone n this x35 (mI S32 q55 x3.toNatClampNeg) S32) fun x61 S58 => (if x61 = (-1 : Int32) then j112_37 (0 : Int32) S58 else j112_37 (1 : Int32) S58)) else jn (fun (S42 : MS) => j112_37 (0 : Int32) S42) fun j111_41 => (if x35 = (-1 : Int32) then j111_41 S32 else nn a1 fun q43 => gR S32 (mR S32 q43 1) 12 fun q45 => ck (inb x3 (mN S32 q45)) (cl (f_X3_setStake n this (mI S32 q45 x3.toNatClampNeg) x35 S32) fun x51 S48 => (if x51 = 0 then j111_41 S48 else j112_37 (1 : Int32) S48))))))) fun j35_18 => (if x12 = (22 : Int32) then j35_18 S4 else (if x12 = (23 : Int32) then j35_18 S4 else j121_14 S4)))))
def f_X3_drawnBy (n : Nat) (this : Nat) (a1 : Option Nat) (S : MS) : Option (Int32 × MS) :=
  f_X3_drawnBy_L2 n this a1 n (0 : Int32) S
set_option maxRecDepth 100000 in
set_option maxHeartbeats 4000000 in
theorem c_X3_drawnBy (l : Launch) (G : Gx) (n : Nat) (this : Nat) (a1 : Option Nat) (S : MS) (ro : Int32) (So : MS) (hf : f_X3_drawnBy n this a1 S = some (ro, So)) (ok_this : Ok S this 3) (ok_a1 : ∀ q, a1 = some q → Ok S q 7) : Cn G l yX3_drawnBy cX3_drawnBy 6 (some .int) rX3_drawnBy [.ref this, va_rf a1] S (some (.int ro)) So := by
  refine Cn.of (by decide) (by cases a1 <;> exact Nat.le_of_ble_eq_true rfl) ?_
  intro p e s m args below meth c hC hname hR ls hl
  have hC : Cx G RX3 cX3_drawnBy 6 (some .int) p s m args meth c := hC
  have hl : lv_has ls 6 [(0, .ref this), (1, va_rf a1)] := by cases a1 <;> exact hl
  have hx := hC.x
  have hb := hC.b
  have hS : va_S (gA G) s.heap s.heap [] := va_S.rf
  have hE : Ex S S := Ex.rf S
  unfold f_X3_drawnBy at hf
  refine lv_iconst (v := 0) hx hb dX3_drawnBy_0 (by decide) ?_
  refine lv_istore_n (lv' := [(2, .int (0 : Int32)), (0, .ref this), (1, va_rf a1)]) hx hb dX3_drawnBy_1 rfl hl (by decide) (by cases a1 <;> rfl) (fun ls hl => ?_)
  have hh66 : ∀ k : Nat, ∀ (x3 : Int32) (S4 : MS) (H : Heap) (locs : List Loc) (ls : Array Slot), f_X3_drawnBy_L2 n this a1 k x3 S4 = some (ro, So) → Rp G S4 H → va_S (gA G) s.heap H locs → Ex S S4 → Ok S4 this 3 → (∀ q, a1 = some q → Ok S4 q 7) → lv_has ls 6 [(0, .ref this), (1, va_rf a1), (2, .int x3)] → W p l e rX3_drawnBy s m args below meth c H locs 0 0 (MQ below (Qn G S (some (.int ro)) So) args s 0 0 (gA G)) (F0 m 2 ls []) := by
    intro k
    induction k with
    | zero =>
      intro x3 S4 H locs ls hf hR hS hE ok_this ok_a1 hl
      exact absurd hf (by rw [f_X3_drawnBy_L2]; exact fun h => by cases h)
    | succ k ih =>
      intro x3 S4 H locs ls hf hR hS hE ok_this ok_a1 hl
      rw [f_X3_drawnBy_L2] at hf
      obtain ⟨rec2_2, erec2_2, hf⟩ := jn_of2 hf
      have hL2_1 : ∀ (x3 : Int32) (S4 : MS) (H : Heap) (locs : List Loc) (ls : Array Slot), rec2_2 x3 S4 = some (ro, So) → Rp G S4 H → va_S (gA G) s.heap H locs → Ex S S4 → Ok S4 this 3 → (∀ q, a1 = some q → Ok S4 q 7) → lv_has ls 6 [(0, .ref this), (1, va_rf a1), (2, .int x3)] → W p l e rX3_drawnBy s m args below meth c H locs 0 0 (MQ below (Qn G S (some (.int ro)) So) args s 0 0 (gA G)) (F0 m 2 ls []) := by
        intro x3 S4 H locs ls hf hR hS hE ok_this ok_a1 hl
        rw [erec2_2] at hf
        exact ih x3 S4 _ _ _ hf hR hS hE ok_this ok_a1 hl
      refine lv_iload_n hx hb dX3_drawnBy_2 rfl (lv_at hl 2 rfl) ?_
      refine r_aload_nO hx hb dX3_drawnBy_3 rfl (lv_at hl 1 rfl) ?_
      obtain ⟨q5, hq6, hf⟩ := nn_of hf
      have ok_q5 := ok_a1 q5 hq6
      refine W.eq (g2 := F0 m 4 ls [.ref q5, .int x3]) (by rw [hq6]; rfl) ?_
      refine gf_RX3_83 hC hR ok_q5 dX3_drawnBy_4 ?_
      refine lv_icmp_ge (tgt := 127) hx hb dX3_drawnBy_7 (by decide) (fun hc => ?_) (fun hc => ?_)
      · replace hf := if_t hf hc
        refine lv_iconst (v := -1) hx hb dX3_drawnBy_127 (by decide) ?_
        exact r_iret hC hR hS hE hf dX3_drawnBy_128
      · replace hf := if_f hf hc
        refine lv_iload_n hx hb dX3_drawnBy_10 rfl (lv_at hl 2 rfl) ?_
        refine lv_bipush (v := 20) hx hb dX3_drawnBy_11 (by decide) ?_
        refine lv_icmp_ge (tgt := 127) hx hb dX3_drawnBy_13 (by decide) (fun hc => ?_) (fun hc => ?_)
        · replace hf := if_t hf hc
          refine lv_iconst (v := -1) hx hb dX3_drawnBy_127 (by decide) ?_
          exact r_iret hC hR hS hE hf dX3_drawnBy_128
        · replace hf := if_f hf hc
          refine r_aload_nO hx hb dX3_drawnBy_16 rfl (lv_at hl 1 rfl) ?_
          obtain ⟨q7, hq8, hf⟩ := nn_of hf
          have ok_q7 := ok_a1 q7 hq8
          refine W.eq (g2 := F0 m 17 ls [.ref q7]) (by rw [hq8]; rfl) ?_
          obtain ⟨q9, hq10, ok_q9, hf⟩ := gR_of hf
          refine gf_RX3_88 hC hR ok_q7 hq10 dX3_drawnBy_17 ?_
          refine lv_iload_n hx hb dX3_drawnBy_20 rfl (lv_at hl 2 rfl) ?_
          obtain ⟨hi11, hf⟩ := ck_of hf
          refine r_iald hC hR ok_q9 hi11 dX3_drawnBy_21 ?_
          refine bdi hf (fun x12 hf => ?_)
          refine lv_istore_n (lv' := [(3, .int x12), (0, .ref this), (1, va_rf a1), (2, .int x3)]) hx hb dX3_drawnBy_22 rfl hl (by decide) rfl (fun ls hl => ?_)
          refine lv_iload_n hx hb dX3_drawnBy_23 rfl (lv_at hl 0 rfl) ?_
          refine lv_bipush (v := 22) hx hb dX3_drawnBy_24 (by decide) ?_
          obtain ⟨j121_14, ej121_14, hf⟩ := jn_of1 hf
          have hj121_13 : ∀ (S15 : MS) (H : Heap) (locs : List Loc) (ls : Array Slot), j121_14 S15 = some (ro, So) → Rp G S15 H → va_S (gA G) s.heap H locs → Ex S S15 → Ok S15 this 3 → (∀ q, a1 = some q → Ok S15 q 7) → lv_has ls 6 [(0, .ref this), (1, va_rf a1), (2, .int x3)] → W p l e rX3_drawnBy s m args below meth c H locs 0 0 (MQ below (Qn G S (some (.int ro)) So) args s 0 0 (gA G)) (F0 m 121 ls []) := by
            intro S15 H locs ls hf hR hS hE ok_this ok_a1 hl
            rw [ej121_14] at hf
            refine r_iinc (n := 1) (z := 1) (lv' := fun x16 => [(2, .int x16), (0, .ref this), (1, va_rf a1)]) hx hb dX3_drawnBy_121 hl (k := 2) rfl (by decide) (by decide) (fun _ => (by cases a1 <;> rfl)) hf (fun x16 ls hf hl => ?_)
            refine lv_goto (tgt := 2) hx hb dX3_drawnBy_124 (by decide) ?_
            exact hL2_1 x16 S15 _ _ _ hf hR hS hE ok_this ok_a1 (lv_sub hl [1, 2, 0] rfl)
          obtain ⟨j35_18, ej35_18, hf⟩ := jn_of1 hf
          have hj35_17 : ∀ (S19 : MS) (H : Heap) (locs : List Loc) (ls : Array Slot), j35_18 S19 = some (ro, So) → Rp G S19 H → va_S (gA G) s.heap H locs → Ex S S19 → Ok S19 this 3 → (∀ q, a1 = some q → Ok S19 q 7) → lv_has ls 6 [(0, .ref this), (1, va_rf a1), (2, .int x3), (3, .int x12)] → W p l e rX3_drawnBy s m args below meth c H locs 0 0 (MQ below (Qn G S (some (.int ro)) So) args s 0 0 (gA G)) (F0 m 35 ls []) := by
            intro S19 H locs ls hf hR hS hE ok_this ok_a1 hl
            rw [ej35_18] at hf
            refine lv_aload_n hx hb dX3_drawnBy_35 rfl (lv_at hl 0 rfl) ?_
            obtain ⟨q20, hq21, ok_q20, hf⟩ := gR_of hf
            refine gf_RX3_27 hC hR ok_this hq21 dX3_drawnBy_36 ?_
            refine r_aload_nO hx hb dX3_drawnBy_39 rfl (lv_at hl 1 rfl) ?_
            obtain ⟨q22, hq23, hf⟩ := nn_of hf
            have ok_q22 := ok_a1 q22 hq23
            refine W.eq (g2 := F0 m 40 ls [.ref q22, .ref q20]) (by rw [hq23]; rfl) ?_
            obtain ⟨q24, hq25, ok_q24, hf⟩ := gR_of hf
            refine gf_RX3_91 hC hR ok_q22 hq25 dX3_drawnBy_40 ?_
            refine lv_iload_n hx hb dX3_drawnBy_43 rfl (lv_at hl 2 rfl) ?_
            obtain ⟨hi26, hf⟩ := ck_of hf
            refine r_iald hC hR ok_q24 hi26 dX3_drawnBy_44 ?_
            refine r_aload_nO hx hb dX3_drawnBy_45 rfl (lv_at hl 1 rfl) ?_
            obtain ⟨q27, hq28, hf⟩ := nn_of hf
            have ok_q27 := ok_a1 q27 hq28
            refine W.eq (g2 := F0 m 46 ls [.ref q27, .int (mI S19 q24 x3.toNatClampNeg), .ref q20]) (by rw [hq28]; rfl) ?_
            obtain ⟨q29, hq30, ok_q29, hf⟩ := gR_of hf
            refine gf_RX3_94 hC hR ok_q27 hq30 dX3_drawnBy_46 ?_
            refine lv_iload_n hx hb dX3_drawnBy_49 rfl (lv_at hl 2 rfl) ?_
            obtain ⟨hi31, hf⟩ := ck_of hf
            refine r_iald hC hR ok_q29 hi31 dX3_drawnBy_50 ?_
            obtain ⟨x35, S32, hc33, hf⟩ := cl_of hf
            refine cl_RX3_97 (As := [.int (mI S19 q24 x3.toNatClampNeg), .int (mI S19 q29 x3.toNatClampNeg)]) (rest := []) hC hR hS (c_X1_cellAt l G n q20 (mI S19 q24 x3.toNatClampNeg) (mI S19 q29 x3.toNatClampNeg) S19 x35 S32 hc33 ok_q20) ok_q20 rfl ⟨Nat.le_of_ble_eq_true rfl, Nat.le_of_ble_eq_true rfl⟩ hl.1 rfl (Nat.le_of_ble_eq_true rfl) dX3_drawnBy_51 (Nat.zero_le _) (Nat.zero_le _) (fun H locs hR hS hE34 => ?_)
            have ok_this := hE34 _ _ ok_this
            have ok_a1 := fun q h => hE34 _ _ (ok_a1 q h)
            have ok_q20 := hE34 _ _ ok_q20
            have ok_q22 := hE34 _ _ ok_q22
            have ok_q24 := hE34 _ _ ok_q24
            have ok_q27 := hE34 _ _ ok_q27
            have ok_q29 := hE34 _ _ ok_q29
            have hE := hE.tr hE34
            refine lv_istore (lv' := [(4, .int x35), (0, .ref this), (1, va_rf a1), (2, .int x3), (3, .int x12)]) hx hb dX3_drawnBy_54 hl (by decide) rfl (fun ls hl => ?_)
            refine lv_iload_n hx hb dX3_drawnBy_56 rfl (lv_at hl 4 rfl) ?_
            refine lv_bipush (v := 22) hx hb dX3_drawnBy_57 (by decide) ?_
            obtain ⟨j112_37, ej112_37, hf⟩ := jn_of2 hf
            have hj112_36 : ∀ (x38 : Int32) (S39 : MS) (H : Heap) (locs : List Loc) (ls : Array Slot), j112_37 x38 S39 = some (ro, So) → Rp G S39 H → va_S (gA G) s.heap H locs → Ex S S39 → Ok S39 this 3 → (∀ q, a1 = some q → Ok S39 q 7) → lv_has ls 6 [(0, .ref this), (1, va_rf a1), (2, .int x3)] → W p l e rX3_drawnBy s m args below meth c H locs 0 0 (MQ below (Qn G S (some (.int ro)) So) args s 0 0 (gA G)) (F0 m 112 ls [.int x38]) := by
              intro x38 S39 H locs ls hf hR hS hE ok_this ok_a1 hl
              rw [ej112_37] at hf
              refine lv_istore (lv' := [(5, .int x38), (0, .ref this), (1, va_rf a1), (2, .int x3)]) hx hb dX3_drawnBy_112 hl (by decide) rfl (fun ls hl => ?_)
              refine lv_iload hx hb dX3_drawnBy_114 (lv_at hl 0 rfl) ?_
              refine lv_if_ne (tgt := 121) hx hb dX3_drawnBy_116 (by decide) (fun hc => ?_) (fun hc => ?_)
              · replace hf := if_f hf hc
                exact hj121_13 S39 _ _ _ hf hR hS hE ok_this ok_a1 (lv_sub hl [1, 2, 3] rfl)
              · replace hf := if_t hf hc
                refine lv_iload_n hx hb dX3_drawnBy_119 rfl (lv_at hl 3 rfl) ?_
                exact r_iret hC hR hS hE hf dX3_drawnBy_120
            refine lv_icmp_ne (tgt := 86) hx hb dX3_drawnBy_59 (by decide) (fun hc => ?_) (fun hc => ?_)
            · replace hf := if_f hf hc
              refine lv_iload hx hb dX3_drawnBy_86 (lv_at hl 0 rfl) ?_
              refine lv_iconst (v := -1) hx hb dX3_drawnBy_88 (by decide) ?_
              obtain ⟨j111_41, ej111_41, hf⟩ := jn_of1 hf
              have hj111_40 : ∀ (S42 : MS) (H : Heap) (locs : List Loc) (ls : Array Slot), j111_41 S42 = some (ro, So) → Rp G S42 H → va_S (gA G) s.heap H locs → Ex S S42 → Ok S42 this 3 → (∀ q, a1 = some q → Ok S42 q 7) → lv_has ls 6 [(0, .ref this), (1, va_rf a1), (2, .int x3)] → W p l e rX3_drawnBy s m args below meth c H locs 0 0 (MQ below (Qn G S (some (.int ro)) So) args s 0 0 (gA G)) (F0 m 111 ls []) := by
                intro S42 H locs ls hf hR hS hE ok_this ok_a1 hl
                rw [ej111_41] at hf
                refine lv_iconst (v := 0) hx hb dX3_drawnBy_111 (by decide) ?_
                exact hj112_36 (0 : Int32) S42 _ _ _ hf hR hS hE ok_this ok_a1 (lv_sub hl [0, 1, 2] rfl)
              refine lv_icmp_eq (tgt := 111) hx hb dX3_drawnBy_89 (by decide) (fun hc => ?_) (fun hc => ?_)
              · replace hf := if_t hf hc
                exact hj111_40 S32 _ _ _ hf hR hS hE ok_this ok_a1 (lv_sub hl [1, 2, 3] rfl)
              · replace hf := if_f hf hc
                refine lv_aload_n hx hb dX3_drawnBy_92 rfl (lv_at hl 1 rfl) ?_
                refine r_aload_nO hx hb dX3_drawnBy_93 rfl (lv_at hl 2 rfl) ?_
                obtain ⟨q43, hq44, hf⟩ := nn_of hf
                have ok_q43 := ok_a1 q43 hq44
                refine W.eq (g2 := F0 m 94 ls [.ref q43, .ref this]) (by rw [hq44]; rfl) ?_
                obtain ⟨q45, hq46, ok_q45, hf⟩ := gR_of hf
                refine gf_RX3_100 hC hR ok_q43 hq46 dX3_drawnBy_94 ?_
                refine lv_iload_n hx hb dX3_drawnBy_97 rfl (lv_at hl 3 rfl) ?_
                obtain ⟨hi47, hf⟩ := ck_of hf
                refine r_iald hC hR ok_q45 hi47 dX3_drawnBy_98 ?_
                refine lv_iload hx hb dX3_drawnBy_99 (lv_at hl 0 rfl) ?_
                obtain ⟨x51, S48, hc49, hf⟩ := cl_of hf
                refine cl_RX3_106 (As := [.int (mI S32 q45 x3.toNatClampNeg), .int x35]) (rest := []) hC hR hS (c_X3_setStake l G n this (mI S32 q45 x3.toNatClampNeg) x35 S32 x51 S48 hc49 ok_this) ok_this rfl ⟨Nat.le_of_ble_eq_true rfl, Nat.le_of_ble_eq_true rfl⟩ hl.1 rfl (Nat.le_of_ble_eq_true rfl) dX3_drawnBy_101 (Nat.zero_le _) (Nat.zero_le _) (fun H locs hR hS hE50 => ?_)
                have ok_this := hE50 _ _ ok_this
                have ok_a1 := fun q h => hE50 _ _ (ok_a1 q h)
                have ok_q20 := hE50 _ _ ok_q20
                have ok_q22 := hE50 _ _ ok_q22
                have ok_q24 := hE50 _ _ ok_q24
                have ok_q27 := hE50 _ _ ok_q27
                have ok_q29 := hE50 _ _ ok_q29
                have ok_q43 := hE50 _ _ ok_q43
                have ok_q45 := hE50 _ _ ok_q45
                have hE := hE.tr hE50
                refine lv_if_eq (tgt := 111) hx hb dX3_drawnBy_104 (by decide) (fun hc => ?_) (fun hc => ?_)
                · replace hf := if_t hf hc
                  exact hj111_40 S48 _ _ _ hf hR hS hE ok_this ok_a1 (lv_sub hl [1, 2, 3] rfl)
                · replace hf := if_f hf hc
                  refine lv_iconst (v := 1) hx hb dX3_drawnBy_107 (by decide) ?_
                  refine lv_goto (tgt := 112) hx hb dX3_drawnBy_108 (by decide) ?_
                  exact hj112_36 (1 : Int32) S48 _ _ _ hf hR hS hE ok_this ok_a1 (lv_sub hl [1, 2, 3] rfl)
            · replace hf := if_t hf hc
              refine lv_aload_n hx hb dX3_drawnBy_62 rfl (lv_at hl 1 rfl) ?_
              refine lv_iload hx hb dX3_drawnBy_63 (lv_at hl 0 rfl) ?_
              refine r_aload_nO hx hb dX3_drawnBy_65 rfl (lv_at hl 2 rfl) ?_
              obtain ⟨q53, hq54, hf⟩ := nn_of hf
              have ok_q53 := ok_a1 q53 hq54
              refine W.eq (g2 := F0 m 66 ls [.ref q53, .int x35, .ref this]) (by rw [hq54]; rfl) ?_
              obtain ⟨q55, hq56, ok_q55, hf⟩ := gR_of hf
              refine gf_RX3_100 hC hR ok_q53 hq56 dX3_drawnBy_66 ?_
              refine lv_iload_n hx hb dX3_drawnBy_69 rfl (lv_at hl 3 rfl) ?_
              obtain ⟨hi57, hf⟩ := ck_of hf
              refine r_iald hC hR ok_q55 hi57 dX3_drawnBy_70 ?_
              obtain ⟨x61, S58, hc59, hf⟩ := cl_of hf
              refine cl_RX3_103 (As := [.int x35, .int (mI S32 q55 x3.toNatClampNeg)]) (rest := []) hC hR hS (c_X3_addBone l G n this x35 (mI S32 q55 x3.toNatClampNeg) S32 x61 S58 hc59 ok_this) ok_this rfl ⟨Nat.le_of_ble_eq_true rfl, Nat.le_of_ble_eq_true rfl⟩ hl.1 rfl (Nat.le_of_ble_eq_true rfl) dX3_drawnBy_71 (Nat.zero_le _) (Nat.zero_le _) (fun H locs hR hS hE60 => ?_)
              have ok_this := hE60 _ _ ok_this
              have ok_a1 := fun q h => hE60 _ _ (ok_a1 q h)
              have ok_q20 := hE60 _ _ ok_q20
              have ok_q22 := hE60 _ _ ok_q22
              have ok_q24 := hE60 _ _ ok_q24
              have ok_q27 := hE60 _ _ ok_q27
              have ok_q29 := hE60 _ _ ok_q29
              have ok_q53 := hE60 _ _ ok_q53
              have ok_q55 := hE60 _ _ ok_q55
              have hE := hE.tr hE60
              refine lv_iconst (v := -1) hx hb dX3_drawnBy_74 (by decide) ?_
              refine lv_icmp_eq (tgt := 82) hx hb dX3_drawnBy_75 (by decide) (fun hc => ?_) (fun hc => ?_)
              · replace hf := if_t hf hc
                refine lv_iconst (v := 0) hx hb dX3_drawnBy_82 (by decide) ?_
                refine lv_goto (tgt := 112) hx hb dX3_drawnBy_83 (by decide) ?_
                exact hj112_36 (0 : Int32) S58 _ _ _ hf hR hS hE ok_this ok_a1 (lv_sub hl [1, 2, 3] rfl)
              · replace hf := if_f hf hc
                refine lv_iconst (v := 1) hx hb dX3_drawnBy_78 (by decide) ?_
                refine lv_goto (tgt := 112) hx hb dX3_drawnBy_79 (by decide) ?_
                exact hj112_36 (1 : Int32) S58 _ _ _ hf hR hS hE ok_this ok_a1 (lv_sub hl [1, 2, 3] rfl)
          refine lv_icmp_eq (tgt := 35) hx hb dX3_drawnBy_26 (by decide) (fun hc => ?_) (fun hc => ?_)
          · replace hf := if_t hf hc
            exact hj35_17 S4 _ _ _ hf hR hS hE ok_this ok_a1 (lv_sub hl [1, 2, 3, 0] rfl)
          · replace hf := if_f hf hc
            refine lv_iload_n hx hb dX3_drawnBy_29 rfl (lv_at hl 0 rfl) ?_
            refine lv_bipush (v := 23) hx hb dX3_drawnBy_30 (by decide) ?_
            refine lv_icmp_ne (tgt := 121) hx hb dX3_drawnBy_32 (by decide) (fun hc => ?_) (fun hc => ?_)
            · replace hf := if_f hf hc
              exact hj121_13 S4 _ _ _ hf hR hS hE ok_this ok_a1 (lv_sub hl [1, 2, 3] rfl)
            · replace hf := if_t hf hc
              exact hj35_17 S4 _ _ _ hf hR hS hE ok_this ok_a1 (lv_sub hl [1, 2, 3, 0] rfl)
  exact hh66 n (0 : Int32) S _ _ _ hf hR hS hE ok_this ok_a1 (lv_sub hl [1, 2, 0] rfl)
