abbrev rX8_addWind : Room := { frames := 0, cells := 0, slots := 0, locals := 0 }
def f_X8_addWind (_n : Nat) (this : Nat) (a1 : Int32) (a2 : Int32) (a3 : Int32) (a4 : Int32) (S : MS) : Option (Int32 × MS) :=
  (if a1 < (-1 : Int32) then some ((-1 : Int32), S) else (if (1 : Int32) < a1 then some ((-1 : Int32), S) else (if a2 < (-1 : Int32) then some ((-1 : Int32), S) else (if (1 : Int32) < a2 then some ((-1 : Int32), S) else (if (mI S this 6) < (6 : Int32) then (if a3 < 0 then some ((-1 : Int32), S) else (if (99 : Int32) < a3 then some ((-1 : Int32), S) else (if a4 < 0 then some ((-1 : Int32), S) else (if a4 ≤ (9 : Int32) then bd (mI S this 6) fun x1 => bd (sI S this 6 ((mI S this 6) + (1 : Int32))) fun S2 => gR S2 (mR S2 this 0) 12 fun q4 => ck (inb x1 (mN S2 q4)) (bd (sI S2 q4 x1.toNatClampNeg a1) fun S7 => gR S7 (mR S7 this 1) 12 fun q9 => ck (inb x1 (mN S7 q9)) (bd (sI S7 q9 x1.toNatClampNeg a2) fun S12 => gR S12 (mR S12 this 2) 12 fun q14 => ck (inb x1 (mN S12 q14)) (bd (sI S12 q14 x1.toNatClampNeg a3) fun S17 => gR S17 (mR S17 this 3) 12 fun q19 => ck (inb x1 (mN S17 q19)) (bd (sI S17 q19 x1.toNatClampNeg a4) fun S22 => some (x1, S22))))) else some ((-1 : Int32), S))))) else some ((-1 : Int32), S))))))
set_option maxRecDepth 100000 in
set_option maxHeartbeats 4000000 in
theorem c_X8_addWind (l : Launch) (G : Gx) (n : Nat) (this : Nat) (a1 : Int32) (a2 : Int32) (a3 : Int32) (a4 : Int32) (S : MS) (ro : Int32) (So : MS) (hf : f_X8_addWind n this a1 a2 a3 a4 S = some (ro, So)) (ok_this : Ok S this 8) : Cn G l yX8_addWind cX8_addWind 6 (some .int) rX8_addWind [.ref this, .int a1, .int a2, .int a3, .int a4] S (some (.int ro)) So := by
  refine Cn.of (by decide) (Nat.le_of_ble_eq_true rfl) ?_
  intro p e s m args below meth c hC hname hR ls hl
  have hC : Cx G RX8 cX8_addWind 6 (some .int) p s m args meth c := hC
  have hl : lv_has ls 6 [(0, .ref this), (1, .int a1), (2, .int a2), (3, .int a3), (4, .int a4)] := hl
  have hx := hC.x
  have hb := hC.b
  have hS : va_S (gA G) s.heap s.heap [] := va_S.rf
  have hE : Ex S S := Ex.rf S
  unfold f_X8_addWind at hf
  refine lv_iload_n hx hb dX8_addWind_0 rfl (lv_at hl 1 rfl) ?_
  refine lv_iconst (v := -1) hx hb dX8_addWind_1 (by decide) ?_
  refine lv_icmp_lt (tgt := 29) hx hb dX8_addWind_2 (by decide) (fun hc => ?_) (fun hc => ?_)
  · replace hf := if_t hf hc
    refine lv_iconst (v := -1) hx hb dX8_addWind_29 (by decide) ?_
    exact r_iret hC hR hS hE hf dX8_addWind_30
  · replace hf := if_f hf hc
    refine lv_iload_n hx hb dX8_addWind_5 rfl (lv_at hl 1 rfl) ?_
    refine lv_iconst (v := 1) hx hb dX8_addWind_6 (by decide) ?_
    refine lv_icmp_gt (tgt := 29) hx hb dX8_addWind_7 (by decide) (fun hc => ?_) (fun hc => ?_)
    · replace hf := if_t hf hc
      refine lv_iconst (v := -1) hx hb dX8_addWind_29 (by decide) ?_
      exact r_iret hC hR hS hE hf dX8_addWind_30
    · replace hf := if_f hf hc
      refine lv_iload_n hx hb dX8_addWind_10 rfl (lv_at hl 2 rfl) ?_
      refine lv_iconst (v := -1) hx hb dX8_addWind_11 (by decide) ?_
      refine lv_icmp_lt (tgt := 29) hx hb dX8_addWind_12 (by decide) (fun hc => ?_) (fun hc => ?_)
      · replace hf := if_t hf hc
        refine lv_iconst (v := -1) hx hb dX8_addWind_29 (by decide) ?_
        exact r_iret hC hR hS hE hf dX8_addWind_30
      · replace hf := if_f hf hc
        refine lv_iload_n hx hb dX8_addWind_15 rfl (lv_at hl 2 rfl) ?_
        refine lv_iconst (v := 1) hx hb dX8_addWind_16 (by decide) ?_
        refine lv_icmp_gt (tgt := 29) hx hb dX8_addWind_17 (by decide) (fun hc => ?_) (fun hc => ?_)
        · replace hf := if_t hf hc
          refine lv_iconst (v := -1) hx hb dX8_addWind_29 (by decide) ?_
          exact r_iret hC hR hS hE hf dX8_addWind_30
        · replace hf := if_f hf hc
          refine lv_aload_n hx hb dX8_addWind_20 rfl (lv_at hl 0 rfl) ?_
          refine gf_RX8_46 hC hR ok_this dX8_addWind_21 ?_
          refine lv_bipush (v := 6) hx hb dX8_addWind_24 (by decide) ?_
          refine lv_icmp_lt (tgt := 31) hx hb dX8_addWind_26 (by decide) (fun hc => ?_) (fun hc => ?_)
          · replace hf := if_t hf hc
            refine lv_iload_n hx hb dX8_addWind_31 rfl (lv_at hl 3 rfl) ?_
            refine lv_if_lt (tgt := 53) hx hb dX8_addWind_32 (by decide) (fun hc => ?_) (fun hc => ?_)
            · replace hf := if_t hf hc
              refine lv_iconst (v := -1) hx hb dX8_addWind_53 (by decide) ?_
              exact r_iret hC hR hS hE hf dX8_addWind_54
            · replace hf := if_f hf hc
              refine lv_iload_n hx hb dX8_addWind_35 rfl (lv_at hl 3 rfl) ?_
              refine lv_bipush (v := 99) hx hb dX8_addWind_36 (by decide) ?_
              refine lv_icmp_gt (tgt := 53) hx hb dX8_addWind_38 (by decide) (fun hc => ?_) (fun hc => ?_)
              · replace hf := if_t hf hc
                refine lv_iconst (v := -1) hx hb dX8_addWind_53 (by decide) ?_
                exact r_iret hC hR hS hE hf dX8_addWind_54
              · replace hf := if_f hf hc
                refine lv_iload hx hb dX8_addWind_41 (lv_at hl 4 rfl) ?_
                refine lv_if_lt (tgt := 53) hx hb dX8_addWind_43 (by decide) (fun hc => ?_) (fun hc => ?_)
                · replace hf := if_t hf hc
                  refine lv_iconst (v := -1) hx hb dX8_addWind_53 (by decide) ?_
                  exact r_iret hC hR hS hE hf dX8_addWind_54
                · replace hf := if_f hf hc
                  refine lv_iload hx hb dX8_addWind_46 (lv_at hl 4 rfl) ?_
                  refine lv_bipush (v := 9) hx hb dX8_addWind_48 (by decide) ?_
                  refine lv_icmp_le (tgt := 55) hx hb dX8_addWind_50 (by decide) (fun hc => ?_) (fun hc => ?_)
                  · replace hf := if_t hf hc
                    refine lv_aload_n hx hb dX8_addWind_55 rfl (lv_at hl 0 rfl) ?_
                    refine gf_RX8_46 hC hR ok_this dX8_addWind_56 ?_
                    refine bdi hf (fun x1 hf => ?_)
                    refine lv_istore (lv' := [(5, .int x1), (0, .ref this), (1, .int a1), (2, .int a2), (3, .int a3), (4, .int a4)]) hx hb dX8_addWind_59 hl (by decide) rfl (fun ls hl => ?_)
                    refine lv_aload_n hx hb dX8_addWind_61 rfl (lv_at hl 1 rfl) ?_
                    refine lv_dup hx hb dX8_addWind_62 rfl ?_
                    refine gf_RX8_46 hC hR ok_this dX8_addWind_63 ?_
                    refine lv_iconst (v := 1) hx hb dX8_addWind_66 (by decide) ?_
                    refine lv_iadd hx hb dX8_addWind_67 ?_
                    refine pf_RX8_46 hC hR hS ok_this dX8_addWind_68 hf (fun S2 H locs hf hR hS hE3 => ?_)
                    have ok_this := hE3 _ _ ok_this
                    have hE := hE.tr hE3
                    refine lv_aload_n hx hb dX8_addWind_71 rfl (lv_at hl 1 rfl) ?_
                    obtain ⟨q4, hq5, ok_q4, hf⟩ := gR_of hf
                    refine gf_RX8_9 hC hR ok_this hq5 dX8_addWind_72 ?_
                    refine lv_iload hx hb dX8_addWind_75 (lv_at hl 0 rfl) ?_
                    refine lv_iload_n hx hb dX8_addWind_77 rfl (lv_at hl 2 rfl) ?_
                    obtain ⟨hi6, hf⟩ := ck_of hf
                    refine rB_iast hC hR hS ok_q4 hi6 dX8_addWind_78 hf (fun S7 H locs hf hR hS hE8 => ?_)
                    have ok_this := hE8 _ _ ok_this
                    have ok_q4 := hE8 _ _ ok_q4
                    have hE := hE.tr hE8
                    refine lv_aload_n hx hb dX8_addWind_79 rfl (lv_at hl 1 rfl) ?_
                    obtain ⟨q9, hq10, ok_q9, hf⟩ := gR_of hf
                    refine gf_RX8_15 hC hR ok_this hq10 dX8_addWind_80 ?_
                    refine lv_iload hx hb dX8_addWind_83 (lv_at hl 0 rfl) ?_
                    refine lv_iload_n hx hb dX8_addWind_85 rfl (lv_at hl 3 rfl) ?_
                    obtain ⟨hi11, hf⟩ := ck_of hf
                    refine rB_iast hC hR hS ok_q9 hi11 dX8_addWind_86 hf (fun S12 H locs hf hR hS hE13 => ?_)
                    have ok_this := hE13 _ _ ok_this
                    have ok_q4 := hE13 _ _ ok_q4
                    have ok_q9 := hE13 _ _ ok_q9
                    have hE := hE.tr hE13
                    refine lv_aload_n hx hb dX8_addWind_87 rfl (lv_at hl 1 rfl) ?_
                    obtain ⟨q14, hq15, ok_q14, hf⟩ := gR_of hf
                    refine gf_RX8_18 hC hR ok_this hq15 dX8_addWind_88 ?_
                    refine lv_iload hx hb dX8_addWind_91 (lv_at hl 0 rfl) ?_
                    refine lv_iload_n hx hb dX8_addWind_93 rfl (lv_at hl 4 rfl) ?_
                    obtain ⟨hi16, hf⟩ := ck_of hf
                    refine rB_iast hC hR hS ok_q14 hi16 dX8_addWind_94 hf (fun S17 H locs hf hR hS hE18 => ?_)
                    have ok_this := hE18 _ _ ok_this
                    have ok_q4 := hE18 _ _ ok_q4
                    have ok_q9 := hE18 _ _ ok_q9
                    have ok_q14 := hE18 _ _ ok_q14
                    have hE := hE.tr hE18
                    refine lv_aload_n hx hb dX8_addWind_95 rfl (lv_at hl 1 rfl) ?_
                    obtain ⟨q19, hq20, ok_q19, hf⟩ := gR_of hf
                    refine gf_RX8_21 hC hR ok_this hq20 dX8_addWind_96 ?_
                    refine lv_iload hx hb dX8_addWind_99 (lv_at hl 0 rfl) ?_
                    refine lv_iload hx hb dX8_addWind_101 (lv_at hl 5 rfl) ?_
                    obtain ⟨hi21, hf⟩ := ck_of hf
                    refine rB_iast hC hR hS ok_q19 hi21 dX8_addWind_103 hf (fun S22 H locs hf hR hS hE23 => ?_)
                    have ok_this := hE23 _ _ ok_this
                    have ok_q4 := hE23 _ _ ok_q4
                    have ok_q9 := hE23 _ _ ok_q9
                    have ok_q14 := hE23 _ _ ok_q14
                    have ok_q19 := hE23 _ _ ok_q19
                    have hE := hE.tr hE23
                    refine lv_iload hx hb dX8_addWind_104 (lv_at hl 0 rfl) ?_
                    exact r_iret hC hR hS hE hf dX8_addWind_106
                  · replace hf := if_f hf hc
                    refine lv_iconst (v := -1) hx hb dX8_addWind_53 (by decide) ?_
                    exact r_iret hC hR hS hE hf dX8_addWind_54
          · replace hf := if_f hf hc
            refine lv_iconst (v := -1) hx hb dX8_addWind_29 (by decide) ?_
            exact r_iret hC hR hS hE hf dX8_addWind_30
abbrev rX8_windAt : Room := { frames := 0, cells := 0, slots := 0, locals := 0 }
def f_X8_windAt_L4 (n : Nat) (this : Nat) (a1 : Int32) : Nat → Int32 → Int32 → MS → Option (Int32 × MS)
  | 0, _, _, _ => none
  | k + 1, x3, x4, S5 => jn (f_X8_windAt_L4 n this a1 k) fun rec4_2 => (if (mI S5 this 6) ≤ x4 then some ((0 : Int32), S5) else gR S5 (mR S5 this 3) 12 fun q6 => ck (inb x4 (mN S5 q6)) (bd (x3 + (mI S5 q6 x4.toNatClampNeg)) fun x9 => (if x9 ≤ a1 then bd (x4 + (1 : Int32)) fun x10 => rec4_2 x9 x10 S5 else some (x4, S5))))
def f_X8_windAt (n : Nat) (this : Nat) (a1 : Int32) (S : MS) : Option (Int32 × MS) :=
  f_X8_windAt_L4 n this a1 n (0 : Int32) (0 : Int32) S
set_option maxRecDepth 100000 in
set_option maxHeartbeats 4000000 in
theorem c_X8_windAt (l : Launch) (G : Gx) (n : Nat) (this : Nat) (a1 : Int32) (S : MS) (ro : Int32) (So : MS) (hf : f_X8_windAt n this a1 S = some (ro, So)) (ok_this : Ok S this 8) : Cn G l yX8_windAt cX8_windAt 4 (some .int) rX8_windAt [.ref this, .int a1] S (some (.int ro)) So := by
  refine Cn.of (by decide) (Nat.le_of_ble_eq_true rfl) ?_
  intro p e s m args below meth c hC hname hR ls hl
  have hC : Cx G RX8 cX8_windAt 4 (some .int) p s m args meth c := hC
  have hl : lv_has ls 4 [(0, .ref this), (1, .int a1)] := hl
  have hx := hC.x
  have hb := hC.b
  have hS : va_S (gA G) s.heap s.heap [] := va_S.rf
  have hE : Ex S S := Ex.rf S
  unfold f_X8_windAt at hf
  refine lv_iconst (v := 0) hx hb dX8_windAt_0 (by decide) ?_
  refine lv_istore_n (lv' := [(2, .int (0 : Int32)), (0, .ref this), (1, .int a1)]) hx hb dX8_windAt_1 rfl hl (by decide) rfl (fun ls hl => ?_)
  refine lv_iconst (v := 0) hx hb dX8_windAt_2 (by decide) ?_
  refine lv_istore_n (lv' := [(3, .int (0 : Int32)), (2, .int (0 : Int32)), (0, .ref this), (1, .int a1)]) hx hb dX8_windAt_3 rfl hl (by decide) rfl (fun ls hl => ?_)
  have hh11 : ∀ k : Nat, ∀ (x3 : Int32) (x4 : Int32) (S5 : MS) (H : Heap) (locs : List Loc) (ls : Array Slot), f_X8_windAt_L4 n this a1 k x3 x4 S5 = some (ro, So) → Rp G S5 H → va_S (gA G) s.heap H locs → Ex S S5 → Ok S5 this 8 → lv_has ls 4 [(0, .ref this), (1, .int a1), (2, .int x3), (3, .int x4)] → W p l e rX8_windAt s m args below meth c H locs 0 0 (MQ below (Qn G S (some (.int ro)) So) args s 0 0 (gA G)) (F0 m 4 ls []) := by
    intro k
    induction k with
    | zero =>
      intro x3 x4 S5 H locs ls hf hR hS hE ok_this hl
      exact absurd hf (by rw [f_X8_windAt_L4]; exact fun h => by cases h)
    | succ k ih =>
      intro x3 x4 S5 H locs ls hf hR hS hE ok_this hl
      rw [f_X8_windAt_L4] at hf
      obtain ⟨rec4_2, erec4_2, hf⟩ := jn_of3 hf
      have hL4_1 : ∀ (x3 : Int32) (x4 : Int32) (S5 : MS) (H : Heap) (locs : List Loc) (ls : Array Slot), rec4_2 x3 x4 S5 = some (ro, So) → Rp G S5 H → va_S (gA G) s.heap H locs → Ex S S5 → Ok S5 this 8 → lv_has ls 4 [(0, .ref this), (1, .int a1), (2, .int x3), (3, .int x4)] → W p l e rX8_windAt s m args below meth c H locs 0 0 (MQ below (Qn G S (some (.int ro)) So) args s 0 0 (gA G)) (F0 m 4 ls []) := by
        intro x3 x4 S5 H locs ls hf hR hS hE ok_this hl
        rw [erec4_2] at hf
        exact ih x3 x4 S5 _ _ _ hf hR hS hE ok_this hl
      refine lv_iload_n hx hb dX8_windAt_4 rfl (lv_at hl 3 rfl) ?_
      refine lv_aload_n hx hb dX8_windAt_5 rfl (lv_at hl 0 rfl) ?_
      refine gf_RX8_46 hC hR ok_this dX8_windAt_6 ?_
      refine lv_icmp_ge (tgt := 34) hx hb dX8_windAt_9 (by decide) (fun hc => ?_) (fun hc => ?_)
      · replace hf := if_t hf hc
        refine lv_iconst (v := 0) hx hb dX8_windAt_34 (by decide) ?_
        exact r_iret hC hR hS hE hf dX8_windAt_35
      · replace hf := if_f hf hc
        refine lv_iload_n hx hb dX8_windAt_12 rfl (lv_at hl 2 rfl) ?_
        refine lv_aload_n hx hb dX8_windAt_13 rfl (lv_at hl 0 rfl) ?_
        obtain ⟨q6, hq7, ok_q6, hf⟩ := gR_of hf
        refine gf_RX8_21 hC hR ok_this hq7 dX8_windAt_14 ?_
        refine lv_iload_n hx hb dX8_windAt_17 rfl (lv_at hl 3 rfl) ?_
        obtain ⟨hi8, hf⟩ := ck_of hf
        refine r_iald hC hR ok_q6 hi8 dX8_windAt_18 ?_
        refine lv_iadd hx hb dX8_windAt_19 ?_
        refine bdi hf (fun x9 hf => ?_)
        refine lv_istore_n (lv' := [(2, .int x9), (0, .ref this), (1, .int a1), (3, .int x4)]) hx hb dX8_windAt_20 rfl hl (by decide) rfl (fun ls hl => ?_)
        refine lv_iload_n hx hb dX8_windAt_21 rfl (lv_at hl 2 rfl) ?_
        refine lv_iload_n hx hb dX8_windAt_22 rfl (lv_at hl 0 rfl) ?_
        refine lv_icmp_ge (tgt := 28) hx hb dX8_windAt_23 (by decide) (fun hc => ?_) (fun hc => ?_)
        · replace hf := if_t hf hc
          refine r_iinc (n := 1) (z := 1) (lv' := fun x10 => [(3, .int x10), (2, .int x9), (0, .ref this), (1, .int a1)]) hx hb dX8_windAt_28 hl (k := 3) rfl (by decide) (by decide) (fun _ => rfl) hf (fun x10 ls hf hl => ?_)
          refine lv_goto (tgt := 4) hx hb dX8_windAt_31 (by decide) ?_
          exact hL4_1 x9 x10 S5 _ _ _ hf hR hS hE ok_this (lv_sub hl [2, 3, 1, 0] rfl)
        · replace hf := if_f hf hc
          refine lv_iload_n hx hb dX8_windAt_26 rfl (lv_at hl 3 rfl) ?_
          exact r_iret hC hR hS hE hf dX8_windAt_27
  exact hh11 n (0 : Int32) (0 : Int32) S _ _ _ hf hR hS hE ok_this (lv_sub hl [2, 3, 1, 0] rfl)
abbrev rX9_init : Room := { frames := 1, cells := 3, slots := 74, locals := 40 }
def f_X9_init (_n : Nat) (z : Nat) (this : Nat) (a1 : Nat) (a2 : Nat) (a3 : Nat) (S : MS) : Option (MS) :=
  ck (nak (24 : Int32) 24) (jn (z + (mL S).length) fun q1 => bd (nw S q1 12 (24 : Int32).toNatClampNeg) fun S2 => bd (sR S2 this 3 (some q1)) fun S5 => ck (nak (26 : Int32) 26) (jn (z + (mL S5).length) fun q7 => bd (nw S5 q7 12 (26 : Int32).toNatClampNeg) fun S8 => bd (sR S8 this 4 (some q7)) fun S11 => ck (nak (24 : Int32) 24) (jn (z + (mL S11).length) fun q13 => bd (nw S11 q13 12 (24 : Int32).toNatClampNeg) fun S14 => bd (sR S14 this 5 (some q13)) fun S17 => bd (sR S17 this 0 (some a1)) fun S19 => bd (sR S19 this 1 (some a2)) fun S21 => bd (sR S21 this 2 (some a3)) fun S23 => some S23)))
set_option maxRecDepth 100000 in
set_option maxHeartbeats 4000000 in
theorem c_X9_init (l : Launch) (G : Gx) (n : Nat) (this : Nat) (a1 : Nat) (a2 : Nat) (a3 : Nat) (S : MS) (So : MS) (hf : f_X9_init n G.2.2 this a1 a2 a3 S = some So) (ok_this : Ok S this 9) (ok_a1 : Ok S a1 8) (ok_a2 : Ok S a2 16) (ok_a3 : Ok S a3 5) : Cn G l yX9_init cX9_init 4 none rX9_init [.ref this, .ref a1, .ref a2, .ref a3] S none So := by
  refine Cn.of (by decide) (Nat.le_of_ble_eq_true rfl) ?_
  intro p e s m args below meth c hC hname hR ls hl
  have hC : Cx G RX9 cX9_init 4 none p s m args meth c := hC
  have hl : lv_has ls 4 [(0, .ref this), (1, .ref a1), (2, .ref a2), (3, .ref a3)] := hl
  have hx := hC.x
  have hb := hC.b
  have hS : va_S (gA G) s.heap s.heap [] := va_S.rf
  have hE : Ex S S := Ex.rf S
  unfold f_X9_init at hf
  refine lv_aload_n hx hb dX9_init_0 rfl (lv_at hl 0 rfl) ?_
  refine r_obj hC hl.1 (bg5 _ (List.mem_of_getElem? (i := 6) rfl)) (bg1 _ (List.mem_of_getElem? (i := 14) rfl)) (bg1 _ (List.mem_of_getElem? (i := 15) rfl)) (Nat.le_of_ble_eq_true rfl) (Nat.le_of_ble_eq_true rfl) dX9_init_1 ?_
  refine lv_aload_n hx hb dX9_init_4 rfl (lv_at hl 0 rfl) ?_
  refine lv_bipush (v := 24) hx hb dX9_init_5 (by decide) ?_
  obtain ⟨hi4, hf⟩ := ck_of hf
  obtain ⟨q1, eq1, hf⟩ := jn_of hf
  refine r_newa (ci := 12) (NB := 24) (t0 := 0) (ty := .int) rfl (bg3 _ (List.mem_of_getElem? (i := 15) rfl)) rfl (fun _ _ h => h) (atI G) (by decide) hC hR hS hi4 (Nat.le_of_ble_eq_true rfl) (Nat.le_of_ble_eq_true rfl) dX9_init_7 eq1 hf (fun S2 H hf hR hS hE3 ok_q1 => ?_)
  have ok_this := hE3 _ _ ok_this
  have ok_a1 := hE3 _ _ ok_a1
  have ok_a2 := hE3 _ _ ok_a2
  have ok_a3 := hE3 _ _ ok_a3
  have hE := hE.tr hE3
  refine pf_RX9_9 hC hR hS ok_this hname dX9_init_9 hf (fun S5 H locs hf hR hS hE6 => ?_)
  have ok_this := hE6 _ _ ok_this
  have ok_a1 := hE6 _ _ ok_a1
  have ok_a2 := hE6 _ _ ok_a2
  have ok_a3 := hE6 _ _ ok_a3
  have ok_q1 := hE6 _ _ ok_q1
  have hE := hE.tr hE6
  refine lv_aload_n hx hb dX9_init_12 rfl (lv_at hl 0 rfl) ?_
  refine lv_bipush (v := 26) hx hb dX9_init_13 (by decide) ?_
  obtain ⟨hi10, hf⟩ := ck_of hf
  obtain ⟨q7, eq7, hf⟩ := jn_of hf
  refine r_newa (ci := 12) (NB := 26) (t0 := 0) (ty := .int) rfl (bg3 _ (List.mem_of_getElem? (i := 15) rfl)) rfl (fun _ _ h => h) (atI G) (by decide) hC hR hS hi10 (Nat.le_of_ble_eq_true rfl) (Nat.le_of_ble_eq_true rfl) dX9_init_15 eq7 hf (fun S8 H hf hR hS hE9 ok_q7 => ?_)
  have ok_this := hE9 _ _ ok_this
  have ok_a1 := hE9 _ _ ok_a1
  have ok_a2 := hE9 _ _ ok_a2
  have ok_a3 := hE9 _ _ ok_a3
  have ok_q1 := hE9 _ _ ok_q1
  have hE := hE.tr hE9
  refine pf_RX9_15 hC hR hS ok_this hname dX9_init_17 hf (fun S11 H locs hf hR hS hE12 => ?_)
  have ok_this := hE12 _ _ ok_this
  have ok_a1 := hE12 _ _ ok_a1
  have ok_a2 := hE12 _ _ ok_a2
  have ok_a3 := hE12 _ _ ok_a3
  have ok_q1 := hE12 _ _ ok_q1
  have ok_q7 := hE12 _ _ ok_q7
  have hE := hE.tr hE12
  refine lv_aload_n hx hb dX9_init_20 rfl (lv_at hl 0 rfl) ?_
  refine lv_bipush (v := 24) hx hb dX9_init_21 (by decide) ?_
  obtain ⟨hi16, hf⟩ := ck_of hf
  obtain ⟨q13, eq13, hf⟩ := jn_of hf
  refine r_newa (ci := 12) (NB := 24) (t0 := 0) (ty := .int) rfl (bg3 _ (List.mem_of_getElem? (i := 15) rfl)) rfl (fun _ _ h => h) (atI G) (by decide) hC hR hS hi16 (Nat.le_of_ble_eq_true rfl) (Nat.le_of_ble_eq_true rfl) dX9_init_23 eq13 hf (fun S14 H hf hR hS hE15 ok_q13 => ?_)
  have ok_this := hE15 _ _ ok_this
  have ok_a1 := hE15 _ _ ok_a1
  have ok_a2 := hE15 _ _ ok_a2
  have ok_a3 := hE15 _ _ ok_a3
  have ok_q1 := hE15 _ _ ok_q1
  have ok_q7 := hE15 _ _ ok_q7
  have hE := hE.tr hE15
  refine pf_RX9_18 hC hR hS ok_this hname dX9_init_25 hf (fun S17 H locs hf hR hS hE18 => ?_)
  have ok_this := hE18 _ _ ok_this
  have ok_a1 := hE18 _ _ ok_a1
  have ok_a2 := hE18 _ _ ok_a2
  have ok_a3 := hE18 _ _ ok_a3
  have ok_q1 := hE18 _ _ ok_q1
  have ok_q7 := hE18 _ _ ok_q7
  have ok_q13 := hE18 _ _ ok_q13
  have hE := hE.tr hE18
  refine lv_aload_n hx hb dX9_init_28 rfl (lv_at hl 0 rfl) ?_
  refine lv_aload_n hx hb dX9_init_29 rfl (lv_at hl 1 rfl) ?_
  refine pf_RX9_21 hC hR hS ok_this hname dX9_init_30 hf (fun S19 H locs hf hR hS hE20 => ?_)
  have ok_this := hE20 _ _ ok_this
  have ok_a1 := hE20 _ _ ok_a1
  have ok_a2 := hE20 _ _ ok_a2
  have ok_a3 := hE20 _ _ ok_a3
  have ok_q1 := hE20 _ _ ok_q1
  have ok_q7 := hE20 _ _ ok_q7
  have ok_q13 := hE20 _ _ ok_q13
  have hE := hE.tr hE20
  refine lv_aload_n hx hb dX9_init_33 rfl (lv_at hl 0 rfl) ?_
  refine lv_aload_n hx hb dX9_init_34 rfl (lv_at hl 2 rfl) ?_
  refine pf_RX9_25 hC hR hS ok_this hname dX9_init_35 hf (fun S21 H locs hf hR hS hE22 => ?_)
  have ok_this := hE22 _ _ ok_this
  have ok_a1 := hE22 _ _ ok_a1
  have ok_a2 := hE22 _ _ ok_a2
  have ok_a3 := hE22 _ _ ok_a3
  have ok_q1 := hE22 _ _ ok_q1
  have ok_q7 := hE22 _ _ ok_q7
  have ok_q13 := hE22 _ _ ok_q13
  have hE := hE.tr hE22
  refine lv_aload_n hx hb dX9_init_38 rfl (lv_at hl 0 rfl) ?_
  refine lv_aload_n hx hb dX9_init_39 rfl (lv_at hl 3 rfl) ?_
  refine pf_RX9_29 hC hR hS ok_this hname dX9_init_40 hf (fun S23 H locs hf hR hS hE24 => ?_)
  have ok_this := hE24 _ _ ok_this
  have ok_a1 := hE24 _ _ ok_a1
  have ok_a2 := hE24 _ _ ok_a2
  have ok_a3 := hE24 _ _ ok_a3
  have ok_q1 := hE24 _ _ ok_q1
  have ok_q7 := hE24 _ _ ok_q7
  have ok_q13 := hE24 _ _ ok_q13
  have hE := hE.tr hE24
  refine W.widen (k := 3) (n := 74) (Nat.le_of_ble_eq_true rfl) (Nat.le_of_ble_eq_true rfl) ?_
  exact r_vret hC hR hS hE hf dX9_init_43
abbrev rX10_init : Room := { frames := 3, cells := 82, slots := 2780, locals := 85 }
def f_X10_init (n : Nat) (z : Nat) (this : Nat) (a1 : Int32) (a2 : Int32) (S : MS) : Option (MS) :=
  jn (z + (mL S).length) fun q1 => bd (nw S q1 8 0) fun S2 => cv (f_X8_init n z q1 S2) fun S4 => bd (sR S4 this 3 (some q1)) fun S7 => jn (z + (mL S7).length) fun q9 => bd (nw S7 q9 8 0) fun S10 => cv (f_X8_init n z q9 S10) fun S12 => bd (sR S12 this 4 (some q9)) fun S15 => jn (z + (mL S15).length) fun q17 => bd (nw S15 q17 6 0) fun S18 => cv (f_X6_init n z q17 S18) fun S20 => bd (sR S20 this 5 (some q17)) fun S23 => jn (z + (mL S23).length) fun q25 => bd (nw S23 q25 4 0) fun S26 => cv (f_X4_init n z q25 S26) fun S28 => bd (sR S28 this 6 (some q25)) fun S31 => ck (nak (4 : Int32) 4) (jn (z + (mL S31).length) fun q33 => bd (nw S31 q33 16 (4 : Int32).toNatClampNeg) fun S34 => bd (sR S34 this 7 (some q33)) fun S37 => jn (z + (mL S37).length) fun q39 => bd (nw S37 q39 5 0) fun S40 => cv (f_X5_init n z q39 S40) fun S42 => bd (sR S42 this 8 (some q39)) fun S45 => jn (z + (mL S45).length) fun q47 => bd (nw S45 q47 9 0) fun S48 => gR S48 (mR S48 this 3) 8 fun q50 => gR S48 (mR S48 this 7) 16 fun q52 => gR S48 (mR S48 this 8) 5 fun q54 => cv (f_X9_init n z q47 q50 q52 q54 S48) fun S56 => bd (sR S56 this 9 (some q47)) fun S59 => jn (z + (mL S59).length) fun q61 => bd (nw S59 q61 1 0) fun S62 => cv (f_X1_init n z q61 (imax (3 : Int32) (imin (8 : Int32) a1)) (imax (3 : Int32) (imin (6 : Int32) a2)) S62) fun S64 => bd (sR S64 this 0 (some q61)) fun S67 => jn (z + (mL S67).length) fun q69 => bd (nw S67 q69 3 0) fun S70 => gR S70 (mR S70 this 0) 1 fun q72 => cv (f_X3_init n z q69 q72 S70) fun S74 => bd (sR S74 this 1 (some q69)) fun S77 => jn (z + (mL S77).length) fun q79 => bd (nw S77 q79 3 0) fun S80 => gR S80 (mR S80 this 0) 1 fun q82 => cv (f_X3_init n z q79 q82 S80) fun S84 => bd (sR S84 this 2 (some q79)) fun S87 => jn (z + (mL S87).length) fun q89 => bd (nw S87 q89 2 0) fun S90 => gR S90 (mR S90 this 1) 3 fun q92 => gR S90 (mR S90 this 3) 8 fun q94 => gR S90 (mR S90 this 9) 9 fun q96 => cv (f_X2_init n z q89 q92 q94 q96 S90) fun S98 => bd (sR S98 this 10 (some q89)) fun S101 => some S101)
set_option maxRecDepth 100000 in
set_option maxHeartbeats 4000000 in
theorem c_X10_init (l : Launch) (G : Gx) (n : Nat) (this : Nat) (a1 : Int32) (a2 : Int32) (S : MS) (So : MS) (hf : f_X10_init n G.2.2 this a1 a2 S = some So) (ok_this : Ok S this 10) : Cn G l yX10_init cX10_init 3 none rX10_init [.ref this, .int a1, .int a2] S none So := by
  refine Cn.of (by decide) (Nat.le_of_ble_eq_true rfl) ?_
  intro p e s m args below meth c hC hname hR ls hl
  have hC : Cx G RX10 cX10_init 3 none p s m args meth c := hC
  have hl : lv_has ls 3 [(0, .ref this), (1, .int a1), (2, .int a2)] := hl
  have hx := hC.x
  have hb := hC.b
  have hS : va_S (gA G) s.heap s.heap [] := va_S.rf
  have hE : Ex S S := Ex.rf S
  unfold f_X10_init at hf
  refine lv_aload_n hx hb dX10_init_0 rfl (lv_at hl 0 rfl) ?_
  refine r_obj hC hl.1 (bg1 _ (List.mem_of_getElem? (i := 13) rfl)) (bg1 _ (List.mem_of_getElem? (i := 14) rfl)) (bg1 _ (List.mem_of_getElem? (i := 15) rfl)) (Nat.le_of_ble_eq_true rfl) (Nat.le_of_ble_eq_true rfl) dX10_init_1 ?_
  refine lv_aload_n hx hb dX10_init_4 rfl (lv_at hl 0 rfl) ?_
  obtain ⟨q1, eq1, hf⟩ := jn_of hf
  refine r_new (ci := 8) rfl (by decide) inlX8 rfl (by decide +kernel) (by decide +kernel) (bg1 _ (List.mem_of_getElem? (i := 16) rfl)) (bg1 _ (List.mem_of_getElem? (i := 17) rfl)) (bg1 _ (List.mem_of_getElem? (i := 18) rfl)) hC hR hS (Nat.le_of_ble_eq_true rfl) (Nat.le_of_ble_eq_true rfl) dX10_init_5 eq1 hf (fun S2 H hf hR hS hE3 ok_q1 => ?_)
  have ok_this := hE3 _ _ ok_this
  have hE := hE.tr hE3
  refine lv_dup hx hb dX10_init_8 rfl ?_
  obtain ⟨S4, hc5, hf⟩ := cv_of hf
  refine cl_RX10_9 (As := []) (rest := [.ref q1, .ref this]) hC hR hS (c_X8_init l G n q1 S2 S4 hc5 ok_q1) rfl ⟨Nat.le_of_ble_eq_true rfl, Nat.le_of_ble_eq_true rfl⟩ hl.1 rfl (Nat.le_of_ble_eq_true rfl) dX10_init_9 (Nat.le_of_ble_eq_true rfl) (Nat.le_of_ble_eq_true rfl) (fun H locs hR hS hE6 => ?_)
  have ok_this := hE6 _ _ ok_this
  have ok_q1 := hE6 _ _ ok_q1
  have hE := hE.tr hE6
  refine pf_RX10_10 hC hR hS ok_this hname dX10_init_12 hf (fun S7 H locs hf hR hS hE8 => ?_)
  have ok_this := hE8 _ _ ok_this
  have ok_q1 := hE8 _ _ ok_q1
  have hE := hE.tr hE8
  refine lv_aload_n hx hb dX10_init_15 rfl (lv_at hl 0 rfl) ?_
  obtain ⟨q9, eq9, hf⟩ := jn_of hf
  refine r_new (ci := 8) rfl (by decide) inlX8 rfl (by decide +kernel) (by decide +kernel) (bg1 _ (List.mem_of_getElem? (i := 16) rfl)) (bg1 _ (List.mem_of_getElem? (i := 17) rfl)) (bg1 _ (List.mem_of_getElem? (i := 18) rfl)) hC hR hS (Nat.le_of_ble_eq_true rfl) (Nat.le_of_ble_eq_true rfl) dX10_init_16 eq9 hf (fun S10 H hf hR hS hE11 ok_q9 => ?_)
  have ok_this := hE11 _ _ ok_this
  have ok_q1 := hE11 _ _ ok_q1
  have hE := hE.tr hE11
  refine lv_dup hx hb dX10_init_19 rfl ?_
  obtain ⟨S12, hc13, hf⟩ := cv_of hf
  refine cl_RX10_9 (As := []) (rest := [.ref q9, .ref this]) hC hR hS (c_X8_init l G n q9 S10 S12 hc13 ok_q9) rfl ⟨Nat.le_of_ble_eq_true rfl, Nat.le_of_ble_eq_true rfl⟩ hl.1 rfl (Nat.le_of_ble_eq_true rfl) dX10_init_20 (Nat.le_of_ble_eq_true rfl) (Nat.le_of_ble_eq_true rfl) (fun H locs hR hS hE14 => ?_)
  have ok_this := hE14 _ _ ok_this
  have ok_q1 := hE14 _ _ ok_q1
  have ok_q9 := hE14 _ _ ok_q9
  have hE := hE.tr hE14
  refine pf_RX10_16 hC hR hS ok_this hname dX10_init_23 hf (fun S15 H locs hf hR hS hE16 => ?_)
  have ok_this := hE16 _ _ ok_this
  have ok_q1 := hE16 _ _ ok_q1
  have ok_q9 := hE16 _ _ ok_q9
  have hE := hE.tr hE16
  refine lv_aload_n hx hb dX10_init_26 rfl (lv_at hl 0 rfl) ?_
  obtain ⟨q17, eq17, hf⟩ := jn_of hf
  refine r_new (ci := 6) rfl (by decide) inlX6 rfl (by decide +kernel) (by decide +kernel) (bg1 _ (List.mem_of_getElem? (i := 21) rfl)) (bg1 _ (List.mem_of_getElem? (i := 22) rfl)) (bg1 _ (List.mem_of_getElem? (i := 23) rfl)) hC hR hS (Nat.le_of_ble_eq_true rfl) (Nat.le_of_ble_eq_true rfl) dX10_init_27 eq17 hf (fun S18 H hf hR hS hE19 ok_q17 => ?_)
  have ok_this := hE19 _ _ ok_this
  have ok_q1 := hE19 _ _ ok_q1
  have ok_q9 := hE19 _ _ ok_q9
  have hE := hE.tr hE19
  refine lv_dup hx hb dX10_init_30 rfl ?_
  obtain ⟨S20, hc21, hf⟩ := cv_of hf
  refine cl_RX10_21 (As := []) (rest := [.ref q17, .ref this]) hC hR hS (c_X6_init l G n q17 S18 S20 hc21 ok_q17) rfl ⟨Nat.le_of_ble_eq_true rfl, Nat.le_of_ble_eq_true rfl⟩ hl.1 rfl (Nat.le_of_ble_eq_true rfl) dX10_init_31 (Nat.le_of_ble_eq_true rfl) (Nat.le_of_ble_eq_true rfl) (fun H locs hR hS hE22 => ?_)
  have ok_this := hE22 _ _ ok_this
  have ok_q1 := hE22 _ _ ok_q1
  have ok_q9 := hE22 _ _ ok_q9
  have ok_q17 := hE22 _ _ ok_q17
  have hE := hE.tr hE22
  refine pf_RX10_22 hC hR hS ok_this hname dX10_init_34 hf (fun S23 H locs hf hR hS hE24 => ?_)
  have ok_this := hE24 _ _ ok_this
  have ok_q1 := hE24 _ _ ok_q1
  have ok_q9 := hE24 _ _ ok_q9
  have ok_q17 := hE24 _ _ ok_q17
  have hE := hE.tr hE24
  refine lv_aload_n hx hb dX10_init_37 rfl (lv_at hl 0 rfl) ?_
  obtain ⟨q25, eq25, hf⟩ := jn_of hf
  refine r_new (ci := 4) rfl (by decide) inlX4 rfl (by decide +kernel) (by decide +kernel) (bg2 _ (List.mem_of_getElem? (i := 1) rfl)) (bg2 _ (List.mem_of_getElem? (i := 2) rfl)) (bg2 _ (List.mem_of_getElem? (i := 3) rfl)) hC hR hS (Nat.le_of_ble_eq_true rfl) (Nat.le_of_ble_eq_true rfl) dX10_init_38 eq25 hf (fun S26 H hf hR hS hE27 ok_q25 => ?_)
  have ok_this := hE27 _ _ ok_this
  have ok_q1 := hE27 _ _ ok_q1
  have ok_q9 := hE27 _ _ ok_q9
  have ok_q17 := hE27 _ _ ok_q17
  have hE := hE.tr hE27
  refine lv_dup hx hb dX10_init_41 rfl ?_
  obtain ⟨S28, hc29, hf⟩ := cv_of hf
  refine cl_RX10_28 (As := []) (rest := [.ref q25, .ref this]) hC hR hS (c_X4_init l G n q25 S26 S28 hc29 ok_q25) rfl ⟨Nat.le_of_ble_eq_true rfl, Nat.le_of_ble_eq_true rfl⟩ hl.1 rfl (Nat.le_of_ble_eq_true rfl) dX10_init_42 (Nat.le_of_ble_eq_true rfl) (Nat.le_of_ble_eq_true rfl) (fun H locs hR hS hE30 => ?_)
  have ok_this := hE30 _ _ ok_this
  have ok_q1 := hE30 _ _ ok_q1
  have ok_q9 := hE30 _ _ ok_q9
  have ok_q17 := hE30 _ _ ok_q17
  have ok_q25 := hE30 _ _ ok_q25
  have hE := hE.tr hE30
  refine pf_RX10_29 hC hR hS ok_this hname dX10_init_45 hf (fun S31 H locs hf hR hS hE32 => ?_)
  have ok_this := hE32 _ _ ok_this
  have ok_q1 := hE32 _ _ ok_q1
  have ok_q9 := hE32 _ _ ok_q9
  have ok_q17 := hE32 _ _ ok_q17
  have ok_q25 := hE32 _ _ ok_q25
  have hE := hE.tr hE32
  refine lv_aload_n hx hb dX10_init_48 rfl (lv_at hl 0 rfl) ?_
  refine lv_iconst (v := 4) hx hb dX10_init_49 (by decide) ?_
  obtain ⟨hi36, hf⟩ := ck_of hf
  obtain ⟨q33, eq33, hf⟩ := jn_of hf
  refine r_newq (ci := 16) (NB := 4) (t0 := 4) rfl (fun _ _ h => wE_T h) hC.kx.2.2.2.1 (bg2 _ (List.mem_of_getElem? (i := 5) rfl)) (by decide) hC hR hS hi36 (Nat.le_of_ble_eq_true rfl) (Nat.le_of_ble_eq_true rfl) dX10_init_50 eq33 hf (fun S34 H hf hR hS hE35 ok_q33 => ?_)
  have ok_this := hE35 _ _ ok_this
  have ok_q1 := hE35 _ _ ok_q1
  have ok_q9 := hE35 _ _ ok_q9
  have ok_q17 := hE35 _ _ ok_q17
  have ok_q25 := hE35 _ _ ok_q25
  have hE := hE.tr hE35
  refine pf_RX10_35 hC hR hS ok_this hname dX10_init_53 hf (fun S37 H locs hf hR hS hE38 => ?_)
  have ok_this := hE38 _ _ ok_this
  have ok_q1 := hE38 _ _ ok_q1
  have ok_q9 := hE38 _ _ ok_q9
  have ok_q17 := hE38 _ _ ok_q17
  have ok_q25 := hE38 _ _ ok_q25
  have ok_q33 := hE38 _ _ ok_q33
  have hE := hE.tr hE38
  refine lv_aload_n hx hb dX10_init_56 rfl (lv_at hl 0 rfl) ?_
  obtain ⟨q39, eq39, hf⟩ := jn_of hf
  refine r_new (ci := 5) rfl (by decide) inlX5 rfl (by decide +kernel) (by decide +kernel) (bg2 _ (List.mem_of_getElem? (i := 7) rfl)) (bg2 _ (List.mem_of_getElem? (i := 8) rfl)) (bg2 _ (List.mem_of_getElem? (i := 9) rfl)) hC hR hS (Nat.le_of_ble_eq_true rfl) (Nat.le_of_ble_eq_true rfl) dX10_init_57 eq39 hf (fun S40 H hf hR hS hE41 ok_q39 => ?_)
  have ok_this := hE41 _ _ ok_this
  have ok_q1 := hE41 _ _ ok_q1
  have ok_q9 := hE41 _ _ ok_q9
  have ok_q17 := hE41 _ _ ok_q17
  have ok_q25 := hE41 _ _ ok_q25
  have ok_q33 := hE41 _ _ ok_q33
  have hE := hE.tr hE41
  refine lv_dup hx hb dX10_init_60 rfl ?_
  obtain ⟨S42, hc43, hf⟩ := cv_of hf
  refine cl_RX10_41 (As := []) (rest := [.ref q39, .ref this]) hC hR hS (c_X5_init l G n q39 S40 S42 hc43 ok_q39) rfl ⟨Nat.le_of_ble_eq_true rfl, Nat.le_of_ble_eq_true rfl⟩ hl.1 rfl (Nat.le_of_ble_eq_true rfl) dX10_init_61 (Nat.le_of_ble_eq_true rfl) (Nat.le_of_ble_eq_true rfl) (fun H locs hR hS hE44 => ?_)
  have ok_this := hE44 _ _ ok_this
  have ok_q1 := hE44 _ _ ok_q1
  have ok_q9 := hE44 _ _ ok_q9
  have ok_q17 := hE44 _ _ ok_q17
  have ok_q25 := hE44 _ _ ok_q25
  have ok_q33 := hE44 _ _ ok_q33
  have ok_q39 := hE44 _ _ ok_q39
  have hE := hE.tr hE44
  refine pf_RX10_42 hC hR hS ok_this hname dX10_init_64 hf (fun S45 H locs hf hR hS hE46 => ?_)
  have ok_this := hE46 _ _ ok_this
  have ok_q1 := hE46 _ _ ok_q1
  have ok_q9 := hE46 _ _ ok_q9
  have ok_q17 := hE46 _ _ ok_q17
  have ok_q25 := hE46 _ _ ok_q25
  have ok_q33 := hE46 _ _ ok_q33
  have ok_q39 := hE46 _ _ ok_q39
  have hE := hE.tr hE46
  refine lv_aload_n hx hb dX10_init_67 rfl (lv_at hl 0 rfl) ?_
  obtain ⟨q47, eq47, hf⟩ := jn_of hf
  refine r_new (ci := 9) rfl (by decide) inlX9 rfl (by decide +kernel) (by decide +kernel) (bg2 _ (List.mem_of_getElem? (i := 11) rfl)) (bg2 _ (List.mem_of_getElem? (i := 12) rfl)) (bg2 _ (List.mem_of_getElem? (i := 13) rfl)) hC hR hS (Nat.le_of_ble_eq_true rfl) (Nat.le_of_ble_eq_true rfl) dX10_init_68 eq47 hf (fun S48 H hf hR hS hE49 ok_q47 => ?_)
  have ok_this := hE49 _ _ ok_this
  have ok_q1 := hE49 _ _ ok_q1
  have ok_q9 := hE49 _ _ ok_q9
  have ok_q17 := hE49 _ _ ok_q17
  have ok_q25 := hE49 _ _ ok_q25
  have ok_q33 := hE49 _ _ ok_q33
  have ok_q39 := hE49 _ _ ok_q39
  have hE := hE.tr hE49
  refine lv_dup hx hb dX10_init_71 rfl ?_
  refine lv_aload_n hx hb dX10_init_72 rfl (lv_at hl 0 rfl) ?_
  obtain ⟨q50, hq51, ok_q50, hf⟩ := gR_of hf
  refine gf_RX10_10 hC hR ok_this hq51 dX10_init_73 ?_
  refine lv_aload_n hx hb dX10_init_76 rfl (lv_at hl 0 rfl) ?_
  obtain ⟨q52, hq53, ok_q52, hf⟩ := gR_of hf
  refine gf_RX10_35 hC hR ok_this hq53 dX10_init_77 ?_
  refine lv_aload_n hx hb dX10_init_80 rfl (lv_at hl 0 rfl) ?_
  obtain ⟨q54, hq55, ok_q54, hf⟩ := gR_of hf
  refine gf_RX10_42 hC hR ok_this hq55 dX10_init_81 ?_
  obtain ⟨S56, hc57, hf⟩ := cv_of hf
  refine cl_RX10_48 (As := [.ref q50, .ref q52, .ref q54]) (rest := [.ref q47, .ref this]) hC hR hS (c_X9_init l G n q47 q50 q52 q54 S48 S56 hc57 ok_q47 ok_q50 ok_q52 ok_q54) rfl ⟨Nat.le_of_ble_eq_true rfl, Nat.le_of_ble_eq_true rfl⟩ hl.1 rfl (Nat.le_of_ble_eq_true rfl) dX10_init_84 (Nat.le_of_ble_eq_true rfl) (Nat.le_of_ble_eq_true rfl) (fun H locs hR hS hE58 => ?_)
  have ok_this := hE58 _ _ ok_this
  have ok_q1 := hE58 _ _ ok_q1
  have ok_q9 := hE58 _ _ ok_q9
  have ok_q17 := hE58 _ _ ok_q17
  have ok_q25 := hE58 _ _ ok_q25
  have ok_q33 := hE58 _ _ ok_q33
  have ok_q39 := hE58 _ _ ok_q39
  have ok_q47 := hE58 _ _ ok_q47
  have ok_q50 := hE58 _ _ ok_q50
  have ok_q52 := hE58 _ _ ok_q52
  have ok_q54 := hE58 _ _ ok_q54
  have hE := hE.tr hE58
  refine pf_RX10_51 hC hR hS ok_this hname dX10_init_87 hf (fun S59 H locs hf hR hS hE60 => ?_)
  have ok_this := hE60 _ _ ok_this
  have ok_q1 := hE60 _ _ ok_q1
  have ok_q9 := hE60 _ _ ok_q9
  have ok_q17 := hE60 _ _ ok_q17
  have ok_q25 := hE60 _ _ ok_q25
  have ok_q33 := hE60 _ _ ok_q33
  have ok_q39 := hE60 _ _ ok_q39
  have ok_q47 := hE60 _ _ ok_q47
  have ok_q50 := hE60 _ _ ok_q50
  have ok_q52 := hE60 _ _ ok_q52
  have ok_q54 := hE60 _ _ ok_q54
  have hE := hE.tr hE60
  refine lv_aload_n hx hb dX10_init_90 rfl (lv_at hl 0 rfl) ?_
  obtain ⟨q61, eq61, hf⟩ := jn_of hf
  refine r_new (ci := 1) rfl (by decide) inlX1 rfl (by decide +kernel) (by decide +kernel) (bg2 _ (List.mem_of_getElem? (i := 15) rfl)) (bg2 _ (List.mem_of_getElem? (i := 16) rfl)) (bg2 _ (List.mem_of_getElem? (i := 17) rfl)) hC hR hS (Nat.le_of_ble_eq_true rfl) (Nat.le_of_ble_eq_true rfl) dX10_init_91 eq61 hf (fun S62 H hf hR hS hE63 ok_q61 => ?_)
  have ok_this := hE63 _ _ ok_this
  have ok_q1 := hE63 _ _ ok_q1
  have ok_q9 := hE63 _ _ ok_q9
  have ok_q17 := hE63 _ _ ok_q17
  have ok_q25 := hE63 _ _ ok_q25
  have ok_q33 := hE63 _ _ ok_q33
  have ok_q39 := hE63 _ _ ok_q39
  have ok_q47 := hE63 _ _ ok_q47
  have ok_q50 := hE63 _ _ ok_q50
  have ok_q52 := hE63 _ _ ok_q52
  have ok_q54 := hE63 _ _ ok_q54
  have hE := hE.tr hE63
  refine lv_dup hx hb dX10_init_94 rfl ?_
  refine lv_iconst (v := 3) hx hb dX10_init_95 (by decide) ?_
  refine lv_bipush (v := 8) hx hb dX10_init_96 (by decide) ?_
  refine lv_iload_n hx hb dX10_init_98 rfl (lv_at hl 1 rfl) ?_
  refine r_imin (v := (imin (8 : Int32) a1)) hC hl.1 (bg2 _ (List.mem_of_getElem? (i := 18) rfl)) rfl (Nat.le_of_ble_eq_true rfl) (Nat.le_of_ble_eq_true rfl) (Nat.le_of_ble_eq_true rfl) (Nat.le_of_ble_eq_true rfl) dX10_init_99 ?_
  refine r_imax (v := (imax (3 : Int32) (imin (8 : Int32) a1))) hC hl.1 (bg2 _ (List.mem_of_getElem? (i := 22) rfl)) rfl (Nat.le_of_ble_eq_true rfl) (Nat.le_of_ble_eq_true rfl) (Nat.le_of_ble_eq_true rfl) (Nat.le_of_ble_eq_true rfl) dX10_init_102 ?_
  refine lv_iconst (v := 3) hx hb dX10_init_105 (by decide) ?_
  refine lv_bipush (v := 6) hx hb dX10_init_106 (by decide) ?_
  refine lv_iload_n hx hb dX10_init_108 rfl (lv_at hl 2 rfl) ?_
  refine r_imin (v := (imin (6 : Int32) a2)) hC hl.1 (bg2 _ (List.mem_of_getElem? (i := 18) rfl)) rfl (Nat.le_of_ble_eq_true rfl) (Nat.le_of_ble_eq_true rfl) (Nat.le_of_ble_eq_true rfl) (Nat.le_of_ble_eq_true rfl) dX10_init_109 ?_
  refine r_imax (v := (imax (3 : Int32) (imin (6 : Int32) a2))) hC hl.1 (bg2 _ (List.mem_of_getElem? (i := 22) rfl)) rfl (Nat.le_of_ble_eq_true rfl) (Nat.le_of_ble_eq_true rfl) (Nat.le_of_ble_eq_true rfl) (Nat.le_of_ble_eq_true rfl) dX10_init_112 ?_
  obtain ⟨S64, hc65, hf⟩ := cv_of hf
  refine cl_RX10_66 (As := [.int (imax (3 : Int32) (imin (8 : Int32) a1)), .int (imax (3 : Int32) (imin (6 : Int32) a2))]) (rest := [.ref q61, .ref this]) hC hR hS (c_X1_init l G n q61 (imax (3 : Int32) (imin (8 : Int32) a1)) (imax (3 : Int32) (imin (6 : Int32) a2)) S62 S64 hc65 ok_q61) rfl ⟨Nat.le_of_ble_eq_true rfl, Nat.le_of_ble_eq_true rfl⟩ hl.1 rfl (Nat.le_of_ble_eq_true rfl) dX10_init_115 (Nat.le_of_ble_eq_true rfl) (Nat.le_of_ble_eq_true rfl) (fun H locs hR hS hE66 => ?_)
  have ok_this := hE66 _ _ ok_this
  have ok_q1 := hE66 _ _ ok_q1
  have ok_q9 := hE66 _ _ ok_q9
  have ok_q17 := hE66 _ _ ok_q17
  have ok_q25 := hE66 _ _ ok_q25
  have ok_q33 := hE66 _ _ ok_q33
  have ok_q39 := hE66 _ _ ok_q39
  have ok_q47 := hE66 _ _ ok_q47
  have ok_q50 := hE66 _ _ ok_q50
  have ok_q52 := hE66 _ _ ok_q52
  have ok_q54 := hE66 _ _ ok_q54
  have ok_q61 := hE66 _ _ ok_q61
  have hE := hE.tr hE66
  refine pf_RX10_69 hC hR hS ok_this hname dX10_init_118 hf (fun S67 H locs hf hR hS hE68 => ?_)
  have ok_this := hE68 _ _ ok_this
  have ok_q1 := hE68 _ _ ok_q1
  have ok_q9 := hE68 _ _ ok_q9
  have ok_q17 := hE68 _ _ ok_q17
  have ok_q25 := hE68 _ _ ok_q25
  have ok_q33 := hE68 _ _ ok_q33
  have ok_q39 := hE68 _ _ ok_q39
  have ok_q47 := hE68 _ _ ok_q47
  have ok_q50 := hE68 _ _ ok_q50
  have ok_q52 := hE68 _ _ ok_q52
  have ok_q54 := hE68 _ _ ok_q54
  have ok_q61 := hE68 _ _ ok_q61
  have hE := hE.tr hE68
  refine lv_aload_n hx hb dX10_init_121 rfl (lv_at hl 0 rfl) ?_
  obtain ⟨q69, eq69, hf⟩ := jn_of hf
  refine r_new (ci := 3) rfl (by decide) inlX3 rfl (by decide +kernel) (by decide +kernel) (bg3 _ (List.mem_of_getElem? (i := 2) rfl)) (bg3 _ (List.mem_of_getElem? (i := 3) rfl)) (bg3 _ (List.mem_of_getElem? (i := 4) rfl)) hC hR hS (Nat.le_of_ble_eq_true rfl) (Nat.le_of_ble_eq_true rfl) dX10_init_122 eq69 hf (fun S70 H hf hR hS hE71 ok_q69 => ?_)
  have ok_this := hE71 _ _ ok_this
  have ok_q1 := hE71 _ _ ok_q1
  have ok_q9 := hE71 _ _ ok_q9
  have ok_q17 := hE71 _ _ ok_q17
  have ok_q25 := hE71 _ _ ok_q25
  have ok_q33 := hE71 _ _ ok_q33
  have ok_q39 := hE71 _ _ ok_q39
  have ok_q47 := hE71 _ _ ok_q47
  have ok_q50 := hE71 _ _ ok_q50
  have ok_q52 := hE71 _ _ ok_q52
  have ok_q54 := hE71 _ _ ok_q54
  have ok_q61 := hE71 _ _ ok_q61
  have hE := hE.tr hE71
  refine lv_dup hx hb dX10_init_125 rfl ?_
  refine lv_aload_n hx hb dX10_init_126 rfl (lv_at hl 0 rfl) ?_
  obtain ⟨q72, hq73, ok_q72, hf⟩ := gR_of hf
  refine gf_RX10_69 hC hR ok_this hq73 dX10_init_127 ?_
  obtain ⟨S74, hc75, hf⟩ := cv_of hf
  refine cl_RX10_75 (As := [.ref q72]) (rest := [.ref q69, .ref this]) hC hR hS (c_X3_init l G n q69 q72 S70 S74 hc75 ok_q69 ok_q72) rfl ⟨Nat.le_of_ble_eq_true rfl, Nat.le_of_ble_eq_true rfl⟩ hl.1 rfl (Nat.le_of_ble_eq_true rfl) dX10_init_130 (Nat.le_of_ble_eq_true rfl) (Nat.le_of_ble_eq_true rfl) (fun H locs hR hS hE76 => ?_)
  have ok_this := hE76 _ _ ok_this
  have ok_q1 := hE76 _ _ ok_q1
  have ok_q9 := hE76 _ _ ok_q9
  have ok_q17 := hE76 _ _ ok_q17
  have ok_q25 := hE76 _ _ ok_q25
  have ok_q33 := hE76 _ _ ok_q33
  have ok_q39 := hE76 _ _ ok_q39
  have ok_q47 := hE76 _ _ ok_q47
  have ok_q50 := hE76 _ _ ok_q50
  have ok_q52 := hE76 _ _ ok_q52
  have ok_q54 := hE76 _ _ ok_q54
  have ok_q61 := hE76 _ _ ok_q61
  have ok_q69 := hE76 _ _ ok_q69
  have ok_q72 := hE76 _ _ ok_q72
  have hE := hE.tr hE76
  refine pf_RX10_78 hC hR hS ok_this hname dX10_init_133 hf (fun S77 H locs hf hR hS hE78 => ?_)
  have ok_this := hE78 _ _ ok_this
  have ok_q1 := hE78 _ _ ok_q1
  have ok_q9 := hE78 _ _ ok_q9
  have ok_q17 := hE78 _ _ ok_q17
  have ok_q25 := hE78 _ _ ok_q25
  have ok_q33 := hE78 _ _ ok_q33
  have ok_q39 := hE78 _ _ ok_q39
  have ok_q47 := hE78 _ _ ok_q47
  have ok_q50 := hE78 _ _ ok_q50
  have ok_q52 := hE78 _ _ ok_q52
  have ok_q54 := hE78 _ _ ok_q54
  have ok_q61 := hE78 _ _ ok_q61
  have ok_q69 := hE78 _ _ ok_q69
  have ok_q72 := hE78 _ _ ok_q72
  have hE := hE.tr hE78
  refine lv_aload_n hx hb dX10_init_136 rfl (lv_at hl 0 rfl) ?_
  obtain ⟨q79, eq79, hf⟩ := jn_of hf
  refine r_new (ci := 3) rfl (by decide) inlX3 rfl (by decide +kernel) (by decide +kernel) (bg3 _ (List.mem_of_getElem? (i := 2) rfl)) (bg3 _ (List.mem_of_getElem? (i := 3) rfl)) (bg3 _ (List.mem_of_getElem? (i := 4) rfl)) hC hR hS (Nat.le_of_ble_eq_true rfl) (Nat.le_of_ble_eq_true rfl) dX10_init_137 eq79 hf (fun S80 H hf hR hS hE81 ok_q79 => ?_)
  have ok_this := hE81 _ _ ok_this
  have ok_q1 := hE81 _ _ ok_q1
  have ok_q9 := hE81 _ _ ok_q9
  have ok_q17 := hE81 _ _ ok_q17
  have ok_q25 := hE81 _ _ ok_q25
  have ok_q33 := hE81 _ _ ok_q33
  have ok_q39 := hE81 _ _ ok_q39
  have ok_q47 := hE81 _ _ ok_q47
  have ok_q50 := hE81 _ _ ok_q50
  have ok_q52 := hE81 _ _ ok_q52
  have ok_q54 := hE81 _ _ ok_q54
  have ok_q61 := hE81 _ _ ok_q61
  have ok_q69 := hE81 _ _ ok_q69
  have ok_q72 := hE81 _ _ ok_q72
  have hE := hE.tr hE81
  refine lv_dup hx hb dX10_init_140 rfl ?_
  refine lv_aload_n hx hb dX10_init_141 rfl (lv_at hl 0 rfl) ?_
  obtain ⟨q82, hq83, ok_q82, hf⟩ := gR_of hf
  refine gf_RX10_69 hC hR ok_this hq83 dX10_init_142 ?_
  obtain ⟨S84, hc85, hf⟩ := cv_of hf
  refine cl_RX10_75 (As := [.ref q82]) (rest := [.ref q79, .ref this]) hC hR hS (c_X3_init l G n q79 q82 S80 S84 hc85 ok_q79 ok_q82) rfl ⟨Nat.le_of_ble_eq_true rfl, Nat.le_of_ble_eq_true rfl⟩ hl.1 rfl (Nat.le_of_ble_eq_true rfl) dX10_init_145 (Nat.le_of_ble_eq_true rfl) (Nat.le_of_ble_eq_true rfl) (fun H locs hR hS hE86 => ?_)
  have ok_this := hE86 _ _ ok_this
  have ok_q1 := hE86 _ _ ok_q1
  have ok_q9 := hE86 _ _ ok_q9
  have ok_q17 := hE86 _ _ ok_q17
  have ok_q25 := hE86 _ _ ok_q25
  have ok_q33 := hE86 _ _ ok_q33
  have ok_q39 := hE86 _ _ ok_q39
  have ok_q47 := hE86 _ _ ok_q47
  have ok_q50 := hE86 _ _ ok_q50
  have ok_q52 := hE86 _ _ ok_q52
  have ok_q54 := hE86 _ _ ok_q54
  have ok_q61 := hE86 _ _ ok_q61
  have ok_q69 := hE86 _ _ ok_q69
  have ok_q72 := hE86 _ _ ok_q72
  have ok_q79 := hE86 _ _ ok_q79
  have ok_q82 := hE86 _ _ ok_q82
  have hE := hE.tr hE86
  refine pf_RX10_82 hC hR hS ok_this hname dX10_init_148 hf (fun S87 H locs hf hR hS hE88 => ?_)
  have ok_this := hE88 _ _ ok_this
  have ok_q1 := hE88 _ _ ok_q1
  have ok_q9 := hE88 _ _ ok_q9
  have ok_q17 := hE88 _ _ ok_q17
  have ok_q25 := hE88 _ _ ok_q25
  have ok_q33 := hE88 _ _ ok_q33
  have ok_q39 := hE88 _ _ ok_q39
  have ok_q47 := hE88 _ _ ok_q47
  have ok_q50 := hE88 _ _ ok_q50
  have ok_q52 := hE88 _ _ ok_q52
  have ok_q54 := hE88 _ _ ok_q54
  have ok_q61 := hE88 _ _ ok_q61
  have ok_q69 := hE88 _ _ ok_q69
  have ok_q72 := hE88 _ _ ok_q72
  have ok_q79 := hE88 _ _ ok_q79
  have ok_q82 := hE88 _ _ ok_q82
  have hE := hE.tr hE88
  refine lv_aload_n hx hb dX10_init_151 rfl (lv_at hl 0 rfl) ?_
  obtain ⟨q89, eq89, hf⟩ := jn_of hf
  refine r_new (ci := 2) rfl (by decide) inlX2 rfl (by decide +kernel) (by decide +kernel) (bg3 _ (List.mem_of_getElem? (i := 7) rfl)) (bg3 _ (List.mem_of_getElem? (i := 8) rfl)) (bg3 _ (List.mem_of_getElem? (i := 9) rfl)) hC hR hS (Nat.le_of_ble_eq_true rfl) (Nat.le_of_ble_eq_true rfl) dX10_init_152 eq89 hf (fun S90 H hf hR hS hE91 ok_q89 => ?_)
  have ok_this := hE91 _ _ ok_this
  have ok_q1 := hE91 _ _ ok_q1
  have ok_q9 := hE91 _ _ ok_q9
  have ok_q17 := hE91 _ _ ok_q17
  have ok_q25 := hE91 _ _ ok_q25
  have ok_q33 := hE91 _ _ ok_q33
  have ok_q39 := hE91 _ _ ok_q39
  have ok_q47 := hE91 _ _ ok_q47
  have ok_q50 := hE91 _ _ ok_q50
  have ok_q52 := hE91 _ _ ok_q52
  have ok_q54 := hE91 _ _ ok_q54
  have ok_q61 := hE91 _ _ ok_q61
  have ok_q69 := hE91 _ _ ok_q69
  have ok_q72 := hE91 _ _ ok_q72
  have ok_q79 := hE91 _ _ ok_q79
  have ok_q82 := hE91 _ _ ok_q82
  have hE := hE.tr hE91
  refine lv_dup hx hb dX10_init_155 rfl ?_
  refine lv_aload_n hx hb dX10_init_156 rfl (lv_at hl 0 rfl) ?_
  obtain ⟨q92, hq93, ok_q92, hf⟩ := gR_of hf
  refine gf_RX10_78 hC hR ok_this hq93 dX10_init_157 ?_
  refine lv_aload_n hx hb dX10_init_160 rfl (lv_at hl 0 rfl) ?_
  obtain ⟨q94, hq95, ok_q94, hf⟩ := gR_of hf
  refine gf_RX10_10 hC hR ok_this hq95 dX10_init_161 ?_
  refine lv_aload_n hx hb dX10_init_164 rfl (lv_at hl 0 rfl) ?_
  obtain ⟨q96, hq97, ok_q96, hf⟩ := gR_of hf
  refine gf_RX10_51 hC hR ok_this hq97 dX10_init_165 ?_
  obtain ⟨S98, hc99, hf⟩ := cv_of hf
  refine cl_RX10_87 (As := [.ref q92, .ref q94, .ref q96]) (rest := [.ref q89, .ref this]) hC hR hS (c_X2_init l G n q89 q92 q94 q96 S90 S98 hc99 ok_q89 ok_q92 ok_q94 ok_q96) rfl ⟨Nat.le_of_ble_eq_true rfl, Nat.le_of_ble_eq_true rfl⟩ hl.1 rfl (Nat.le_of_ble_eq_true rfl) dX10_init_168 (Nat.le_of_ble_eq_true rfl) (Nat.le_of_ble_eq_true rfl) (fun H locs hR hS hE100 => ?_)
  have ok_this := hE100 _ _ ok_this
  have ok_q1 := hE100 _ _ ok_q1
  have ok_q9 := hE100 _ _ ok_q9
  have ok_q17 := hE100 _ _ ok_q17
  have ok_q25 := hE100 _ _ ok_q25
  have ok_q33 := hE100 _ _ ok_q33
  have ok_q39 := hE100 _ _ ok_q39
  have ok_q47 := hE100 _ _ ok_q47
  have ok_q50 := hE100 _ _ ok_q50
  have ok_q52 := hE100 _ _ ok_q52
  have ok_q54 := hE100 _ _ ok_q54
  have ok_q61 := hE100 _ _ ok_q61
  have ok_q69 := hE100 _ _ ok_q69
  have ok_q72 := hE100 _ _ ok_q72
  have ok_q79 := hE100 _ _ ok_q79
  have ok_q82 := hE100 _ _ ok_q82
  have ok_q89 := hE100 _ _ ok_q89
  have ok_q92 := hE100 _ _ ok_q92
  have ok_q94 := hE100 _ _ ok_q94
  have ok_q96 := hE100 _ _ ok_q96
  have hE := hE.tr hE100
  refine pf_RX10_90 hC hR hS ok_this hname dX10_init_171 hf (fun S101 H locs hf hR hS hE102 => ?_)
  have ok_this := hE102 _ _ ok_this
  have ok_q1 := hE102 _ _ ok_q1
  have ok_q9 := hE102 _ _ ok_q9
  have ok_q17 := hE102 _ _ ok_q17
  have ok_q25 := hE102 _ _ ok_q25
  have ok_q33 := hE102 _ _ ok_q33
  have ok_q39 := hE102 _ _ ok_q39
  have ok_q47 := hE102 _ _ ok_q47
  have ok_q50 := hE102 _ _ ok_q50
  have ok_q52 := hE102 _ _ ok_q52
  have ok_q54 := hE102 _ _ ok_q54
  have ok_q61 := hE102 _ _ ok_q61
  have ok_q69 := hE102 _ _ ok_q69
  have ok_q72 := hE102 _ _ ok_q72
  have ok_q79 := hE102 _ _ ok_q79
  have ok_q82 := hE102 _ _ ok_q82
  have ok_q89 := hE102 _ _ ok_q89
  have ok_q92 := hE102 _ _ ok_q92
  have ok_q94 := hE102 _ _ ok_q94
  have ok_q96 := hE102 _ _ ok_q96
  have hE := hE.tr hE102
  refine W.widen (k := 82) (n := 2780) (Nat.le_of_ble_eq_true rfl) (Nat.le_of_ble_eq_true rfl) ?_
  exact r_vret hC hR hS hE hf dX10_init_174
abbrev rX10_bone : Room := { frames := 3, cells := 0, slots := 0, locals := 65 }
def f_X10_bone (n : Nat) (this : Nat) (a1 : Int32) (a2 : Int32) (S : MS) : Option (Int32 × MS) :=
  gR S (mR S this 1) 3 fun q1 => cl (f_X3_addBone n q1 a1 a2 S) fun x6 S3 => some (x6, S3)
set_option maxRecDepth 100000 in
set_option maxHeartbeats 4000000 in
theorem c_X10_bone (l : Launch) (G : Gx) (n : Nat) (this : Nat) (a1 : Int32) (a2 : Int32) (S : MS) (ro : Int32) (So : MS) (hf : f_X10_bone n this a1 a2 S = some (ro, So)) (ok_this : Ok S this 10) : Cn G l yX10_bone cX10_bone 3 (some .int) rX10_bone [.ref this, .int a1, .int a2] S (some (.int ro)) So := by
  refine Cn.of (by decide) (Nat.le_of_ble_eq_true rfl) ?_
  intro p e s m args below meth c hC hname hR ls hl
  have hC : Cx G RX10 cX10_bone 3 (some .int) p s m args meth c := hC
  have hl : lv_has ls 3 [(0, .ref this), (1, .int a1), (2, .int a2)] := hl
  have hx := hC.x
  have hb := hC.b
  have hS : va_S (gA G) s.heap s.heap [] := va_S.rf
  have hE : Ex S S := Ex.rf S
  unfold f_X10_bone at hf
  refine lv_aload_n hx hb dX10_bone_0 rfl (lv_at hl 0 rfl) ?_
  obtain ⟨q1, hq2, ok_q1, hf⟩ := gR_of hf
  refine gf_RX10_78 hC hR ok_this hq2 dX10_bone_1 ?_
  refine lv_iload_n hx hb dX10_bone_4 rfl (lv_at hl 1 rfl) ?_
  refine lv_iload_n hx hb dX10_bone_5 rfl (lv_at hl 2 rfl) ?_
  obtain ⟨x6, S3, hc4, hf⟩ := cl_of hf
  refine cl_RX10_94 (As := [.int a1, .int a2]) (rest := []) hC hR hS (c_X3_addBone l G n q1 a1 a2 S x6 S3 hc4 ok_q1) ok_q1 rfl ⟨Nat.le_of_ble_eq_true rfl, Nat.le_of_ble_eq_true rfl⟩ hl.1 rfl (Nat.le_of_ble_eq_true rfl) dX10_bone_6 (Nat.zero_le _) (Nat.zero_le _) (fun H locs hR hS hE5 => ?_)
  have ok_this := hE5 _ _ ok_this
  have ok_q1 := hE5 _ _ ok_q1
  have hE := hE.tr hE5
  exact r_iret hC hR hS hE hf dX10_bone_9
abbrev rX10_stake : Room := { frames := 2, cells := 0, slots := 0, locals := 44 }
def f_X10_stake (n : Nat) (this : Nat) (a1 : Int32) (a2 : Int32) (S : MS) : Option (Int32 × MS) :=
  gR S (mR S this 1) 3 fun q1 => cl (f_X3_setStake n q1 a1 a2 S) fun x6 S3 => zb x6 (some (x6, S3))
set_option maxRecDepth 100000 in
set_option maxHeartbeats 4000000 in
theorem c_X10_stake (l : Launch) (G : Gx) (n : Nat) (this : Nat) (a1 : Int32) (a2 : Int32) (S : MS) (ro : Int32) (So : MS) (hf : f_X10_stake n this a1 a2 S = some (ro, So)) (ok_this : Ok S this 10) : Cn G l yX10_stake cX10_stake 3 (some .boolean) rX10_stake [.ref this, .int a1, .int a2] S (some (.int ro)) So := by
  refine Cn.of (by decide) (Nat.le_of_ble_eq_true rfl) ?_
  intro p e s m args below meth c hC hname hR ls hl
  have hC : Cx G RX10 cX10_stake 3 (some .boolean) p s m args meth c := hC
  have hl : lv_has ls 3 [(0, .ref this), (1, .int a1), (2, .int a2)] := hl
  have hx := hC.x
  have hb := hC.b
  have hS : va_S (gA G) s.heap s.heap [] := va_S.rf
  have hE : Ex S S := Ex.rf S
  unfold f_X10_stake at hf
  refine lv_aload_n hx hb dX10_stake_0 rfl (lv_at hl 0 rfl) ?_
  obtain ⟨q1, hq2, ok_q1, hf⟩ := gR_of hf
  refine gf_RX10_78 hC hR ok_this hq2 dX10_stake_1 ?_
  refine lv_iload_n hx hb dX10_stake_4 rfl (lv_at hl 1 rfl) ?_
  refine lv_iload_n hx hb dX10_stake_5 rfl (lv_at hl 2 rfl) ?_
  obtain ⟨x6, S3, hc4, hf⟩ := cl_of hf
  refine cl_RX10_97 (As := [.int a1, .int a2]) (rest := []) hC hR hS (c_X3_setStake l G n q1 a1 a2 S x6 S3 hc4 ok_q1) ok_q1 rfl ⟨Nat.le_of_ble_eq_true rfl, Nat.le_of_ble_eq_true rfl⟩ hl.1 rfl (Nat.le_of_ble_eq_true rfl) dX10_stake_6 (Nat.zero_le _) (Nat.zero_le _) (fun H locs hR hS hE5 => ?_)
  have ok_this := hE5 _ _ ok_this
  have ok_q1 := hE5 _ _ ok_q1
  have hE := hE.tr hE5
  exact r_zret hC hR hS hE hf dX10_stake_9
abbrev rX10_well : Room := { frames := 1, cells := 0, slots := 0, locals := 21 }
def f_X10_well (n : Nat) (this : Nat) (a1 : Int32) (a2 : Int32) (S : MS) : Option (Int32 × MS) :=
  gR S (mR S this 0) 1 fun q1 => cl (f_X1_holds n q1 a1 S) fun x6 S3 => (if x6 = 0 then zb (0 : Int32) (some ((0 : Int32), S3)) else bd (lsh (1 : Int64) a1) fun x7 => gR S3 (mR S3 this 1) 3 fun q8 => (if a2 = 0 then gR S3 (mR S3 this 1) 3 fun q10 => bd (sJ S3 q8 9 ((mJ S3 q10 9) &&& (x7 ^^^ (-1 : Int64)))) fun S12 => zb (1 : Int32) (some ((1 : Int32), S12)) else gR S3 (mR S3 this 1) 3 fun q14 => bd (sJ S3 q8 9 ((mJ S3 q14 9) ||| x7)) fun S16 => zb (1 : Int32) (some ((1 : Int32), S16))))
set_option maxRecDepth 100000 in
set_option maxHeartbeats 4000000 in
theorem c_X10_well (l : Launch) (G : Gx) (n : Nat) (this : Nat) (a1 : Int32) (a2 : Int32) (S : MS) (ro : Int32) (So : MS) (hf : f_X10_well n this a1 a2 S = some (ro, So)) (ok_this : Ok S this 10) : Cn G l yX10_well cX10_well 5 (some .boolean) rX10_well [.ref this, .int a1, .int a2] S (some (.int ro)) So := by
  refine Cn.of (by decide) (Nat.le_of_ble_eq_true rfl) ?_
  intro p e s m args below meth c hC hname hR ls hl
  have hC : Cx G RX10 cX10_well 5 (some .boolean) p s m args meth c := hC
  have hl : lv_has ls 5 [(0, .ref this), (1, .int a1), (2, .int a2)] := hl
  have hx := hC.x
  have hb := hC.b
  have hS : va_S (gA G) s.heap s.heap [] := va_S.rf
  have hE : Ex S S := Ex.rf S
  unfold f_X10_well at hf
  refine lv_aload_n hx hb dX10_well_0 rfl (lv_at hl 0 rfl) ?_
  obtain ⟨q1, hq2, ok_q1, hf⟩ := gR_of hf
  refine gf_RX10_69 hC hR ok_this hq2 dX10_well_1 ?_
  refine lv_iload_n hx hb dX10_well_4 rfl (lv_at hl 1 rfl) ?_
  obtain ⟨x6, S3, hc4, hf⟩ := cl_of hf
  refine cl_RX10_101 (As := [.int a1]) (rest := []) hC hR hS (c_X1_holds l G n q1 a1 S x6 S3 hc4 ok_q1) ok_q1 rfl ⟨Nat.le_of_ble_eq_true rfl, Nat.le_of_ble_eq_true rfl⟩ hl.1 rfl (Nat.le_of_ble_eq_true rfl) dX10_well_5 (Nat.zero_le _) (Nat.zero_le _) (fun H locs hR hS hE5 => ?_)
  have ok_this := hE5 _ _ ok_this
  have ok_q1 := hE5 _ _ ok_q1
  have hE := hE.tr hE5
  refine lv_if_ne (tgt := 13) hx hb dX10_well_8 (by decide) (fun hc => ?_) (fun hc => ?_)
  · replace hf := if_f hf hc
    refine lv_lconst (v := 1) hx hb dX10_well_13 (by decide) ?_
    refine lv_iload_n hx hb dX10_well_14 rfl (lv_at hl 1 rfl) ?_
    refine lv_lshl (v := (lsh (1 : Int64) a1)) hx hb dX10_well_15 rfl ?_
    refine bdl hf (fun x7 hf => ?_)
    refine lv_lstore_n (lv' := [(3, .long x7), (0, .ref this), (1, .int a1), (2, .int a2)]) hx hb dX10_well_16 rfl hl (by decide) rfl (fun ls hl => ?_)
    refine lv_aload_n hx hb dX10_well_17 rfl (lv_at hl 1 rfl) ?_
    obtain ⟨q8, hq9, ok_q8, hf⟩ := gR_of hf
    refine gf_RX10_78 hC hR ok_this hq9 dX10_well_18 ?_
    refine lv_iload_n hx hb dX10_well_21 rfl (lv_at hl 3 rfl) ?_
    refine lv_if_eq (tgt := 37) hx hb dX10_well_22 (by decide) (fun hc => ?_) (fun hc => ?_)
    · replace hf := if_t hf hc
      refine lv_aload_n hx hb dX10_well_37 rfl (lv_at hl 1 rfl) ?_
      obtain ⟨q10, hq11, ok_q10, hf⟩ := gR_of hf
      refine gf_RX10_78 hC hR ok_this hq11 dX10_well_38 ?_
      refine gf_RX10_105 hC hR ok_q10 dX10_well_41 ?_
      refine lv_lload_n hx hb dX10_well_44 rfl (lv_at hl 0 rfl) ?_
      refine lv_ldc2 (v := -1) hx hb hC.ow (hC.ts _ (bg10 _ (List.mem_of_getElem? (i := 23) rfl))) dX10_well_45 ?_
      refine lv_lxor hx hb dX10_well_48 ?_
      refine lv_land hx hb dX10_well_49 ?_
      refine pf_RX10_105 hC hR hS ok_q8 dX10_well_50 hf (fun S12 H locs hf hR hS hE13 => ?_)
      have ok_this := hE13 _ _ ok_this
      have ok_q1 := hE13 _ _ ok_q1
      have ok_q8 := hE13 _ _ ok_q8
      have ok_q10 := hE13 _ _ ok_q10
      have hE := hE.tr hE13
      refine lv_iconst (v := 1) hx hb dX10_well_53 (by decide) ?_
      exact r_zret hC hR hS hE hf dX10_well_54
    · replace hf := if_f hf hc
      refine lv_aload_n hx hb dX10_well_25 rfl (lv_at hl 1 rfl) ?_
      obtain ⟨q14, hq15, ok_q14, hf⟩ := gR_of hf
      refine gf_RX10_78 hC hR ok_this hq15 dX10_well_26 ?_
      refine gf_RX10_105 hC hR ok_q14 dX10_well_29 ?_
      refine lv_lload_n hx hb dX10_well_32 rfl (lv_at hl 0 rfl) ?_
      refine lv_lor hx hb dX10_well_33 ?_
      refine lv_goto (tgt := 50) hx hb dX10_well_34 (by decide) ?_
      refine pf_RX10_105 hC hR hS ok_q8 dX10_well_50 hf (fun S16 H locs hf hR hS hE17 => ?_)
      have ok_this := hE17 _ _ ok_this
      have ok_q1 := hE17 _ _ ok_q1
      have ok_q8 := hE17 _ _ ok_q8
      have ok_q14 := hE17 _ _ ok_q14
      have hE := hE.tr hE17
      refine lv_iconst (v := 1) hx hb dX10_well_53 (by decide) ?_
      exact r_zret hC hR hS hE hf dX10_well_54
  · replace hf := if_t hf hc
    refine lv_iconst (v := 0) hx hb dX10_well_11 (by decide) ?_
    exact r_zret hC hR hS hE hf dX10_well_12
abbrev rX10_wind : Room := { frames := 1, cells := 0, slots := 0, locals := 25 }
def f_X10_wind (n : Nat) (this : Nat) (a1 : Int32) (a2 : Int32) (a3 : Int32) (a4 : Int32) (S : MS) : Option (Int32 × MS) :=
  gR S (mR S this 3) 8 fun q1 => cl (f_X8_addWind n q1 a1 a2 a3 a4 S) fun x6 S3 => some (x6, S3)
set_option maxRecDepth 100000 in
set_option maxHeartbeats 4000000 in
theorem c_X10_wind (l : Launch) (G : Gx) (n : Nat) (this : Nat) (a1 : Int32) (a2 : Int32) (a3 : Int32) (a4 : Int32) (S : MS) (ro : Int32) (So : MS) (hf : f_X10_wind n this a1 a2 a3 a4 S = some (ro, So)) (ok_this : Ok S this 10) : Cn G l yX10_wind cX10_wind 5 (some .int) rX10_wind [.ref this, .int a1, .int a2, .int a3, .int a4] S (some (.int ro)) So := by
  refine Cn.of (by decide) (Nat.le_of_ble_eq_true rfl) ?_
  intro p e s m args below meth c hC hname hR ls hl
  have hC : Cx G RX10 cX10_wind 5 (some .int) p s m args meth c := hC
  have hl : lv_has ls 5 [(0, .ref this), (1, .int a1), (2, .int a2), (3, .int a3), (4, .int a4)] := hl
  have hx := hC.x
  have hb := hC.b
  have hS : va_S (gA G) s.heap s.heap [] := va_S.rf
  have hE : Ex S S := Ex.rf S
  unfold f_X10_wind at hf
  refine lv_aload_n hx hb dX10_wind_0 rfl (lv_at hl 0 rfl) ?_
  obtain ⟨q1, hq2, ok_q1, hf⟩ := gR_of hf
  refine gf_RX10_10 hC hR ok_this hq2 dX10_wind_1 ?_
  refine lv_iload_n hx hb dX10_wind_4 rfl (lv_at hl 1 rfl) ?_
  refine lv_iload_n hx hb dX10_wind_5 rfl (lv_at hl 2 rfl) ?_
  refine lv_iload_n hx hb dX10_wind_6 rfl (lv_at hl 3 rfl) ?_
  refine lv_iload hx hb dX10_wind_7 (lv_at hl 4 rfl) ?_
  obtain ⟨x6, S3, hc4, hf⟩ := cl_of hf
  refine cl_RX10_111 (As := [.int a1, .int a2, .int a3, .int a4]) (rest := []) hC hR hS (c_X8_addWind l G n q1 a1 a2 a3 a4 S x6 S3 hc4 ok_q1) ok_q1 rfl ⟨Nat.le_of_ble_eq_true rfl, Nat.le_of_ble_eq_true rfl⟩ hl.1 rfl (Nat.le_of_ble_eq_true rfl) dX10_wind_9 (Nat.zero_le _) (Nat.zero_le _) (fun H locs hR hS hE5 => ?_)
  have ok_this := hE5 _ _ ok_this
  have ok_q1 := hE5 _ _ ok_q1
  have hE := hE.tr hE5
  exact r_iret hC hR hS hE hf dX10_wind_12
abbrev rX10_plan : Room := { frames := 1, cells := 0, slots := 0, locals := 21 }
def f_X10_plan (n : Nat) (this : Nat) (a1 : Int32) (a2 : Int32) (S : MS) : Option (Int32 × MS) :=
  (if a1 < 0 then zb (0 : Int32) (some ((0 : Int32), S)) else (if (40 : Int32) ≤ a1 then zb (0 : Int32) (some ((0 : Int32), S)) else gR S (mR S this 3) 8 fun q1 => cl (f_X8_isWind n q1 a2 S) fun x6 S3 => (if x6 = 0 then zb (0 : Int32) (some ((0 : Int32), S3)) else gR S3 (mR S3 this 3) 8 fun q7 => gR S3 (mR S3 q7 4) 12 fun q9 => ck (inb a1 (mN S3 q9)) (bd (sI S3 q9 a1.toNatClampNeg a2) fun S12 => zb (1 : Int32) (some ((1 : Int32), S12))))))
set_option maxRecDepth 100000 in
set_option maxHeartbeats 4000000 in
theorem c_X10_plan (l : Launch) (G : Gx) (n : Nat) (this : Nat) (a1 : Int32) (a2 : Int32) (S : MS) (ro : Int32) (So : MS) (hf : f_X10_plan n this a1 a2 S = some (ro, So)) (ok_this : Ok S this 10) : Cn G l yX10_plan cX10_plan 3 (some .boolean) rX10_plan [.ref this, .int a1, .int a2] S (some (.int ro)) So := by
  refine Cn.of (by decide) (Nat.le_of_ble_eq_true rfl) ?_
  intro p e s m args below meth c hC hname hR ls hl
  have hC : Cx G RX10 cX10_plan 3 (some .boolean) p s m args meth c := hC
  have hl : lv_has ls 3 [(0, .ref this), (1, .int a1), (2, .int a2)] := hl
  have hx := hC.x
  have hb := hC.b
  have hS : va_S (gA G) s.heap s.heap [] := va_S.rf
  have hE : Ex S S := Ex.rf S
  unfold f_X10_plan at hf
  refine lv_iload_n hx hb dX10_plan_0 rfl (lv_at hl 1 rfl) ?_
  refine lv_if_lt (tgt := 21) hx hb dX10_plan_1 (by decide) (fun hc => ?_) (fun hc => ?_)
  · replace hf := if_t hf hc
    refine lv_iconst (v := 0) hx hb dX10_plan_21 (by decide) ?_
    exact r_zret hC hR hS hE hf dX10_plan_22
  · replace hf := if_f hf hc
    refine lv_iload_n hx hb dX10_plan_4 rfl (lv_at hl 1 rfl) ?_
    refine lv_bipush (v := 40) hx hb dX10_plan_5 (by decide) ?_
    refine lv_icmp_ge (tgt := 21) hx hb dX10_plan_7 (by decide) (fun hc => ?_) (fun hc => ?_)
    · replace hf := if_t hf hc
      refine lv_iconst (v := 0) hx hb dX10_plan_21 (by decide) ?_
      exact r_zret hC hR hS hE hf dX10_plan_22
    · replace hf := if_f hf hc
      refine lv_aload_n hx hb dX10_plan_10 rfl (lv_at hl 0 rfl) ?_
      obtain ⟨q1, hq2, ok_q1, hf⟩ := gR_of hf
      refine gf_RX10_10 hC hR ok_this hq2 dX10_plan_11 ?_
      refine lv_iload_n hx hb dX10_plan_14 rfl (lv_at hl 2 rfl) ?_
      obtain ⟨x6, S3, hc4, hf⟩ := cl_of hf
      refine cl_RX10_115 (As := [.int a2]) (rest := []) hC hR hS (c_X8_isWind l G n q1 a2 S x6 S3 hc4 ok_q1) ok_q1 rfl ⟨Nat.le_of_ble_eq_true rfl, Nat.le_of_ble_eq_true rfl⟩ hl.1 rfl (Nat.le_of_ble_eq_true rfl) dX10_plan_15 (Nat.zero_le _) (Nat.zero_le _) (fun H locs hR hS hE5 => ?_)
      have ok_this := hE5 _ _ ok_this
      have ok_q1 := hE5 _ _ ok_q1
      have hE := hE.tr hE5
      refine lv_if_ne (tgt := 23) hx hb dX10_plan_18 (by decide) (fun hc => ?_) (fun hc => ?_)
      · replace hf := if_f hf hc
        refine lv_aload_n hx hb dX10_plan_23 rfl (lv_at hl 0 rfl) ?_
        obtain ⟨q7, hq8, ok_q7, hf⟩ := gR_of hf
        refine gf_RX10_10 hC hR ok_this hq8 dX10_plan_24 ?_
        obtain ⟨q9, hq10, ok_q9, hf⟩ := gR_of hf
        refine gf_RX10_118 hC hR ok_q7 hq10 dX10_plan_27 ?_
        refine lv_iload_n hx hb dX10_plan_30 rfl (lv_at hl 1 rfl) ?_
        refine lv_iload_n hx hb dX10_plan_31 rfl (lv_at hl 2 rfl) ?_
        obtain ⟨hi11, hf⟩ := ck_of hf
        refine rB_iast hC hR hS ok_q9 hi11 dX10_plan_32 hf (fun S12 H locs hf hR hS hE13 => ?_)
        have ok_this := hE13 _ _ ok_this
        have ok_q1 := hE13 _ _ ok_q1
        have ok_q7 := hE13 _ _ ok_q7
        have ok_q9 := hE13 _ _ ok_q9
        have hE := hE.tr hE13
        refine lv_iconst (v := 1) hx hb dX10_plan_33 (by decide) ?_
        exact r_zret hC hR hS hE hf dX10_plan_34
      · replace hf := if_t hf hc
        refine lv_iconst (v := 0) hx hb dX10_plan_21 (by decide) ?_
        exact r_zret hC hR hS hE hf dX10_plan_22
abbrev rX10_feed : Room := { frames := 1, cells := 0, slots := 0, locals := 22 }
def f_X10_feed (n : Nat) (this : Nat) (a1 : Int32) (a2 : Int32) (a3 : Int32) (a4 : Int32) (a5 : Int32) (S : MS) : Option (Int32 × MS) :=
  gR S (mR S this 5) 6 fun q1 => (if ((mI S q1 1) + (20 : Int32)) ≤ (300 : Int32) then gR S (mR S this 5) 6 fun q3 => cv (f_X6_add n q3 a1 S) fun S5 => gR S5 (mR S5 this 5) 6 fun q8 => cv (f_X6_add n q8 a2 S5) fun S10 => gR S10 (mR S10 this 5) 6 fun q13 => cv (f_X6_add n q13 a3 S10) fun S15 => gR S15 (mR S15 this 5) 6 fun q18 => cv (f_X6_add n q18 a4 S15) fun S20 => gR S20 (mR S20 this 5) 6 fun q23 => cv (f_X6_add n q23 a5 S20) fun S25 => gR S25 (mR S25 this 5) 6 fun q28 => some ((mI S25 q28 1), S25) else some ((-1 : Int32), S))
set_option maxRecDepth 100000 in
set_option maxHeartbeats 4000000 in
theorem c_X10_feed (l : Launch) (G : Gx) (n : Nat) (this : Nat) (a1 : Int32) (a2 : Int32) (a3 : Int32) (a4 : Int32) (a5 : Int32) (S : MS) (ro : Int32) (So : MS) (hf : f_X10_feed n this a1 a2 a3 a4 a5 S = some (ro, So)) (ok_this : Ok S this 10) : Cn G l yX10_feed cX10_feed 6 (some .int) rX10_feed [.ref this, .int a1, .int a2, .int a3, .int a4, .int a5] S (some (.int ro)) So := by
  refine Cn.of (by decide) (Nat.le_of_ble_eq_true rfl) ?_
  intro p e s m args below meth c hC hname hR ls hl
  have hC : Cx G RX10 cX10_feed 6 (some .int) p s m args meth c := hC
  have hl : lv_has ls 6 [(0, .ref this), (1, .int a1), (2, .int a2), (3, .int a3), (4, .int a4), (5, .int a5)] := hl
  have hx := hC.x
  have hb := hC.b
  have hS : va_S (gA G) s.heap s.heap [] := va_S.rf
  have hE : Ex S S := Ex.rf S
  unfold f_X10_feed at hf
  refine lv_aload_n hx hb dX10_feed_0 rfl (lv_at hl 0 rfl) ?_
  obtain ⟨q1, hq2, ok_q1, hf⟩ := gR_of hf
  refine gf_RX10_22 hC hR ok_this hq2 dX10_feed_1 ?_
  refine gf_RX10_122 hC hR ok_q1 dX10_feed_4 ?_
  refine lv_bipush (v := 20) hx hb dX10_feed_7 (by decide) ?_
  refine lv_iadd hx hb dX10_feed_9 ?_
  refine lv_sipush (v := 300) hx hb dX10_feed_10 (by decide) ?_
  refine lv_icmp_le (tgt := 18) hx hb dX10_feed_13 (by decide) (fun hc => ?_) (fun hc => ?_)
  · replace hf := if_t hf hc
    refine lv_aload_n hx hb dX10_feed_18 rfl (lv_at hl 0 rfl) ?_
    obtain ⟨q3, hq4, ok_q3, hf⟩ := gR_of hf
    refine gf_RX10_22 hC hR ok_this hq4 dX10_feed_19 ?_
    refine lv_iload_n hx hb dX10_feed_22 rfl (lv_at hl 1 rfl) ?_
    obtain ⟨S5, hc6, hf⟩ := cv_of hf
    refine cl_RX10_126 (As := [.int a1]) (rest := []) hC hR hS (c_X6_add l G n q3 a1 S S5 hc6 ok_q3) ok_q3 rfl ⟨Nat.le_of_ble_eq_true rfl, Nat.le_of_ble_eq_true rfl⟩ hl.1 rfl (Nat.le_of_ble_eq_true rfl) dX10_feed_23 (Nat.zero_le _) (Nat.zero_le _) (fun H locs hR hS hE7 => ?_)
    have ok_this := hE7 _ _ ok_this
    have ok_q1 := hE7 _ _ ok_q1
    have ok_q3 := hE7 _ _ ok_q3
    have hE := hE.tr hE7
    refine lv_aload_n hx hb dX10_feed_26 rfl (lv_at hl 0 rfl) ?_
    obtain ⟨q8, hq9, ok_q8, hf⟩ := gR_of hf
    refine gf_RX10_22 hC hR ok_this hq9 dX10_feed_27 ?_
    refine lv_iload_n hx hb dX10_feed_30 rfl (lv_at hl 2 rfl) ?_
    obtain ⟨S10, hc11, hf⟩ := cv_of hf
    refine cl_RX10_126 (As := [.int a2]) (rest := []) hC hR hS (c_X6_add l G n q8 a2 S5 S10 hc11 ok_q8) ok_q8 rfl ⟨Nat.le_of_ble_eq_true rfl, Nat.le_of_ble_eq_true rfl⟩ hl.1 rfl (Nat.le_of_ble_eq_true rfl) dX10_feed_31 (Nat.zero_le _) (Nat.zero_le _) (fun H locs hR hS hE12 => ?_)
    have ok_this := hE12 _ _ ok_this
    have ok_q1 := hE12 _ _ ok_q1
    have ok_q3 := hE12 _ _ ok_q3
    have ok_q8 := hE12 _ _ ok_q8
    have hE := hE.tr hE12
    refine lv_aload_n hx hb dX10_feed_34 rfl (lv_at hl 0 rfl) ?_
    obtain ⟨q13, hq14, ok_q13, hf⟩ := gR_of hf
    refine gf_RX10_22 hC hR ok_this hq14 dX10_feed_35 ?_
    refine lv_iload_n hx hb dX10_feed_38 rfl (lv_at hl 3 rfl) ?_
    obtain ⟨S15, hc16, hf⟩ := cv_of hf
    refine cl_RX10_126 (As := [.int a3]) (rest := []) hC hR hS (c_X6_add l G n q13 a3 S10 S15 hc16 ok_q13) ok_q13 rfl ⟨Nat.le_of_ble_eq_true rfl, Nat.le_of_ble_eq_true rfl⟩ hl.1 rfl (Nat.le_of_ble_eq_true rfl) dX10_feed_39 (Nat.zero_le _) (Nat.zero_le _) (fun H locs hR hS hE17 => ?_)
    have ok_this := hE17 _ _ ok_this
    have ok_q1 := hE17 _ _ ok_q1
    have ok_q3 := hE17 _ _ ok_q3
    have ok_q8 := hE17 _ _ ok_q8
    have ok_q13 := hE17 _ _ ok_q13
    have hE := hE.tr hE17
    refine lv_aload_n hx hb dX10_feed_42 rfl (lv_at hl 0 rfl) ?_
    obtain ⟨q18, hq19, ok_q18, hf⟩ := gR_of hf
    refine gf_RX10_22 hC hR ok_this hq19 dX10_feed_43 ?_
    refine lv_iload hx hb dX10_feed_46 (lv_at hl 4 rfl) ?_
    obtain ⟨S20, hc21, hf⟩ := cv_of hf
    refine cl_RX10_126 (As := [.int a4]) (rest := []) hC hR hS (c_X6_add l G n q18 a4 S15 S20 hc21 ok_q18) ok_q18 rfl ⟨Nat.le_of_ble_eq_true rfl, Nat.le_of_ble_eq_true rfl⟩ hl.1 rfl (Nat.le_of_ble_eq_true rfl) dX10_feed_48 (Nat.zero_le _) (Nat.zero_le _) (fun H locs hR hS hE22 => ?_)
    have ok_this := hE22 _ _ ok_this
    have ok_q1 := hE22 _ _ ok_q1
    have ok_q3 := hE22 _ _ ok_q3
    have ok_q8 := hE22 _ _ ok_q8
    have ok_q13 := hE22 _ _ ok_q13
    have ok_q18 := hE22 _ _ ok_q18
    have hE := hE.tr hE22
    refine lv_aload_n hx hb dX10_feed_51 rfl (lv_at hl 0 rfl) ?_
    obtain ⟨q23, hq24, ok_q23, hf⟩ := gR_of hf
    refine gf_RX10_22 hC hR ok_this hq24 dX10_feed_52 ?_
    refine lv_iload hx hb dX10_feed_55 (lv_at hl 5 rfl) ?_
    obtain ⟨S25, hc26, hf⟩ := cv_of hf
    refine cl_RX10_126 (As := [.int a5]) (rest := []) hC hR hS (c_X6_add l G n q23 a5 S20 S25 hc26 ok_q23) ok_q23 rfl ⟨Nat.le_of_ble_eq_true rfl, Nat.le_of_ble_eq_true rfl⟩ hl.1 rfl (Nat.le_of_ble_eq_true rfl) dX10_feed_57 (Nat.zero_le _) (Nat.zero_le _) (fun H locs hR hS hE27 => ?_)
    have ok_this := hE27 _ _ ok_this
    have ok_q1 := hE27 _ _ ok_q1
    have ok_q3 := hE27 _ _ ok_q3
    have ok_q8 := hE27 _ _ ok_q8
    have ok_q13 := hE27 _ _ ok_q13
    have ok_q18 := hE27 _ _ ok_q18
    have ok_q23 := hE27 _ _ ok_q23
    have hE := hE.tr hE27
    refine lv_aload_n hx hb dX10_feed_60 rfl (lv_at hl 0 rfl) ?_
    obtain ⟨q28, hq29, ok_q28, hf⟩ := gR_of hf
    refine gf_RX10_22 hC hR ok_this hq29 dX10_feed_61 ?_
    refine gf_RX10_122 hC hR ok_q28 dX10_feed_64 ?_
    exact r_iret hC hR hS hE hf dX10_feed_67
  · replace hf := if_f hf hc
    refine lv_iconst (v := -1) hx hb dX10_feed_16 (by decide) ?_
    exact r_iret hC hR hS hE hf dX10_feed_17
abbrev rX10_end : Room := { frames := 0, cells := 0, slots := 0, locals := 0 }
def f_X10_end (_n : Nat) (this : Nat) (a1 : Int32) (S : MS) : Option (Int32 × MS) :=
  (if a1 < 0 then some ((-1 : Int32), S) else gR S (mR S this 5) 6 fun q1 => (if a1 ≤ (mI S q1 1) then gR S (mR S this 5) 6 fun q3 => bd (sI S q3 1 a1) fun S5 => some (a1, S5) else some ((-1 : Int32), S)))
set_option maxRecDepth 100000 in
set_option maxHeartbeats 4000000 in
theorem c_X10_end (l : Launch) (G : Gx) (n : Nat) (this : Nat) (a1 : Int32) (S : MS) (ro : Int32) (So : MS) (hf : f_X10_end n this a1 S = some (ro, So)) (ok_this : Ok S this 10) : Cn G l yX10_end cX10_end 2 (some .int) rX10_end [.ref this, .int a1] S (some (.int ro)) So := by
  refine Cn.of (by decide) (Nat.le_of_ble_eq_true rfl) ?_
  intro p e s m args below meth c hC hname hR ls hl
  have hC : Cx G RX10 cX10_end 2 (some .int) p s m args meth c := hC
  have hl : lv_has ls 2 [(0, .ref this), (1, .int a1)] := hl
  have hx := hC.x
  have hb := hC.b
  have hS : va_S (gA G) s.heap s.heap [] := va_S.rf
  have hE : Ex S S := Ex.rf S
  unfold f_X10_end at hf
  refine lv_iload_n hx hb dX10_end_0 rfl (lv_at hl 1 rfl) ?_
  refine lv_if_lt (tgt := 15) hx hb dX10_end_1 (by decide) (fun hc => ?_) (fun hc => ?_)
  · replace hf := if_t hf hc
    refine lv_iconst (v := -1) hx hb dX10_end_15 (by decide) ?_
    exact r_iret hC hR hS hE hf dX10_end_16
  · replace hf := if_f hf hc
    refine lv_iload_n hx hb dX10_end_4 rfl (lv_at hl 1 rfl) ?_
    refine lv_aload_n hx hb dX10_end_5 rfl (lv_at hl 0 rfl) ?_
    obtain ⟨q1, hq2, ok_q1, hf⟩ := gR_of hf
    refine gf_RX10_22 hC hR ok_this hq2 dX10_end_6 ?_
    refine gf_RX10_122 hC hR ok_q1 dX10_end_9 ?_
    refine lv_icmp_le (tgt := 17) hx hb dX10_end_12 (by decide) (fun hc => ?_) (fun hc => ?_)
    · replace hf := if_t hf hc
      refine lv_aload_n hx hb dX10_end_17 rfl (lv_at hl 0 rfl) ?_
      obtain ⟨q3, hq4, ok_q3, hf⟩ := gR_of hf
      refine gf_RX10_22 hC hR ok_this hq4 dX10_end_18 ?_
      refine lv_iload_n hx hb dX10_end_21 rfl (lv_at hl 1 rfl) ?_
      refine pf_RX10_122 hC hR hS ok_q3 dX10_end_22 hf (fun S5 H locs hf hR hS hE6 => ?_)
      have ok_this := hE6 _ _ ok_this
      have ok_q1 := hE6 _ _ ok_q1
      have ok_q3 := hE6 _ _ ok_q3
      have hE := hE.tr hE6
      refine lv_iload_n hx hb dX10_end_25 rfl (lv_at hl 1 rfl) ?_
      exact r_iret hC hR hS hE hf dX10_end_26
    · replace hf := if_f hf hc
      refine lv_iconst (v := -1) hx hb dX10_end_15 (by decide) ?_
      exact r_iret hC hR hS hE hf dX10_end_16
abbrev rX10_text : Room := { frames := 40, cells := 6, slots := 390, locals := 909 }
def f_X10_text_L60 (n : Nat) (this : Nat) (x3 : Int32) (j89_23 : MS → Option (Int32 × MS)) : Nat → Int32 → MS → Option (Int32 × MS)
  | 0, _, _ => none
  | k + 1, x37, S38 => jn (f_X10_text_L60 n this x3 j89_23 k) fun rec60_36 => (if (20 : Int32) < x37 then j89_23 S38 else gR S38 (mR S38 this 6) 4 fun q39 => cl (f_X4_goesOn n q39 S38) fun x44 S41 => (if x44 = 0 then j89_23 S41 else gR S41 (mR S41 this 6) 4 fun q45 => cv (f_X4_readClause n q45 S41) fun S47 => bd (x37 + (1 : Int32)) fun x50 => rec60_36 x50 S47))
def f_X10_text (n : Nat) (z : Nat) (this : Nat) (S : MS) : Option (Int32 × MS) :=
  gR S (mR S this 3) 8 fun q1 => bd (mI S q1 7) fun x3 => (if x3 < 0 then some ((-1 : Int32), S) else (if x3 < (4 : Int32) then gR S (mR S this 7) 16 fun q4 => ck (inb x3 (mN S q4)) (gN S (mR S q4 x3.toNatClampNeg) 7 fun q7 => jn (fun (S10 : MS) => gR S10 (mR S10 this 6) 4 fun q11 => gR S10 (mR S10 this 5) 6 fun q13 => gR S10 (mR S10 this 7) 16 fun q15 => ck (inb x3 (mN S10 q15)) (gN S10 (mR S10 q15 x3.toNatClampNeg) 7 fun q18 => cv (f_X4_begin n q11 q13 q18 S10) fun S19 => jn (fun (S24 : MS) => gR S24 (mR S24 this 5) 6 fun q25 => bd (sI S24 q25 1 (0 : Int32)) fun S27 => gR S27 (mR S27 this 6) 4 fun q29 => (if (mI S27 q29 0) = 0 then gR S27 (mR S27 this 3) 8 fun q31 => bd (sI S27 q31 7 ((mI S27 q31 7) + (1 : Int32))) fun S33 => some (x3, S33) else some ((-1 : Int32), S27))) fun j89_23 => f_X10_text_L60 n this x3 j89_23 n (0 : Int32) S19)) fun j41_9 => (if q7 = none then gR S (mR S this 7) 16 fun q53 => jn (z + (mL S).length) fun q55 => bd (nw S q55 7 0) fun S56 => cv (f_X7_init n z q55 S56) fun S58 => ck (inb x3 (mN S58 q53)) (bd (sR S58 q53 x3.toNatClampNeg (some q55)) fun S62 => j41_9 S62) else j41_9 S)) else some ((-1 : Int32), S)))
set_option maxRecDepth 100000 in
set_option maxHeartbeats 4000000 in
theorem c_X10_text (l : Launch) (G : Gx) (n : Nat) (this : Nat) (S : MS) (ro : Int32) (So : MS) (hf : f_X10_text n G.2.2 this S = some (ro, So)) (ok_this : Ok S this 10) : Cn G l yX10_text cX10_text 3 (some .int) rX10_text [.ref this] S (some (.int ro)) So := by
  refine Cn.of (by decide) (Nat.le_of_ble_eq_true rfl) ?_
  intro p e s m args below meth c hC hname hR ls hl
  have hC : Cx G RX10 cX10_text 3 (some .int) p s m args meth c := hC
  have hl : lv_has ls 3 [(0, .ref this)] := hl
  have hx := hC.x
  have hb := hC.b
  have hS : va_S (gA G) s.heap s.heap [] := va_S.rf
  have hE : Ex S S := Ex.rf S
  unfold f_X10_text at hf
  refine lv_aload_n hx hb dX10_text_0 rfl (lv_at hl 0 rfl) ?_
  obtain ⟨q1, hq2, ok_q1, hf⟩ := gR_of hf
  refine gf_RX10_10 hC hR ok_this hq2 dX10_text_1 ?_
  refine gf_RX10_130 hC hR ok_q1 dX10_text_4 ?_
  refine bdi hf (fun x3 hf => ?_)
  refine lv_istore_n (lv' := [(1, .int x3), (0, .ref this)]) hx hb dX10_text_7 rfl hl (by decide) rfl (fun ls hl => ?_)
  refine lv_iload_n hx hb dX10_text_8 rfl (lv_at hl 0 rfl) ?_
  refine lv_if_lt (tgt := 17) hx hb dX10_text_9 (by decide) (fun hc => ?_) (fun hc => ?_)
  · replace hf := if_t hf hc
    refine lv_iconst (v := -1) hx hb dX10_text_17 (by decide) ?_
    refine W.widen (k := 6) (n := 390) (Nat.le_of_ble_eq_true rfl) (Nat.le_of_ble_eq_true rfl) ?_
    exact r_iret hC hR hS hE hf dX10_text_18
  · replace hf := if_f hf hc
    refine lv_iload_n hx hb dX10_text_12 rfl (lv_at hl 0 rfl) ?_
    refine lv_iconst (v := 4) hx hb dX10_text_13 (by decide) ?_
    refine lv_icmp_lt (tgt := 19) hx hb dX10_text_14 (by decide) (fun hc => ?_) (fun hc => ?_)
    · replace hf := if_t hf hc
      refine lv_aload_n hx hb dX10_text_19 rfl (lv_at hl 1 rfl) ?_
      obtain ⟨q4, hq5, ok_q4, hf⟩ := gR_of hf
      refine gf_RX10_35 hC hR ok_this hq5 dX10_text_20 ?_
      refine lv_iload_n hx hb dX10_text_23 rfl (lv_at hl 0 rfl) ?_
      obtain ⟨hi6, hf⟩ := ck_of hf
      obtain ⟨ok_q7, hf⟩ := gN_of hf
      refine r_tald (v := va_rf (mR S q4 x3.toNatClampNeg)) hC hR ok_q4 hi6 dX10_text_24 rfl ?_
      generalize (mR S q4 x3.toNatClampNeg) = q7 at hf ok_q7 ⊢
      obtain ⟨j41_9, ej41_9, hf⟩ := jn_of1 hf
      have hj41_8 : ∀ (S10 : MS) (H : Heap) (locs : List Loc) (ls : Array Slot), j41_9 S10 = some (ro, So) → Rp G S10 H → va_S (gA G) s.heap H locs → Ex S S10 → Ok S10 this 10 → lv_has ls 3 [(0, .ref this), (1, .int x3)] → W p l e rX10_text s m args below meth c H locs 6 390 (MQ below (Qn G S (some (.int ro)) So) args s 6 390 (gA G)) (F0 m 41 ls []) := by
        intro S10 H locs ls hf hR hS hE ok_this hl
        rw [ej41_9] at hf
        refine lv_aload_n hx hb dX10_text_41 rfl (lv_at hl 0 rfl) ?_
        obtain ⟨q11, hq12, ok_q11, hf⟩ := gR_of hf
        refine gf_RX10_29 hC hR ok_this hq12 dX10_text_42 ?_
        refine lv_aload_n hx hb dX10_text_45 rfl (lv_at hl 0 rfl) ?_
        obtain ⟨q13, hq14, ok_q13, hf⟩ := gR_of hf
        refine gf_RX10_22 hC hR ok_this hq14 dX10_text_46 ?_
        refine lv_aload_n hx hb dX10_text_49 rfl (lv_at hl 0 rfl) ?_
        obtain ⟨q15, hq16, ok_q15, hf⟩ := gR_of hf
        refine gf_RX10_35 hC hR ok_this hq16 dX10_text_50 ?_
        refine lv_iload_n hx hb dX10_text_53 rfl (lv_at hl 1 rfl) ?_
        obtain ⟨hi17, hf⟩ := ck_of hf
        obtain ⟨ok_q18, hf⟩ := gN_of hf
        refine r_tald (v := va_rf (mR S10 q15 x3.toNatClampNeg)) hC hR ok_q15 hi17 dX10_text_54 rfl ?_
        generalize (mR S10 q15 x3.toNatClampNeg) = q18 at hf ok_q18 ⊢
        obtain ⟨S19, hc20, hf⟩ := cv_of hf
        refine cl_RX10_133 (As := [.ref q13, va_rf q18]) (rest := []) hC hR hS (c_X4_begin l G n q11 q13 q18 S10 S19 hc20 ok_q11 ok_q13 ok_q18) ok_q11 rfl ⟨Nat.le_of_ble_eq_true rfl, Nat.le_of_ble_eq_true rfl⟩ hl.1 rfl (Nat.le_of_ble_eq_true rfl) dX10_text_55 (Nat.le_of_ble_eq_true rfl) (Nat.le_of_ble_eq_true rfl) (fun H locs hR hS hE21 => ?_)
        have ok_this := hE21 _ _ ok_this
        have ok_q11 := hE21 _ _ ok_q11
        have ok_q13 := hE21 _ _ ok_q13
        have ok_q15 := hE21 _ _ ok_q15
        have ok_q18 := fun q h => hE21 _ _ (ok_q18 q h)
        have hE := hE.tr hE21
        refine lv_iconst (v := 0) hx hb dX10_text_58 (by decide) ?_
        refine lv_istore_n (lv' := [(2, .int (0 : Int32)), (0, .ref this), (1, .int x3)]) hx hb dX10_text_59 rfl hl (by decide) rfl (fun ls hl => ?_)
        obtain ⟨j89_23, ej89_23, hf⟩ := jn_of1 hf
        have hj89_22 : ∀ (S24 : MS) (H : Heap) (locs : List Loc) (ls : Array Slot), j89_23 S24 = some (ro, So) → Rp G S24 H → va_S (gA G) s.heap H locs → Ex S S24 → Ok S24 this 10 → lv_has ls 3 [(0, .ref this), (1, .int x3)] → W p l e rX10_text s m args below meth c H locs 6 390 (MQ below (Qn G S (some (.int ro)) So) args s 6 390 (gA G)) (F0 m 89 ls []) := by
          intro S24 H locs ls hf hR hS hE ok_this hl
          rw [ej89_23] at hf
          refine lv_aload_n hx hb dX10_text_89 rfl (lv_at hl 0 rfl) ?_
          obtain ⟨q25, hq26, ok_q25, hf⟩ := gR_of hf
          refine gf_RX10_22 hC hR ok_this hq26 dX10_text_90 ?_
          refine lv_iconst (v := 0) hx hb dX10_text_93 (by decide) ?_
          refine pf_RX10_122 hC hR hS ok_q25 dX10_text_94 hf (fun S27 H locs hf hR hS hE28 => ?_)
          have ok_this := hE28 _ _ ok_this
          have ok_q25 := hE28 _ _ ok_q25
          have hE := hE.tr hE28
          refine lv_aload_n hx hb dX10_text_97 rfl (lv_at hl 0 rfl) ?_
          obtain ⟨q29, hq30, ok_q29, hf⟩ := gR_of hf
          refine gf_RX10_29 hC hR ok_this hq30 dX10_text_98 ?_
          refine gf_RX10_144 hC hR ok_q29 dX10_text_101 ?_
          refine lv_if_eq (tgt := 109) hx hb dX10_text_104 (by decide) (fun hc => ?_) (fun hc => ?_)
          · replace hf := if_t hf hc
            refine lv_aload_n hx hb dX10_text_109 rfl (lv_at hl 0 rfl) ?_
            obtain ⟨q31, hq32, ok_q31, hf⟩ := gR_of hf
            refine gf_RX10_10 hC hR ok_this hq32 dX10_text_110 ?_
            refine lv_dup hx hb dX10_text_113 rfl ?_
            refine gf_RX10_130 hC hR ok_q31 dX10_text_114 ?_
            refine lv_iconst (v := 1) hx hb dX10_text_117 (by decide) ?_
            refine lv_iadd hx hb dX10_text_118 ?_
            refine pf_RX10_130 hC hR hS ok_q31 dX10_text_119 hf (fun S33 H locs hf hR hS hE34 => ?_)
            have ok_this := hE34 _ _ ok_this
            have ok_q25 := hE34 _ _ ok_q25
            have ok_q29 := hE34 _ _ ok_q29
            have ok_q31 := hE34 _ _ ok_q31
            have hE := hE.tr hE34
            refine lv_iload_n hx hb dX10_text_122 rfl (lv_at hl 1 rfl) ?_
            refine W.widen (k := 6) (n := 390) (Nat.le_of_ble_eq_true rfl) (Nat.le_of_ble_eq_true rfl) ?_
            exact r_iret hC hR hS hE hf dX10_text_123
          · replace hf := if_f hf hc
            refine lv_iconst (v := -1) hx hb dX10_text_107 (by decide) ?_
            refine W.widen (k := 6) (n := 390) (Nat.le_of_ble_eq_true rfl) (Nat.le_of_ble_eq_true rfl) ?_
            exact r_iret hC hR hS hE hf dX10_text_108
        have hh51 : ∀ k : Nat, ∀ (x37 : Int32) (S38 : MS) (H : Heap) (locs : List Loc) (ls : Array Slot), f_X10_text_L60 n this x3 j89_23 k x37 S38 = some (ro, So) → Rp G S38 H → va_S (gA G) s.heap H locs → Ex S S38 → Ok S38 this 10 → lv_has ls 3 [(0, .ref this), (1, .int x3), (2, .int x37)] → W p l e rX10_text s m args below meth c H locs 6 390 (MQ below (Qn G S (some (.int ro)) So) args s 6 390 (gA G)) (F0 m 60 ls []) := by
          intro k
          induction k with
          | zero =>
            intro x37 S38 H locs ls hf hR hS hE ok_this hl
            exact absurd hf (by rw [f_X10_text_L60]; exact fun h => by cases h)
          | succ k ih =>
            intro x37 S38 H locs ls hf hR hS hE ok_this hl
            rw [f_X10_text_L60] at hf
            obtain ⟨rec60_36, erec60_36, hf⟩ := jn_of2 hf
            have hL60_35 : ∀ (x37 : Int32) (S38 : MS) (H : Heap) (locs : List Loc) (ls : Array Slot), rec60_36 x37 S38 = some (ro, So) → Rp G S38 H → va_S (gA G) s.heap H locs → Ex S S38 → Ok S38 this 10 → lv_has ls 3 [(0, .ref this), (1, .int x3), (2, .int x37)] → W p l e rX10_text s m args below meth c H locs 6 390 (MQ below (Qn G S (some (.int ro)) So) args s 6 390 (gA G)) (F0 m 60 ls []) := by
              intro x37 S38 H locs ls hf hR hS hE ok_this hl
              rw [erec60_36] at hf
              exact ih x37 S38 _ _ _ hf hR hS hE ok_this hl
            refine lv_iload_n hx hb dX10_text_60 rfl (lv_at hl 2 rfl) ?_
            refine lv_bipush (v := 20) hx hb dX10_text_61 (by decide) ?_
            refine lv_icmp_gt (tgt := 89) hx hb dX10_text_63 (by decide) (fun hc => ?_) (fun hc => ?_)
            · replace hf := if_t hf hc
              refine W.widen (k := 6) (n := 390) (Nat.le_of_ble_eq_true rfl) (Nat.le_of_ble_eq_true rfl) ?_
              exact hj89_22 S38 _ _ _ hf hR hS hE ok_this (lv_sub hl [0, 1] rfl)
            · replace hf := if_f hf hc
              refine lv_aload_n hx hb dX10_text_66 rfl (lv_at hl 0 rfl) ?_
              obtain ⟨q39, hq40, ok_q39, hf⟩ := gR_of hf
              refine gf_RX10_29 hC hR ok_this hq40 dX10_text_67 ?_
              obtain ⟨x44, S41, hc42, hf⟩ := cl_of hf
              refine cl_RX10_137 (As := []) (rest := []) hC hR hS (c_X4_goesOn l G n q39 S38 x44 S41 hc42 ok_q39) ok_q39 rfl ⟨Nat.le_of_ble_eq_true rfl, Nat.le_of_ble_eq_true rfl⟩ hl.1 rfl (Nat.le_of_ble_eq_true rfl) dX10_text_70 (Nat.le_of_ble_eq_true rfl) (Nat.le_of_ble_eq_true rfl) (fun H locs hR hS hE43 => ?_)
              have ok_this := hE43 _ _ ok_this
              have ok_q39 := hE43 _ _ ok_q39
              have hE := hE.tr hE43
              refine lv_if_eq (tgt := 89) hx hb dX10_text_73 (by decide) (fun hc => ?_) (fun hc => ?_)
              · replace hf := if_t hf hc
                refine W.widen (k := 6) (n := 390) (Nat.le_of_ble_eq_true rfl) (Nat.le_of_ble_eq_true rfl) ?_
                exact hj89_22 S41 _ _ _ hf hR hS hE ok_this (lv_sub hl [0, 1] rfl)
              · replace hf := if_f hf hc
                refine lv_aload_n hx hb dX10_text_76 rfl (lv_at hl 0 rfl) ?_
                obtain ⟨q45, hq46, ok_q45, hf⟩ := gR_of hf
                refine gf_RX10_29 hC hR ok_this hq46 dX10_text_77 ?_
                obtain ⟨S47, hc48, hf⟩ := cv_of hf
                refine cl_RX10_141 (As := []) (rest := []) hC hR hS (c_X4_readClause l G n q45 S41 S47 hc48 ok_q45) ok_q45 rfl ⟨Nat.le_of_ble_eq_true rfl, Nat.le_of_ble_eq_true rfl⟩ hl.1 rfl (Nat.le_of_ble_eq_true rfl) dX10_text_80 (Nat.le_of_ble_eq_true rfl) (Nat.le_of_ble_eq_true rfl) (fun H locs hR hS hE49 => ?_)
                have ok_this := hE49 _ _ ok_this
                have ok_q39 := hE49 _ _ ok_q39
                have ok_q45 := hE49 _ _ ok_q45
                have hE := hE.tr hE49
                refine r_iinc (n := 1) (z := 1) (lv' := fun x50 => [(2, .int x50), (0, .ref this), (1, .int x3)]) hx hb dX10_text_83 hl (k := 2) rfl (by decide) (by decide) (fun _ => rfl) hf (fun x50 ls hf hl => ?_)
                refine lv_goto (tgt := 60) hx hb dX10_text_86 (by decide) ?_
                refine W.widen (k := 6) (n := 390) (Nat.le_of_ble_eq_true rfl) (Nat.le_of_ble_eq_true rfl) ?_
                exact hL60_35 x50 S47 _ _ _ hf hR hS hE ok_this (lv_sub hl [1, 2, 0] rfl)
        refine W.widen (k := 6) (n := 390) (Nat.le_of_ble_eq_true rfl) (Nat.le_of_ble_eq_true rfl) ?_
        exact hh51 n (0 : Int32) S19 _ _ _ hf hR hS hE ok_this (lv_sub hl [1, 2, 0] rfl)
      refine r_ifnonnullO (tgt := 41) hx hb dX10_text_25 (by decide) (fun hc => ?_) (fun hc => ?_)
      · replace hf := if_f hf hc
        refine W.widen (k := 6) (n := 390) (Nat.le_of_ble_eq_true rfl) (Nat.le_of_ble_eq_true rfl) ?_
        exact hj41_8 S _ _ _ hf hR hS hE ok_this (lv_sub hl [1, 0] rfl)
      · replace hf := if_t hf hc
        refine lv_aload_n hx hb dX10_text_28 rfl (lv_at hl 1 rfl) ?_
        obtain ⟨q53, hq54, ok_q53, hf⟩ := gR_of hf
        refine gf_RX10_35 hC hR ok_this hq54 dX10_text_29 ?_
        refine lv_iload_n hx hb dX10_text_32 rfl (lv_at hl 0 rfl) ?_
        obtain ⟨q55, eq55, hf⟩ := jn_of hf
        refine r_new (ci := 7) rfl (by decide) inlX7 rfl (by decide +kernel) (by decide +kernel) (bg2 _ (List.mem_of_getElem? (i := 5) rfl)) (bg13 _ (List.mem_of_getElem? (i := 19) rfl)) (bg13 _ (List.mem_of_getElem? (i := 20) rfl)) hC hR hS (Nat.le_of_ble_eq_true rfl) (Nat.le_of_ble_eq_true rfl) dX10_text_33 eq55 hf (fun S56 H hf hR hS hE57 ok_q55 => ?_)
        have ok_this := hE57 _ _ ok_this
        have ok_q1 := hE57 _ _ ok_q1
        have ok_q4 := hE57 _ _ ok_q4
        have ok_q7 := fun q h => hE57 _ _ (ok_q7 q h)
        have ok_q53 := hE57 _ _ ok_q53
        have hE := hE.tr hE57
        refine lv_dup hx hb dX10_text_36 rfl ?_
        obtain ⟨S58, hc59, hf⟩ := cv_of hf
        refine cl_RX10_132 (As := []) (rest := [.ref q55, .int x3, .ref q53]) hC hR hS (c_X7_init l G n q55 S56 S58 hc59 ok_q55) rfl ⟨Nat.le_of_ble_eq_true rfl, Nat.le_of_ble_eq_true rfl⟩ hl.1 rfl (Nat.le_of_ble_eq_true rfl) dX10_text_37 (Nat.le_of_ble_eq_true rfl) (Nat.le_of_ble_eq_true rfl) (fun H locs hR hS hE60 => ?_)
        have ok_this := hE60 _ _ ok_this
        have ok_q1 := hE60 _ _ ok_q1
        have ok_q4 := hE60 _ _ ok_q4
        have ok_q7 := fun q h => hE60 _ _ (ok_q7 q h)
        have ok_q53 := hE60 _ _ ok_q53
        have ok_q55 := hE60 _ _ ok_q55
        have hE := hE.tr hE60
        obtain ⟨hi61, hf⟩ := ck_of hf
        refine r_aast (ca := 16) (ci := 7) (t0 := 4) (by decide) rfl rfl (fun _ _ h => wE_T h) hC hR hS ok_q53 ok_q55 hi61 dX10_text_40 hf (fun S62 H locs hf hR hS hE63 => ?_)
        have ok_this := hE63 _ _ ok_this
        have ok_q1 := hE63 _ _ ok_q1
        have ok_q4 := hE63 _ _ ok_q4
        have ok_q7 := fun q h => hE63 _ _ (ok_q7 q h)
        have ok_q53 := hE63 _ _ ok_q53
        have ok_q55 := hE63 _ _ ok_q55
        have hE := hE.tr hE63
        refine W.widen (k := 6) (n := 390) (Nat.le_of_ble_eq_true rfl) (Nat.le_of_ble_eq_true rfl) ?_
        exact hj41_8 S62 _ _ _ hf hR hS hE ok_this (lv_sub hl [1, 0] rfl)
    · replace hf := if_f hf hc
      refine lv_iconst (v := -1) hx hb dX10_text_17 (by decide) ?_
      refine W.widen (k := 6) (n := 390) (Nat.le_of_ble_eq_true rfl) (Nat.le_of_ble_eq_true rfl) ?_
      exact r_iret hC hR hS hE hf dX10_text_18
abbrev rX10_fault : Room := { frames := 0, cells := 0, slots := 0, locals := 0 }
def f_X10_fault (_n : Nat) (this : Nat) (a1 : Int32) (S : MS) : Option (Int32 × MS) :=
  (if a1 = 0 then gR S (mR S this 6) 4 fun q3 => some ((mI S q3 0), S) else (if a1 = (1 : Int32) then gR S (mR S this 6) 4 fun q1 => some ((mI S q1 1), S) else some ((-1 : Int32), S)))
set_option maxRecDepth 100000 in
set_option maxHeartbeats 4000000 in
theorem c_X10_fault (l : Launch) (G : Gx) (n : Nat) (this : Nat) (a1 : Int32) (S : MS) (ro : Int32) (So : MS) (hf : f_X10_fault n this a1 S = some (ro, So)) (ok_this : Ok S this 10) : Cn G l yX10_fault cX10_fault 2 (some .int) rX10_fault [.ref this, .int a1] S (some (.int ro)) So := by
  refine Cn.of (by decide) (Nat.le_of_ble_eq_true rfl) ?_
  intro p e s m args below meth c hC hname hR ls hl
  have hC : Cx G RX10 cX10_fault 2 (some .int) p s m args meth c := hC
  have hl : lv_has ls 2 [(0, .ref this), (1, .int a1)] := hl
  have hx := hC.x
  have hb := hC.b
  have hS : va_S (gA G) s.heap s.heap [] := va_S.rf
  have hE : Ex S S := Ex.rf S
  unfold f_X10_fault at hf
  refine lv_iload_n hx hb dX10_fault_0 rfl (lv_at hl 1 rfl) ?_
  refine lv_if_ne (tgt := 12) hx hb dX10_fault_1 (by decide) (fun hc => ?_) (fun hc => ?_)
  · replace hf := if_f hf hc
    refine lv_iload_n hx hb dX10_fault_12 rfl (lv_at hl 1 rfl) ?_
    refine lv_iconst (v := 1) hx hb dX10_fault_13 (by decide) ?_
    refine lv_icmp_ne (tgt := 27) hx hb dX10_fault_14 (by decide) (fun hc => ?_) (fun hc => ?_)
    · replace hf := if_f hf hc
      refine lv_iconst (v := -1) hx hb dX10_fault_27 (by decide) ?_
      exact r_iret hC hR hS hE hf dX10_fault_28
    · replace hf := if_t hf hc
      refine lv_aload_n hx hb dX10_fault_17 rfl (lv_at hl 0 rfl) ?_
      obtain ⟨q1, hq2, ok_q1, hf⟩ := gR_of hf
      refine gf_RX10_29 hC hR ok_this hq2 dX10_fault_18 ?_
      refine gf_RX10_147 hC hR ok_q1 dX10_fault_21 ?_
      refine lv_goto (tgt := 28) hx hb dX10_fault_24 (by decide) ?_
      exact r_iret hC hR hS hE hf dX10_fault_28
  · replace hf := if_t hf hc
    refine lv_aload_n hx hb dX10_fault_4 rfl (lv_at hl 0 rfl) ?_
    obtain ⟨q3, hq4, ok_q3, hf⟩ := gR_of hf
    refine gf_RX10_29 hC hR ok_this hq4 dX10_fault_5 ?_
    refine gf_RX10_144 hC hR ok_q3 dX10_fault_8 ?_
    exact r_iret hC hR hS hE hf dX10_fault_11
abbrev rX10_by : Room := { frames := 1, cells := 0, slots := 0, locals := 21 }
def f_X10_by (n : Nat) (this : Nat) (a1 : Int32) (S : MS) : Option (Int32 × MS) :=
  (if a1 = (-1 : Int32) then gR S (mR S this 3) 8 fun q1 => bd (sI S q1 8 a1) fun S3 => zb (1 : Int32) (some ((1 : Int32), S3)) else gR S (mR S this 3) 8 fun q5 => cl (f_X8_isText n q5 a1 S) fun x10 S7 => (if x10 = 0 then zb (0 : Int32) (some ((0 : Int32), S7)) else gR S7 (mR S7 this 3) 8 fun q11 => bd (sI S7 q11 8 a1) fun S13 => zb (1 : Int32) (some ((1 : Int32), S13))))
set_option maxRecDepth 100000 in
set_option maxHeartbeats 4000000 in
theorem c_X10_by (l : Launch) (G : Gx) (n : Nat) (this : Nat) (a1 : Int32) (S : MS) (ro : Int32) (So : MS) (hf : f_X10_by n this a1 S = some (ro, So)) (ok_this : Ok S this 10) : Cn G l yX10_by cX10_by 2 (some .boolean) rX10_by [.ref this, .int a1] S (some (.int ro)) So := by
  refine Cn.of (by decide) (Nat.le_of_ble_eq_true rfl) ?_
  intro p e s m args below meth c hC hname hR ls hl
  have hC : Cx G RX10 cX10_by 2 (some .boolean) p s m args meth c := hC
  have hl : lv_has ls 2 [(0, .ref this), (1, .int a1)] := hl
  have hx := hC.x
  have hb := hC.b
  have hS : va_S (gA G) s.heap s.heap [] := va_S.rf
  have hE : Ex S S := Ex.rf S
  unfold f_X10_by at hf
  refine lv_iload_n hx hb dX10_by_0 rfl (lv_at hl 1 rfl) ?_
  refine lv_iconst (v := -1) hx hb dX10_by_1 (by decide) ?_
  refine lv_icmp_eq (tgt := 18) hx hb dX10_by_2 (by decide) (fun hc => ?_) (fun hc => ?_)
  · replace hf := if_t hf hc
    refine lv_aload_n hx hb dX10_by_18 rfl (lv_at hl 0 rfl) ?_
    obtain ⟨q1, hq2, ok_q1, hf⟩ := gR_of hf
    refine gf_RX10_10 hC hR ok_this hq2 dX10_by_19 ?_
    refine lv_iload_n hx hb dX10_by_22 rfl (lv_at hl 1 rfl) ?_
    refine pf_RX10_153 hC hR hS ok_q1 dX10_by_23 hf (fun S3 H locs hf hR hS hE4 => ?_)
    have ok_this := hE4 _ _ ok_this
    have ok_q1 := hE4 _ _ ok_q1
    have hE := hE.tr hE4
    refine lv_iconst (v := 1) hx hb dX10_by_26 (by decide) ?_
    exact r_zret hC hR hS hE hf dX10_by_27
  · replace hf := if_f hf hc
    refine lv_aload_n hx hb dX10_by_5 rfl (lv_at hl 0 rfl) ?_
    obtain ⟨q5, hq6, ok_q5, hf⟩ := gR_of hf
    refine gf_RX10_10 hC hR ok_this hq6 dX10_by_6 ?_
    refine lv_iload_n hx hb dX10_by_9 rfl (lv_at hl 1 rfl) ?_
    obtain ⟨x10, S7, hc8, hf⟩ := cl_of hf
    refine cl_RX10_150 (As := [.int a1]) (rest := []) hC hR hS (c_X8_isText l G n q5 a1 S x10 S7 hc8 ok_q5) ok_q5 rfl ⟨Nat.le_of_ble_eq_true rfl, Nat.le_of_ble_eq_true rfl⟩ hl.1 rfl (Nat.le_of_ble_eq_true rfl) dX10_by_10 (Nat.zero_le _) (Nat.zero_le _) (fun H locs hR hS hE9 => ?_)
    have ok_this := hE9 _ _ ok_this
    have ok_q5 := hE9 _ _ ok_q5
    have hE := hE.tr hE9
    refine lv_if_ne (tgt := 18) hx hb dX10_by_13 (by decide) (fun hc => ?_) (fun hc => ?_)
    · replace hf := if_f hf hc
      refine lv_aload_n hx hb dX10_by_18 rfl (lv_at hl 0 rfl) ?_
      obtain ⟨q11, hq12, ok_q11, hf⟩ := gR_of hf
      refine gf_RX10_10 hC hR ok_this hq12 dX10_by_19 ?_
      refine lv_iload_n hx hb dX10_by_22 rfl (lv_at hl 1 rfl) ?_
      refine pf_RX10_153 hC hR hS ok_q11 dX10_by_23 hf (fun S13 H locs hf hR hS hE14 => ?_)
      have ok_this := hE14 _ _ ok_this
      have ok_q5 := hE14 _ _ ok_q5
      have ok_q11 := hE14 _ _ ok_q11
      have hE := hE.tr hE14
      refine lv_iconst (v := 1) hx hb dX10_by_26 (by decide) ?_
      exact r_zret hC hR hS hE hf dX10_by_27
    · replace hf := if_t hf hc
      refine lv_iconst (v := 0) hx hb dX10_by_16 (by decide) ?_
      exact r_zret hC hR hS hE hf dX10_by_17
abbrev rX10_draw : Room := { frames := 4, cells := 0, slots := 0, locals := 90 }
def f_X10_draw (n : Nat) (this : Nat) (a1 : Int32) (S : MS) : Option (Int32 × MS) :=
  gR S (mR S this 3) 8 fun q1 => cl (f_X8_isText n q1 a1 S) fun x6 S3 => (if x6 = 0 then some ((-2 : Int32), S3) else gR S3 (mR S3 this 7) 16 fun q7 => ck (inb a1 (mN S3 q7)) (gN S3 (mR S3 q7 a1.toNatClampNeg) 7 fun q10 => (if q10 = none then some ((-2 : Int32), S3) else gR S3 (mR S3 this 1) 3 fun q11 => cv (f_X3_clearOff n q11 S3) fun S13 => gR S13 (mR S13 this 1) 3 fun q16 => gR S13 (mR S13 this 7) 16 fun q18 => ck (inb a1 (mN S13 q18)) (gN S13 (mR S13 q18 a1.toNatClampNeg) 7 fun q21 => cl (f_X3_drawnBy n q16 q21 S13) fun x25 S22 => some (x25, S22)))))
set_option maxRecDepth 100000 in
set_option maxHeartbeats 4000000 in
theorem c_X10_draw (l : Launch) (G : Gx) (n : Nat) (this : Nat) (a1 : Int32) (S : MS) (ro : Int32) (So : MS) (hf : f_X10_draw n this a1 S = some (ro, So)) (ok_this : Ok S this 10) : Cn G l yX10_draw cX10_draw 2 (some .int) rX10_draw [.ref this, .int a1] S (some (.int ro)) So := by
  refine Cn.of (by decide) (Nat.le_of_ble_eq_true rfl) ?_
  intro p e s m args below meth c hC hname hR ls hl
  have hC : Cx G RX10 cX10_draw 2 (some .int) p s m args meth c := hC
  have hl : lv_has ls 2 [(0, .ref this), (1, .int a1)] := hl
  have hx := hC.x
  have hb := hC.b
  have hS : va_S (gA G) s.heap s.heap [] := va_S.rf
  have hE : Ex S S := Ex.rf S
  unfold f_X10_draw at hf
  refine lv_aload_n hx hb dX10_draw_0 rfl (lv_at hl 0 rfl) ?_
  obtain ⟨q1, hq2, ok_q1, hf⟩ := gR_of hf
  refine gf_RX10_10 hC hR ok_this hq2 dX10_draw_1 ?_
  refine lv_iload_n hx hb dX10_draw_4 rfl (lv_at hl 1 rfl) ?_
  obtain ⟨x6, S3, hc4, hf⟩ := cl_of hf
  refine cl_RX10_150 (As := [.int a1]) (rest := []) hC hR hS (c_X8_isText l G n q1 a1 S x6 S3 hc4 ok_q1) ok_q1 rfl ⟨Nat.le_of_ble_eq_true rfl, Nat.le_of_ble_eq_true rfl⟩ hl.1 rfl (Nat.le_of_ble_eq_true rfl) dX10_draw_5 (Nat.zero_le _) (Nat.zero_le _) (fun H locs hR hS hE5 => ?_)
  have ok_this := hE5 _ _ ok_this
  have ok_q1 := hE5 _ _ ok_q1
  have hE := hE.tr hE5
  refine lv_if_eq (tgt := 20) hx hb dX10_draw_8 (by decide) (fun hc => ?_) (fun hc => ?_)
  · replace hf := if_t hf hc
    refine lv_bipush (v := -2) hx hb dX10_draw_20 (by decide) ?_
    exact r_iret hC hR hS hE hf dX10_draw_22
  · replace hf := if_f hf hc
    refine lv_aload_n hx hb dX10_draw_11 rfl (lv_at hl 0 rfl) ?_
    obtain ⟨q7, hq8, ok_q7, hf⟩ := gR_of hf
    refine gf_RX10_35 hC hR ok_this hq8 dX10_draw_12 ?_
    refine lv_iload_n hx hb dX10_draw_15 rfl (lv_at hl 1 rfl) ?_
    obtain ⟨hi9, hf⟩ := ck_of hf
    obtain ⟨ok_q10, hf⟩ := gN_of hf
    refine r_tald (v := va_rf (mR S3 q7 a1.toNatClampNeg)) hC hR ok_q7 hi9 dX10_draw_16 rfl ?_
    generalize (mR S3 q7 a1.toNatClampNeg) = q10 at hf ok_q10 ⊢
    refine r_ifnonnullO (tgt := 23) hx hb dX10_draw_17 (by decide) (fun hc => ?_) (fun hc => ?_)
    · replace hf := if_f hf hc
      refine lv_aload_n hx hb dX10_draw_23 rfl (lv_at hl 0 rfl) ?_
      obtain ⟨q11, hq12, ok_q11, hf⟩ := gR_of hf
      refine gf_RX10_78 hC hR ok_this hq12 dX10_draw_24 ?_
      obtain ⟨S13, hc14, hf⟩ := cv_of hf
      refine cl_RX10_156 (As := []) (rest := []) hC hR hS (c_X3_clearOff l G n q11 S3 S13 hc14 ok_q11) ok_q11 rfl ⟨Nat.le_of_ble_eq_true rfl, Nat.le_of_ble_eq_true rfl⟩ hl.1 rfl (Nat.le_of_ble_eq_true rfl) dX10_draw_27 (Nat.zero_le _) (Nat.zero_le _) (fun H locs hR hS hE15 => ?_)
      have ok_this := hE15 _ _ ok_this
      have ok_q1 := hE15 _ _ ok_q1
      have ok_q7 := hE15 _ _ ok_q7
      have ok_q10 := fun q h => hE15 _ _ (ok_q10 q h)
      have ok_q11 := hE15 _ _ ok_q11
      have hE := hE.tr hE15
      refine lv_aload_n hx hb dX10_draw_30 rfl (lv_at hl 0 rfl) ?_
      obtain ⟨q16, hq17, ok_q16, hf⟩ := gR_of hf
      refine gf_RX10_78 hC hR ok_this hq17 dX10_draw_31 ?_
      refine lv_aload_n hx hb dX10_draw_34 rfl (lv_at hl 0 rfl) ?_
      obtain ⟨q18, hq19, ok_q18, hf⟩ := gR_of hf
      refine gf_RX10_35 hC hR ok_this hq19 dX10_draw_35 ?_
      refine lv_iload_n hx hb dX10_draw_38 rfl (lv_at hl 1 rfl) ?_
      obtain ⟨hi20, hf⟩ := ck_of hf
      obtain ⟨ok_q21, hf⟩ := gN_of hf
      refine r_tald (v := va_rf (mR S13 q18 a1.toNatClampNeg)) hC hR ok_q18 hi20 dX10_draw_39 rfl ?_
      generalize (mR S13 q18 a1.toNatClampNeg) = q21 at hf ok_q21 ⊢
      obtain ⟨x25, S22, hc23, hf⟩ := cl_of hf
      refine cl_RX10_159 (As := [va_rf q21]) (rest := []) hC hR hS (c_X3_drawnBy l G n q16 q21 S13 x25 S22 hc23 ok_q16 ok_q21) ok_q16 rfl ⟨Nat.le_of_ble_eq_true rfl, Nat.le_of_ble_eq_true rfl⟩ hl.1 rfl (Nat.le_of_ble_eq_true rfl) dX10_draw_40 (Nat.zero_le _) (Nat.zero_le _) (fun H locs hR hS hE24 => ?_)
      have ok_this := hE24 _ _ ok_this
      have ok_q1 := hE24 _ _ ok_q1
      have ok_q7 := hE24 _ _ ok_q7
      have ok_q10 := fun q h => hE24 _ _ (ok_q10 q h)
      have ok_q11 := hE24 _ _ ok_q11
      have ok_q16 := hE24 _ _ ok_q16
      have ok_q18 := hE24 _ _ ok_q18
      have ok_q21 := fun q h => hE24 _ _ (ok_q21 q h)
      have hE := hE.tr hE24
      exact r_iret hC hR hS hE hf dX10_draw_43
    · replace hf := if_t hf hc
      refine lv_bipush (v := -2) hx hb dX10_draw_20 (by decide) ?_
      exact r_iret hC hR hS hE hf dX10_draw_22
abbrev rX10_of : Room := { frames := 4, cells := 0, slots := 0, locals := 102 }
def f_X10_of (n : Nat) (this : Nat) (a1 : Int32) (a2 : Int32) (S : MS) : Option (Int32 × MS) :=
  gR S (mR S this 1) 3 fun q1 => cl (f_X3_isBone n q1 a1 S) fun x6 S3 => (if x6 = 0 then some ((-10000000 : Int32), S3) else (if a2 = (0 : Int32) then gR S3 (mR S3 this 1) 3 fun q7 => gR S3 (mR S3 q7 1) 12 fun q9 => ck (inb a1 (mN S3 q9)) (some ((mI S3 q9 a1.toNatClampNeg), S3)) else (if a2 = (1 : Int32) then gR S3 (mR S3 this 1) 3 fun q12 => gR S3 (mR S3 q12 2) 12 fun q14 => ck (inb a1 (mN S3 q14)) (some ((mI S3 q14 a1.toNatClampNeg), S3)) else (if a2 = (2 : Int32) then gR S3 (mR S3 this 1) 3 fun q17 => gR S3 (mR S3 q17 3) 12 fun q19 => ck (inb a1 (mN S3 q19)) (some ((mI S3 q19 a1.toNatClampNeg), S3)) else (if a2 = (3 : Int32) then gR S3 (mR S3 this 8) 5 fun q22 => gR S3 (mR S3 this 1) 3 fun q24 => gR S3 (mR S3 this 9) 9 fun q26 => cl (f_X9_law n q26 S3) fun q31 S28 => gN S28 q31 7 fun q31 => cl (f_X5_holdNow n q22 q24 a1 q31 S28) fun x35 S32 => some (x35, S32) else some ((-10000000 : Int32), S3))))))
set_option maxRecDepth 100000 in
set_option maxHeartbeats 4000000 in
theorem c_X10_of (l : Launch) (G : Gx) (n : Nat) (this : Nat) (a1 : Int32) (a2 : Int32) (S : MS) (ro : Int32) (So : MS) (hf : f_X10_of n this a1 a2 S = some (ro, So)) (ok_this : Ok S this 10) : Cn G l yX10_of cX10_of 3 (some .int) rX10_of [.ref this, .int a1, .int a2] S (some (.int ro)) So := by
  refine Cn.of (by decide) (Nat.le_of_ble_eq_true rfl) ?_
  intro p e s m args below meth c hC hname hR ls hl
  have hC : Cx G RX10 cX10_of 3 (some .int) p s m args meth c := hC
  have hl : lv_has ls 3 [(0, .ref this), (1, .int a1), (2, .int a2)] := hl
  have hx := hC.x
  have hb := hC.b
  have hS : va_S (gA G) s.heap s.heap [] := va_S.rf
  have hE : Ex S S := Ex.rf S
  unfold f_X10_of at hf
  refine lv_aload_n hx hb dX10_of_0 rfl (lv_at hl 0 rfl) ?_
  obtain ⟨q1, hq2, ok_q1, hf⟩ := gR_of hf
  refine gf_RX10_78 hC hR ok_this hq2 dX10_of_1 ?_
  refine lv_iload_n hx hb dX10_of_4 rfl (lv_at hl 1 rfl) ?_
  obtain ⟨x6, S3, hc4, hf⟩ := cl_of hf
  refine cl_RX10_163 (As := [.int a1]) (rest := []) hC hR hS (c_X3_isBone l G n q1 a1 S x6 S3 hc4 ok_q1) ok_q1 rfl ⟨Nat.le_of_ble_eq_true rfl, Nat.le_of_ble_eq_true rfl⟩ hl.1 rfl (Nat.le_of_ble_eq_true rfl) dX10_of_5 (Nat.zero_le _) (Nat.zero_le _) (fun H locs hR hS hE5 => ?_)
  have ok_this := hE5 _ _ ok_this
  have ok_q1 := hE5 _ _ ok_q1
  have hE := hE.tr hE5
  refine lv_if_ne (tgt := 14) hx hb dX10_of_8 (by decide) (fun hc => ?_) (fun hc => ?_)
  · replace hf := if_f hf hc
    refine lv_iload_n hx hb dX10_of_14 rfl (lv_at hl 2 rfl) ?_
    by_cases hc0 : a2 = (0 : Int32)
    · replace hf := if_t hf hc0
      rw [hc0]
      refine lv_tableIn (tgt := 44) hx hb dX10_of_15 (by decide) (by decide) rfl (by decide) ?_
      refine lv_aload_n hx hb dX10_of_44 rfl (lv_at hl 0 rfl) ?_
      obtain ⟨q7, hq8, ok_q7, hf⟩ := gR_of hf
      refine gf_RX10_78 hC hR ok_this hq8 dX10_of_45 ?_
      obtain ⟨q9, hq10, ok_q9, hf⟩ := gR_of hf
      refine gf_RX10_167 hC hR ok_q7 hq10 dX10_of_48 ?_
      refine lv_iload_n hx hb dX10_of_51 rfl (lv_at hl 1 rfl) ?_
      obtain ⟨hi11, hf⟩ := ck_of hf
      refine r_iald hC hR ok_q9 hi11 dX10_of_52 ?_
      exact r_iret hC hR hS hE hf dX10_of_53
    · replace hf := if_f hf hc0
      by_cases hc1 : a2 = (1 : Int32)
      · replace hf := if_t hf hc1
        rw [hc1]
        refine lv_tableIn (tgt := 54) hx hb dX10_of_15 (by decide) (by decide) rfl (by decide) ?_
        refine lv_aload_n hx hb dX10_of_54 rfl (lv_at hl 0 rfl) ?_
        obtain ⟨q12, hq13, ok_q12, hf⟩ := gR_of hf
        refine gf_RX10_78 hC hR ok_this hq13 dX10_of_55 ?_
        obtain ⟨q14, hq15, ok_q14, hf⟩ := gR_of hf
        refine gf_RX10_170 hC hR ok_q12 hq15 dX10_of_58 ?_
        refine lv_iload_n hx hb dX10_of_61 rfl (lv_at hl 1 rfl) ?_
        obtain ⟨hi16, hf⟩ := ck_of hf
        refine r_iald hC hR ok_q14 hi16 dX10_of_62 ?_
        exact r_iret hC hR hS hE hf dX10_of_63
      · replace hf := if_f hf hc1
        by_cases hc2 : a2 = (2 : Int32)
        · replace hf := if_t hf hc2
          rw [hc2]
          refine lv_tableIn (tgt := 64) hx hb dX10_of_15 (by decide) (by decide) rfl (by decide) ?_
          refine lv_aload_n hx hb dX10_of_64 rfl (lv_at hl 0 rfl) ?_
          obtain ⟨q17, hq18, ok_q17, hf⟩ := gR_of hf
          refine gf_RX10_78 hC hR ok_this hq18 dX10_of_65 ?_
          obtain ⟨q19, hq20, ok_q19, hf⟩ := gR_of hf
          refine gf_RX10_173 hC hR ok_q17 hq20 dX10_of_68 ?_
          refine lv_iload_n hx hb dX10_of_71 rfl (lv_at hl 1 rfl) ?_
          obtain ⟨hi21, hf⟩ := ck_of hf
          refine r_iald hC hR ok_q19 hi21 dX10_of_72 ?_
          exact r_iret hC hR hS hE hf dX10_of_73
        · replace hf := if_f hf hc2
          by_cases hc3 : a2 = (3 : Int32)
          · replace hf := if_t hf hc3
            rw [hc3]
            refine lv_tableIn (tgt := 74) hx hb dX10_of_15 (by decide) (by decide) rfl (by decide) ?_
            refine lv_aload_n hx hb dX10_of_74 rfl (lv_at hl 0 rfl) ?_
            obtain ⟨q22, hq23, ok_q22, hf⟩ := gR_of hf
            refine gf_RX10_42 hC hR ok_this hq23 dX10_of_75 ?_
            refine lv_aload_n hx hb dX10_of_78 rfl (lv_at hl 0 rfl) ?_
            obtain ⟨q24, hq25, ok_q24, hf⟩ := gR_of hf
            refine gf_RX10_78 hC hR ok_this hq25 dX10_of_79 ?_
            refine lv_iload_n hx hb dX10_of_82 rfl (lv_at hl 1 rfl) ?_
            refine lv_aload_n hx hb dX10_of_83 rfl (lv_at hl 0 rfl) ?_
            obtain ⟨q26, hq27, ok_q26, hf⟩ := gR_of hf
            refine gf_RX10_51 hC hR ok_this hq27 dX10_of_84 ?_
            obtain ⟨q31, S28, hc29, hf⟩ := cl_of hf
            refine cl_RX10_176 (As := []) (rest := [.int a1, .ref q24, .ref q22]) hC hR hS (c_X9_law l G n q26 S3 q31 S28 hc29 ok_q26) ok_q26 rfl ⟨Nat.le_of_ble_eq_true rfl, Nat.le_of_ble_eq_true rfl⟩ hl.1 rfl (Nat.le_of_ble_eq_true rfl) dX10_of_87 (Nat.zero_le _) (Nat.zero_le _) (fun H locs hR hS hE30 => ?_)
            have ok_this := hE30 _ _ ok_this
            have ok_q1 := hE30 _ _ ok_q1
            have ok_q22 := hE30 _ _ ok_q22
            have ok_q24 := hE30 _ _ ok_q24
            have ok_q26 := hE30 _ _ ok_q26
            have hE := hE.tr hE30
            obtain ⟨ok_q31, hf⟩ := gN_of hf
            obtain ⟨x35, S32, hc33, hf⟩ := cl_of hf
            refine cl_RX10_180 (As := [.ref q24, .int a1, va_rf q31]) (rest := []) hC hR hS (c_X5_holdNow l G n q22 q24 a1 q31 S28 x35 S32 hc33 ok_q22 ok_q24 ok_q31) ok_q22 rfl ⟨Nat.le_of_ble_eq_true rfl, Nat.le_of_ble_eq_true rfl⟩ hl.1 rfl (Nat.le_of_ble_eq_true rfl) dX10_of_90 (Nat.zero_le _) (Nat.zero_le _) (fun H locs hR hS hE34 => ?_)
            have ok_this := hE34 _ _ ok_this
            have ok_q1 := hE34 _ _ ok_q1
            have ok_q22 := hE34 _ _ ok_q22
            have ok_q24 := hE34 _ _ ok_q24
            have ok_q26 := hE34 _ _ ok_q26
            have ok_q31 := fun q h => hE34 _ _ (ok_q31 q h)
            have hE := hE.tr hE34
            exact r_iret hC hR hS hE hf dX10_of_93
          · replace hf := if_f hf hc3
            refine lv_tableOut (tgt := 94) hx hb dX10_of_15 (by have := ne_toInt hc0 (z := 0) (by decide); have := ne_toInt hc1 (z := 1) (by decide); have := ne_toInt hc2 (z := 2) (by decide); have := ne_toInt hc3 (z := 3) (by decide); omega) (by decide) ?_
            refine lv_ldc (v := -10000000) hx hb hC.ow (hC.ts _ (bg29 _ (List.mem_of_getElem? (i := 22) rfl))) dX10_of_94 ?_
            exact r_iret hC hR hS hE hf dX10_of_96
  · replace hf := if_t hf hc
    refine lv_ldc (v := -10000000) hx hb hC.ow (hC.ts _ (bg29 _ (List.mem_of_getElem? (i := 22) rfl))) dX10_of_11 ?_
    exact r_iret hC hR hS hE hf dX10_of_13
abbrev rX10_cell : Room := { frames := 3, cells := 0, slots := 0, locals := 74 }
def f_X10_cell (n : Nat) (this : Nat) (a1 : Int32) (a2 : Int32) (S : MS) : Option (Int32 × MS) :=
  gR S (mR S this 0) 1 fun q1 => cl (f_X1_holds n q1 a1 S) fun x6 S3 => (if x6 = 0 then some ((-10 : Int32), S3) else gR S3 (mR S3 this 1) 3 fun q7 => cl (f_X3_fieldAt n q7 a1 S3) fun x12 S9 => (if a2 = (0 : Int32) then gR S9 (mR S9 this 0) 1 fun q13 => cl (f_X1_lowest n q13 x12 S9) fun x18 S15 => some (x18, S15) else (if a2 = (1 : Int32) then cl (f_J13_bitCount_95d88 n x12 S9) fun x22 S19 => some (x22, S19) else (if a2 = (2 : Int32) then gR S9 (mR S9 this 1) 3 fun q23 => cl (f_X3_holders n q23 x12 S9) fun x28 S25 => some (x28, S25) else (if a2 = (3 : Int32) then gR S9 (mR S9 this 1) 3 fun q29 => gR S9 (mR S9 q29 6) 12 fun q31 => ck (inb a1 (mN S9 q31)) (some ((mI S9 q31 a1.toNatClampNeg), S9)) else (if a2 = (4 : Int32) then gR S9 (mR S9 this 1) 3 fun q34 => (if (lg_cmp ((lush (mJ S9 q34 9) a1) &&& (1 : Int64)) (0 : Int64)) = 0 then some ((0 : Int32), S9) else some ((1 : Int32), S9)) else some ((-10 : Int32), S9)))))))
set_option maxRecDepth 100000 in
set_option maxHeartbeats 4000000 in
theorem c_X10_cell (l : Launch) (G : Gx) (n : Nat) (this : Nat) (a1 : Int32) (a2 : Int32) (S : MS) (ro : Int32) (So : MS) (hf : f_X10_cell n this a1 a2 S = some (ro, So)) (ok_this : Ok S this 10) : Cn G l yX10_cell cX10_cell 5 (some .int) rX10_cell [.ref this, .int a1, .int a2] S (some (.int ro)) So := by
  refine Cn.of (by decide) (Nat.le_of_ble_eq_true rfl) ?_
  intro p e s m args below meth c hC hname hR ls hl
  have hC : Cx G RX10 cX10_cell 5 (some .int) p s m args meth c := hC
  have hl : lv_has ls 5 [(0, .ref this), (1, .int a1), (2, .int a2)] := hl
  have hx := hC.x
  have hb := hC.b
  have hS : va_S (gA G) s.heap s.heap [] := va_S.rf
  have hE : Ex S S := Ex.rf S
  unfold f_X10_cell at hf
  refine lv_aload_n hx hb dX10_cell_0 rfl (lv_at hl 0 rfl) ?_
  obtain ⟨q1, hq2, ok_q1, hf⟩ := gR_of hf
  refine gf_RX10_69 hC hR ok_this hq2 dX10_cell_1 ?_
  refine lv_iload_n hx hb dX10_cell_4 rfl (lv_at hl 1 rfl) ?_
  obtain ⟨x6, S3, hc4, hf⟩ := cl_of hf
  refine cl_RX10_101 (As := [.int a1]) (rest := []) hC hR hS (c_X1_holds l G n q1 a1 S x6 S3 hc4 ok_q1) ok_q1 rfl ⟨Nat.le_of_ble_eq_true rfl, Nat.le_of_ble_eq_true rfl⟩ hl.1 rfl (Nat.le_of_ble_eq_true rfl) dX10_cell_5 (Nat.zero_le _) (Nat.zero_le _) (fun H locs hR hS hE5 => ?_)
  have ok_this := hE5 _ _ ok_this
  have ok_q1 := hE5 _ _ ok_q1
  have hE := hE.tr hE5
  refine lv_if_ne (tgt := 14) hx hb dX10_cell_8 (by decide) (fun hc => ?_) (fun hc => ?_)
  · replace hf := if_f hf hc
    refine lv_aload_n hx hb dX10_cell_14 rfl (lv_at hl 0 rfl) ?_
    obtain ⟨q7, hq8, ok_q7, hf⟩ := gR_of hf
    refine gf_RX10_78 hC hR ok_this hq8 dX10_cell_15 ?_
    refine lv_iload_n hx hb dX10_cell_18 rfl (lv_at hl 1 rfl) ?_
    obtain ⟨x12, S9, hc10, hf⟩ := cl_of hf
    refine cl_RX10_184 (As := [.int a1]) (rest := []) hC hR hS (c_X3_fieldAt l G n q7 a1 S3 x12 S9 hc10 ok_q7) ok_q7 rfl ⟨Nat.le_of_ble_eq_true rfl, Nat.le_of_ble_eq_true rfl⟩ hl.1 rfl (Nat.le_of_ble_eq_true rfl) dX10_cell_19 (Nat.zero_le _) (Nat.zero_le _) (fun H locs hR hS hE11 => ?_)
    have ok_this := hE11 _ _ ok_this
    have ok_q1 := hE11 _ _ ok_q1
    have ok_q7 := hE11 _ _ ok_q7
    have hE := hE.tr hE11
    refine lv_lstore_n (lv' := [(3, .long x12), (0, .ref this), (1, .int a1), (2, .int a2)]) hx hb dX10_cell_22 rfl hl (by decide) rfl (fun ls hl => ?_)
    refine lv_iload_n hx hb dX10_cell_23 rfl (lv_at hl 3 rfl) ?_
    by_cases hc0 : a2 = (0 : Int32)
    · replace hf := if_t hf hc0
      rw [hc0]
      refine lv_tableIn (tgt := 60) hx hb dX10_cell_24 (by decide) (by decide) rfl (by decide) ?_
      refine lv_aload_n hx hb dX10_cell_60 rfl (lv_at hl 1 rfl) ?_
      obtain ⟨q13, hq14, ok_q13, hf⟩ := gR_of hf
      refine gf_RX10_69 hC hR ok_this hq14 dX10_cell_61 ?_
      refine lv_lload_n hx hb dX10_cell_64 rfl (lv_at hl 0 rfl) ?_
      obtain ⟨x18, S15, hc16, hf⟩ := cl_of hf
      refine cl_RX10_188 (As := [.long x12]) (rest := []) hC hR hS (c_X1_lowest l G n q13 x12 S9 x18 S15 hc16 ok_q13) ok_q13 rfl ⟨Nat.le_of_ble_eq_true rfl, Nat.le_of_ble_eq_true rfl⟩ hl.1 rfl (Nat.le_of_ble_eq_true rfl) dX10_cell_65 (Nat.zero_le _) (Nat.zero_le _) (fun H locs hR hS hE17 => ?_)
      have ok_this := hE17 _ _ ok_this
      have ok_q1 := hE17 _ _ ok_q1
      have ok_q7 := hE17 _ _ ok_q7
      have ok_q13 := hE17 _ _ ok_q13
      have hE := hE.tr hE17
      exact r_iret hC hR hS hE hf dX10_cell_68
    · replace hf := if_f hf hc0
      by_cases hc1 : a2 = (1 : Int32)
      · replace hf := if_t hf hc1
        rw [hc1]
        refine lv_tableIn (tgt := 69) hx hb dX10_cell_24 (by decide) (by decide) rfl (by decide) ?_
        refine lv_lload_n hx hb dX10_cell_69 rfl (lv_at hl 0 rfl) ?_
        obtain ⟨x22, S19, hc20, hf⟩ := cl_of hf
        refine cl_RX10_192 (As := [.long x12]) (rest := []) hC hR hS (c_J13_bitCount_95d88 l G n x12 S9 x22 S19 hc20 ) rfl ⟨Nat.le_of_ble_eq_true rfl, Nat.le_of_ble_eq_true rfl⟩ hl.1 rfl (Nat.le_of_ble_eq_true rfl) dX10_cell_70 (Nat.zero_le _) (Nat.zero_le _) (fun H locs hR hS hE21 => ?_)
        have ok_this := hE21 _ _ ok_this
        have ok_q1 := hE21 _ _ ok_q1
        have ok_q7 := hE21 _ _ ok_q7
        have hE := hE.tr hE21
        exact r_iret hC hR hS hE hf dX10_cell_73
      · replace hf := if_f hf hc1
        by_cases hc2 : a2 = (2 : Int32)
        · replace hf := if_t hf hc2
          rw [hc2]
          refine lv_tableIn (tgt := 74) hx hb dX10_cell_24 (by decide) (by decide) rfl (by decide) ?_
          refine lv_aload_n hx hb dX10_cell_74 rfl (lv_at hl 1 rfl) ?_
          obtain ⟨q23, hq24, ok_q23, hf⟩ := gR_of hf
          refine gf_RX10_78 hC hR ok_this hq24 dX10_cell_75 ?_
          refine lv_lload_n hx hb dX10_cell_78 rfl (lv_at hl 0 rfl) ?_
          obtain ⟨x28, S25, hc26, hf⟩ := cl_of hf
          refine cl_RX10_197 (As := [.long x12]) (rest := []) hC hR hS (c_X3_holders l G n q23 x12 S9 x28 S25 hc26 ok_q23) ok_q23 rfl ⟨Nat.le_of_ble_eq_true rfl, Nat.le_of_ble_eq_true rfl⟩ hl.1 rfl (Nat.le_of_ble_eq_true rfl) dX10_cell_79 (Nat.zero_le _) (Nat.zero_le _) (fun H locs hR hS hE27 => ?_)
          have ok_this := hE27 _ _ ok_this
          have ok_q1 := hE27 _ _ ok_q1
          have ok_q7 := hE27 _ _ ok_q7
          have ok_q23 := hE27 _ _ ok_q23
          have hE := hE.tr hE27
          exact r_iret hC hR hS hE hf dX10_cell_82
        · replace hf := if_f hf hc2
          by_cases hc3 : a2 = (3 : Int32)
          · replace hf := if_t hf hc3
            rw [hc3]
            refine lv_tableIn (tgt := 83) hx hb dX10_cell_24 (by decide) (by decide) rfl (by decide) ?_
            refine lv_aload_n hx hb dX10_cell_83 rfl (lv_at hl 1 rfl) ?_
            obtain ⟨q29, hq30, ok_q29, hf⟩ := gR_of hf
            refine gf_RX10_78 hC hR ok_this hq30 dX10_cell_84 ?_
            obtain ⟨q31, hq32, ok_q31, hf⟩ := gR_of hf
            refine gf_RX10_200 hC hR ok_q29 hq32 dX10_cell_87 ?_
            refine lv_iload_n hx hb dX10_cell_90 rfl (lv_at hl 2 rfl) ?_
            obtain ⟨hi33, hf⟩ := ck_of hf
            refine r_iald hC hR ok_q31 hi33 dX10_cell_91 ?_
            exact r_iret hC hR hS hE hf dX10_cell_92
          · replace hf := if_f hf hc3
            by_cases hc4 : a2 = (4 : Int32)
            · replace hf := if_t hf hc4
              rw [hc4]
              refine lv_tableIn (tgt := 93) hx hb dX10_cell_24 (by decide) (by decide) rfl (by decide) ?_
              refine lv_aload_n hx hb dX10_cell_93 rfl (lv_at hl 1 rfl) ?_
              obtain ⟨q34, hq35, ok_q34, hf⟩ := gR_of hf
              refine gf_RX10_78 hC hR ok_this hq35 dX10_cell_94 ?_
              refine gf_RX10_105 hC hR ok_q34 dX10_cell_97 ?_
              refine lv_iload_n hx hb dX10_cell_100 rfl (lv_at hl 2 rfl) ?_
              refine lv_lushr (v := (lush (mJ S9 q34 9) a1)) hx hb dX10_cell_101 rfl ?_
              refine lv_lconst (v := 1) hx hb dX10_cell_102 (by decide) ?_
              refine lv_land hx hb dX10_cell_103 ?_
              refine lv_lconst (v := 0) hx hb dX10_cell_104 (by decide) ?_
              refine W.lcmp hx hb dX10_cell_105 ?_
              refine lv_if_eq (tgt := 113) hx hb dX10_cell_106 (by decide) (fun hc => ?_) (fun hc => ?_)
              · replace hf := if_t hf hc
                refine lv_iconst (v := 0) hx hb dX10_cell_113 (by decide) ?_
                exact r_iret hC hR hS hE hf dX10_cell_114
              · replace hf := if_f hf hc
                refine lv_iconst (v := 1) hx hb dX10_cell_109 (by decide) ?_
                refine lv_goto (tgt := 114) hx hb dX10_cell_110 (by decide) ?_
                exact r_iret hC hR hS hE hf dX10_cell_114
            · replace hf := if_f hf hc4
              refine lv_tableOut (tgt := 115) hx hb dX10_cell_24 (by have := ne_toInt hc0 (z := 0) (by decide); have := ne_toInt hc1 (z := 1) (by decide); have := ne_toInt hc2 (z := 2) (by decide); have := ne_toInt hc3 (z := 3) (by decide); have := ne_toInt hc4 (z := 4) (by decide); omega) (by decide) ?_
              refine lv_bipush (v := -10) hx hb dX10_cell_115 (by decide) ?_
              exact r_iret hC hR hS hE hf dX10_cell_117
  · replace hf := if_t hf hc
    refine lv_bipush (v := -10) hx hb dX10_cell_11 (by decide) ?_
    exact r_iret hC hR hS hE hf dX10_cell_13
abbrev rX10_farmer : Room := { frames := 3, cells := 0, slots := 0, locals := 74 }
def f_X10_farmer (n : Nat) (this : Nat) (a1 : Int32) (a2 : Int32) (S : MS) : Option (Int32 × MS) :=
  cl (f_X10_isFarmer n a1 S) fun x4 S1 => (if x4 = 0 then some ((-10 : Int32), S1) else gR S1 (mR S1 this 1) 3 fun q5 => cl (f_X3_fieldHad n q5 a1 S1) fun x10 S7 => (if a2 = (0 : Int32) then gR S7 (mR S7 this 1) 3 fun q11 => cl (f_X3_share n q11 x10 S7) fun x16 S13 => some (x16, S13) else (if a2 = (1 : Int32) then (if (lg_cmp x10 (0 : Int64)) = 0 then some ((0 : Int32), S7) else gR S7 (mR S7 this 0) 1 fun q17 => (if (lg_cmp (x10 &&& (mJ S7 q17 4)) (0 : Int64)) = 0 then some ((1 : Int32), S7) else some ((0 : Int32), S7))) else (if a2 = (2 : Int32) then gR S7 (mR S7 this 1) 3 fun q19 => cl (f_X3_gates n q19 x10 S7) fun x24 S21 => some (x24, S21) else (if a2 = (3 : Int32) then gR S7 (mR S7 this 1) 3 fun q25 => gR S7 (mR S7 q25 5) 12 fun q27 => ck (inb a1 (mN S7 q27)) (some ((mI S7 q27 a1.toNatClampNeg), S7)) else (if a2 = (4 : Int32) then gR S7 (mR S7 this 1) 3 fun q30 => cl (f_J13_bitCount_95d88 n (x10 &&& (mJ S7 q30 9)) S7) fun x35 S32 => some (x35, S32) else (if a2 = (5 : Int32) then gR S7 (mR S7 this 1) 3 fun q36 => gR S7 (mR S7 q36 4) 12 fun q38 => ck (inb a1 (mN S7 q38)) (some ((mI S7 q38 a1.toNatClampNeg), S7)) else some ((-10 : Int32), S7))))))))
set_option maxRecDepth 100000 in
set_option maxHeartbeats 4000000 in
theorem c_X10_farmer (l : Launch) (G : Gx) (n : Nat) (this : Nat) (a1 : Int32) (a2 : Int32) (S : MS) (ro : Int32) (So : MS) (hf : f_X10_farmer n this a1 a2 S = some (ro, So)) (ok_this : Ok S this 10) : Cn G l yX10_farmer cX10_farmer 5 (some .int) rX10_farmer [.ref this, .int a1, .int a2] S (some (.int ro)) So := by
  refine Cn.of (by decide) (Nat.le_of_ble_eq_true rfl) ?_
  intro p e s m args below meth c hC hname hR ls hl
  have hC : Cx G RX10 cX10_farmer 5 (some .int) p s m args meth c := hC
  have hl : lv_has ls 5 [(0, .ref this), (1, .int a1), (2, .int a2)] := hl
  have hx := hC.x
  have hb := hC.b
  have hS : va_S (gA G) s.heap s.heap [] := va_S.rf
  have hE : Ex S S := Ex.rf S
  unfold f_X10_farmer at hf
  refine lv_iload_n hx hb dX10_farmer_0 rfl (lv_at hl 1 rfl) ?_
  obtain ⟨x4, S1, hc2, hf⟩ := cl_of hf
  refine cl_RX10_203 (As := [.int a1]) (rest := []) hC hR hS (c_X10_isFarmer l G n a1 S x4 S1 hc2 ) rfl ⟨Nat.le_of_ble_eq_true rfl, Nat.le_of_ble_eq_true rfl⟩ hl.1 rfl (Nat.le_of_ble_eq_true rfl) dX10_farmer_1 (Nat.zero_le _) (Nat.zero_le _) (fun H locs hR hS hE3 => ?_)
  have ok_this := hE3 _ _ ok_this
  have hE := hE.tr hE3
  refine lv_if_ne (tgt := 10) hx hb dX10_farmer_4 (by decide) (fun hc => ?_) (fun hc => ?_)
  · replace hf := if_f hf hc
    refine lv_aload_n hx hb dX10_farmer_10 rfl (lv_at hl 0 rfl) ?_
    obtain ⟨q5, hq6, ok_q5, hf⟩ := gR_of hf
    refine gf_RX10_78 hC hR ok_this hq6 dX10_farmer_11 ?_
    refine lv_iload_n hx hb dX10_farmer_14 rfl (lv_at hl 1 rfl) ?_
    obtain ⟨x10, S7, hc8, hf⟩ := cl_of hf
    refine cl_RX10_206 (As := [.int a1]) (rest := []) hC hR hS (c_X3_fieldHad l G n q5 a1 S1 x10 S7 hc8 ok_q5) ok_q5 rfl ⟨Nat.le_of_ble_eq_true rfl, Nat.le_of_ble_eq_true rfl⟩ hl.1 rfl (Nat.le_of_ble_eq_true rfl) dX10_farmer_15 (Nat.zero_le _) (Nat.zero_le _) (fun H locs hR hS hE9 => ?_)
    have ok_this := hE9 _ _ ok_this
    have ok_q5 := hE9 _ _ ok_q5
    have hE := hE.tr hE9
    refine lv_lstore_n (lv' := [(3, .long x10), (0, .ref this), (1, .int a1), (2, .int a2)]) hx hb dX10_farmer_18 rfl hl (by decide) rfl (fun ls hl => ?_)
    refine lv_iload_n hx hb dX10_farmer_19 rfl (lv_at hl 3 rfl) ?_
    by_cases hc0 : a2 = (0 : Int32)
    · replace hf := if_t hf hc0
      rw [hc0]
      refine lv_tableIn (tgt := 60) hx hb dX10_farmer_20 (by decide) (by decide) rfl (by decide) ?_
      refine lv_aload_n hx hb dX10_farmer_60 rfl (lv_at hl 1 rfl) ?_
      obtain ⟨q11, hq12, ok_q11, hf⟩ := gR_of hf
      refine gf_RX10_78 hC hR ok_this hq12 dX10_farmer_61 ?_
      refine lv_lload_n hx hb dX10_farmer_64 rfl (lv_at hl 0 rfl) ?_
      obtain ⟨x16, S13, hc14, hf⟩ := cl_of hf
      refine cl_RX10_209 (As := [.long x10]) (rest := []) hC hR hS (c_X3_share l G n q11 x10 S7 x16 S13 hc14 ok_q11) ok_q11 rfl ⟨Nat.le_of_ble_eq_true rfl, Nat.le_of_ble_eq_true rfl⟩ hl.1 rfl (Nat.le_of_ble_eq_true rfl) dX10_farmer_65 (Nat.zero_le _) (Nat.zero_le _) (fun H locs hR hS hE15 => ?_)
      have ok_this := hE15 _ _ ok_this
      have ok_q5 := hE15 _ _ ok_q5
      have ok_q11 := hE15 _ _ ok_q11
      have hE := hE.tr hE15
      exact r_iret hC hR hS hE hf dX10_farmer_68
    · replace hf := if_f hf hc0
      by_cases hc1 : a2 = (1 : Int32)
      · replace hf := if_t hf hc1
        rw [hc1]
        refine lv_tableIn (tgt := 69) hx hb dX10_farmer_20 (by decide) (by decide) rfl (by decide) ?_
        refine lv_lload_n hx hb dX10_farmer_69 rfl (lv_at hl 0 rfl) ?_
        refine lv_lconst (v := 0) hx hb dX10_farmer_70 (by decide) ?_
        refine W.lcmp hx hb dX10_farmer_71 ?_
        refine lv_if_eq (tgt := 93) hx hb dX10_farmer_72 (by decide) (fun hc => ?_) (fun hc => ?_)
        · replace hf := if_t hf hc
          refine lv_iconst (v := 0) hx hb dX10_farmer_93 (by decide) ?_
          exact r_iret hC hR hS hE hf dX10_farmer_94
        · replace hf := if_f hf hc
          refine lv_lload_n hx hb dX10_farmer_75 rfl (lv_at hl 0 rfl) ?_
          refine lv_aload_n hx hb dX10_farmer_76 rfl (lv_at hl 1 rfl) ?_
          obtain ⟨q17, hq18, ok_q17, hf⟩ := gR_of hf
          refine gf_RX10_69 hC hR ok_this hq18 dX10_farmer_77 ?_
          refine gf_RX10_212 hC hR ok_q17 dX10_farmer_80 ?_
          refine lv_land hx hb dX10_farmer_83 ?_
          refine lv_lconst (v := 0) hx hb dX10_farmer_84 (by decide) ?_
          refine W.lcmp hx hb dX10_farmer_85 ?_
          refine lv_if_ne (tgt := 93) hx hb dX10_farmer_86 (by decide) (fun hc => ?_) (fun hc => ?_)
          · replace hf := if_f hf hc
            refine lv_iconst (v := 0) hx hb dX10_farmer_93 (by decide) ?_
            exact r_iret hC hR hS hE hf dX10_farmer_94
          · replace hf := if_t hf hc
            refine lv_iconst (v := 1) hx hb dX10_farmer_89 (by decide) ?_
            refine lv_goto (tgt := 94) hx hb dX10_farmer_90 (by decide) ?_
            exact r_iret hC hR hS hE hf dX10_farmer_94
      · replace hf := if_f hf hc1
        by_cases hc2 : a2 = (2 : Int32)
        · replace hf := if_t hf hc2
          rw [hc2]
          refine lv_tableIn (tgt := 95) hx hb dX10_farmer_20 (by decide) (by decide) rfl (by decide) ?_
          refine lv_aload_n hx hb dX10_farmer_95 rfl (lv_at hl 1 rfl) ?_
          obtain ⟨q19, hq20, ok_q19, hf⟩ := gR_of hf
          refine gf_RX10_78 hC hR ok_this hq20 dX10_farmer_96 ?_
          refine lv_lload_n hx hb dX10_farmer_99 rfl (lv_at hl 0 rfl) ?_
          obtain ⟨x24, S21, hc22, hf⟩ := cl_of hf
          refine cl_RX10_215 (As := [.long x10]) (rest := []) hC hR hS (c_X3_gates l G n q19 x10 S7 x24 S21 hc22 ok_q19) ok_q19 rfl ⟨Nat.le_of_ble_eq_true rfl, Nat.le_of_ble_eq_true rfl⟩ hl.1 rfl (Nat.le_of_ble_eq_true rfl) dX10_farmer_100 (Nat.zero_le _) (Nat.zero_le _) (fun H locs hR hS hE23 => ?_)
          have ok_this := hE23 _ _ ok_this
          have ok_q5 := hE23 _ _ ok_q5
          have ok_q19 := hE23 _ _ ok_q19
          have hE := hE.tr hE23
          exact r_iret hC hR hS hE hf dX10_farmer_103
        · replace hf := if_f hf hc2
          by_cases hc3 : a2 = (3 : Int32)
          · replace hf := if_t hf hc3
            rw [hc3]
            refine lv_tableIn (tgt := 104) hx hb dX10_farmer_20 (by decide) (by decide) rfl (by decide) ?_
            refine lv_aload_n hx hb dX10_farmer_104 rfl (lv_at hl 1 rfl) ?_
            obtain ⟨q25, hq26, ok_q25, hf⟩ := gR_of hf
            refine gf_RX10_78 hC hR ok_this hq26 dX10_farmer_105 ?_
            obtain ⟨q27, hq28, ok_q27, hf⟩ := gR_of hf
            refine gf_RX10_218 hC hR ok_q25 hq28 dX10_farmer_108 ?_
            refine lv_iload_n hx hb dX10_farmer_111 rfl (lv_at hl 2 rfl) ?_
            obtain ⟨hi29, hf⟩ := ck_of hf
            refine r_iald hC hR ok_q27 hi29 dX10_farmer_112 ?_
            exact r_iret hC hR hS hE hf dX10_farmer_113
          · replace hf := if_f hf hc3
            by_cases hc4 : a2 = (4 : Int32)
            · replace hf := if_t hf hc4
              rw [hc4]
              refine lv_tableIn (tgt := 114) hx hb dX10_farmer_20 (by decide) (by decide) rfl (by decide) ?_
              refine lv_lload_n hx hb dX10_farmer_114 rfl (lv_at hl 0 rfl) ?_
              refine lv_aload_n hx hb dX10_farmer_115 rfl (lv_at hl 1 rfl) ?_
              obtain ⟨q30, hq31, ok_q30, hf⟩ := gR_of hf
              refine gf_RX10_78 hC hR ok_this hq31 dX10_farmer_116 ?_
              refine gf_RX10_105 hC hR ok_q30 dX10_farmer_119 ?_
              refine lv_land hx hb dX10_farmer_122 ?_
              obtain ⟨x35, S32, hc33, hf⟩ := cl_of hf
              refine cl_RX10_192 (As := [.long (x10 &&& (mJ S7 q30 9))]) (rest := []) hC hR hS (c_J13_bitCount_95d88 l G n (x10 &&& (mJ S7 q30 9)) S7 x35 S32 hc33 ) rfl ⟨Nat.le_of_ble_eq_true rfl, Nat.le_of_ble_eq_true rfl⟩ hl.1 rfl (Nat.le_of_ble_eq_true rfl) dX10_farmer_123 (Nat.zero_le _) (Nat.zero_le _) (fun H locs hR hS hE34 => ?_)
              have ok_this := hE34 _ _ ok_this
              have ok_q5 := hE34 _ _ ok_q5
              have ok_q30 := hE34 _ _ ok_q30
              have hE := hE.tr hE34
              exact r_iret hC hR hS hE hf dX10_farmer_126
            · replace hf := if_f hf hc4
              by_cases hc5 : a2 = (5 : Int32)
              · replace hf := if_t hf hc5
                rw [hc5]
                refine lv_tableIn (tgt := 127) hx hb dX10_farmer_20 (by decide) (by decide) rfl (by decide) ?_
                refine lv_aload_n hx hb dX10_farmer_127 rfl (lv_at hl 1 rfl) ?_
                obtain ⟨q36, hq37, ok_q36, hf⟩ := gR_of hf
                refine gf_RX10_78 hC hR ok_this hq37 dX10_farmer_128 ?_
                obtain ⟨q38, hq39, ok_q38, hf⟩ := gR_of hf
                refine gf_RX10_221 hC hR ok_q36 hq39 dX10_farmer_131 ?_
                refine lv_iload_n hx hb dX10_farmer_134 rfl (lv_at hl 2 rfl) ?_
                obtain ⟨hi40, hf⟩ := ck_of hf
                refine r_iald hC hR ok_q38 hi40 dX10_farmer_135 ?_
                exact r_iret hC hR hS hE hf dX10_farmer_136
              · replace hf := if_f hf hc5
                refine lv_tableOut (tgt := 137) hx hb dX10_farmer_20 (by have := ne_toInt hc0 (z := 0) (by decide); have := ne_toInt hc1 (z := 1) (by decide); have := ne_toInt hc2 (z := 2) (by decide); have := ne_toInt hc3 (z := 3) (by decide); have := ne_toInt hc4 (z := 4) (by decide); have := ne_toInt hc5 (z := 5) (by decide); omega) (by decide) ?_
                refine lv_bipush (v := -10) hx hb dX10_farmer_137 (by decide) ?_
                exact r_iret hC hR hS hE hf dX10_farmer_139
  · replace hf := if_t hf hc
    refine lv_bipush (v := -10) hx hb dX10_farmer_7 (by decide) ?_
    exact r_iret hC hR hS hE hf dX10_farmer_9
abbrev rX10_hour : Room := { frames := 5, cells := 0, slots := 0, locals := 139 }
def f_X10_hour (n : Nat) (this : Nat) (a1 : Int32) (S : MS) : Option (Int32 × MS) :=
  gR S (mR S this 3) 8 fun q1 => cl (f_X8_isWind n q1 a1 S) fun x6 S3 => (if x6 = 0 then some ((-1 : Int32), S3) else gR S3 (mR S3 this 1) 3 fun q7 => (if (mI S3 q7 8) < (999 : Int32) then gR S3 (mR S3 this 9) 9 fun q9 => gR S3 (mR S3 this 1) 3 fun q11 => cl (f_X9_blow n q9 q11 a1 S3) fun x16 S13 => some (x16, S13) else some ((-1 : Int32), S3)))
set_option maxRecDepth 100000 in
set_option maxHeartbeats 4000000 in
theorem c_X10_hour (l : Launch) (G : Gx) (n : Nat) (this : Nat) (a1 : Int32) (S : MS) (ro : Int32) (So : MS) (hf : f_X10_hour n this a1 S = some (ro, So)) (ok_this : Ok S this 10) : Cn G l yX10_hour cX10_hour 2 (some .int) rX10_hour [.ref this, .int a1] S (some (.int ro)) So := by
  refine Cn.of (by decide) (Nat.le_of_ble_eq_true rfl) ?_
  intro p e s m args below meth c hC hname hR ls hl
  have hC : Cx G RX10 cX10_hour 2 (some .int) p s m args meth c := hC
  have hl : lv_has ls 2 [(0, .ref this), (1, .int a1)] := hl
  have hx := hC.x
  have hb := hC.b
  have hS : va_S (gA G) s.heap s.heap [] := va_S.rf
  have hE : Ex S S := Ex.rf S
  unfold f_X10_hour at hf
  refine lv_aload_n hx hb dX10_hour_0 rfl (lv_at hl 0 rfl) ?_
  obtain ⟨q1, hq2, ok_q1, hf⟩ := gR_of hf
  refine gf_RX10_10 hC hR ok_this hq2 dX10_hour_1 ?_
  refine lv_iload_n hx hb dX10_hour_4 rfl (lv_at hl 1 rfl) ?_
  obtain ⟨x6, S3, hc4, hf⟩ := cl_of hf
  refine cl_RX10_115 (As := [.int a1]) (rest := []) hC hR hS (c_X8_isWind l G n q1 a1 S x6 S3 hc4 ok_q1) ok_q1 rfl ⟨Nat.le_of_ble_eq_true rfl, Nat.le_of_ble_eq_true rfl⟩ hl.1 rfl (Nat.le_of_ble_eq_true rfl) dX10_hour_5 (Nat.zero_le _) (Nat.zero_le _) (fun H locs hR hS hE5 => ?_)
  have ok_this := hE5 _ _ ok_this
  have ok_q1 := hE5 _ _ ok_q1
  have hE := hE.tr hE5
  refine lv_if_eq (tgt := 24) hx hb dX10_hour_8 (by decide) (fun hc => ?_) (fun hc => ?_)
  · replace hf := if_t hf hc
    refine lv_iconst (v := -1) hx hb dX10_hour_24 (by decide) ?_
    exact r_iret hC hR hS hE hf dX10_hour_25
  · replace hf := if_f hf hc
    refine lv_aload_n hx hb dX10_hour_11 rfl (lv_at hl 0 rfl) ?_
    obtain ⟨q7, hq8, ok_q7, hf⟩ := gR_of hf
    refine gf_RX10_78 hC hR ok_this hq8 dX10_hour_12 ?_
    refine gf_RX10_224 hC hR ok_q7 dX10_hour_15 ?_
    refine lv_sipush (v := 999) hx hb dX10_hour_18 (by decide) ?_
    refine lv_icmp_lt (tgt := 26) hx hb dX10_hour_21 (by decide) (fun hc => ?_) (fun hc => ?_)
    · replace hf := if_t hf hc
      refine lv_aload_n hx hb dX10_hour_26 rfl (lv_at hl 0 rfl) ?_
      obtain ⟨q9, hq10, ok_q9, hf⟩ := gR_of hf
      refine gf_RX10_51 hC hR ok_this hq10 dX10_hour_27 ?_
      refine lv_aload_n hx hb dX10_hour_30 rfl (lv_at hl 0 rfl) ?_
      obtain ⟨q11, hq12, ok_q11, hf⟩ := gR_of hf
      refine gf_RX10_78 hC hR ok_this hq12 dX10_hour_31 ?_
      refine lv_iload_n hx hb dX10_hour_34 rfl (lv_at hl 1 rfl) ?_
      obtain ⟨x16, S13, hc14, hf⟩ := cl_of hf
      refine cl_RX10_227 (As := [.ref q11, .int a1]) (rest := []) hC hR hS (c_X9_blow l G n q9 q11 a1 S3 x16 S13 hc14 ok_q9 ok_q11) ok_q9 rfl ⟨Nat.le_of_ble_eq_true rfl, Nat.le_of_ble_eq_true rfl⟩ hl.1 rfl (Nat.le_of_ble_eq_true rfl) dX10_hour_35 (Nat.zero_le _) (Nat.zero_le _) (fun H locs hR hS hE15 => ?_)
      have ok_this := hE15 _ _ ok_this
      have ok_q1 := hE15 _ _ ok_q1
      have ok_q7 := hE15 _ _ ok_q7
      have ok_q9 := hE15 _ _ ok_q9
      have ok_q11 := hE15 _ _ ok_q11
      have hE := hE.tr hE15
      exact r_iret hC hR hS hE hf dX10_hour_38
    · replace hf := if_f hf hc
      refine lv_iconst (v := -1) hx hb dX10_hour_24 (by decide) ?_
      exact r_iret hC hR hS hE hf dX10_hour_25
abbrev rX10_sow : Room := { frames := 3, cells := 0, slots := 0, locals := 74 }
def f_X10_sow (n : Nat) (this : Nat) (a1 : Int32) (a2 : Int32) (S : MS) : Option (Int32 × MS) :=
  cl (f_X10_isFarmer n a1 S) fun x4 S1 => (if x4 = 0 then zb (0 : Int32) (some ((0 : Int32), S1)) else gR S1 (mR S1 this 0) 1 fun q5 => cl (f_X1_holds n q5 a2 S1) fun x10 S7 => (if x10 = 0 then zb (0 : Int32) (some ((0 : Int32), S7)) else gR S7 (mR S7 this 1) 3 fun q11 => cl (f_X3_fieldHad n q11 a1 S7) fun x16 S13 => (if (lg_cmp ((lush x16 a2) &&& (1 : Int64)) (0 : Int64)) = 0 then zb (0 : Int32) (some ((0 : Int32), S13)) else gR S13 (mR S13 this 1) 3 fun q17 => gR S13 (mR S13 q17 6) 12 fun q19 => gR S13 (mR S13 this 1) 3 fun q21 => ck (inb a2 (mN S13 q19)) (bd (sI S13 q19 a2.toNatClampNeg (mI S13 q21 8)) fun S24 => zb (1 : Int32) (some ((1 : Int32), S24))))))
set_option maxRecDepth 100000 in
set_option maxHeartbeats 4000000 in
theorem c_X10_sow (l : Launch) (G : Gx) (n : Nat) (this : Nat) (a1 : Int32) (a2 : Int32) (S : MS) (ro : Int32) (So : MS) (hf : f_X10_sow n this a1 a2 S = some (ro, So)) (ok_this : Ok S this 10) : Cn G l yX10_sow cX10_sow 3 (some .boolean) rX10_sow [.ref this, .int a1, .int a2] S (some (.int ro)) So := by
  refine Cn.of (by decide) (Nat.le_of_ble_eq_true rfl) ?_
  intro p e s m args below meth c hC hname hR ls hl
  have hC : Cx G RX10 cX10_sow 3 (some .boolean) p s m args meth c := hC
  have hl : lv_has ls 3 [(0, .ref this), (1, .int a1), (2, .int a2)] := hl
  have hx := hC.x
  have hb := hC.b
  have hS : va_S (gA G) s.heap s.heap [] := va_S.rf
  have hE : Ex S S := Ex.rf S
  unfold f_X10_sow at hf
  refine lv_iload_n hx hb dX10_sow_0 rfl (lv_at hl 1 rfl) ?_
  obtain ⟨x4, S1, hc2, hf⟩ := cl_of hf
  refine cl_RX10_203 (As := [.int a1]) (rest := []) hC hR hS (c_X10_isFarmer l G n a1 S x4 S1 hc2 ) rfl ⟨Nat.le_of_ble_eq_true rfl, Nat.le_of_ble_eq_true rfl⟩ hl.1 rfl (Nat.le_of_ble_eq_true rfl) dX10_sow_1 (Nat.zero_le _) (Nat.zero_le _) (fun H locs hR hS hE3 => ?_)
  have ok_this := hE3 _ _ ok_this
  have hE := hE.tr hE3
  refine lv_if_eq (tgt := 18) hx hb dX10_sow_4 (by decide) (fun hc => ?_) (fun hc => ?_)
  · replace hf := if_t hf hc
    refine lv_iconst (v := 0) hx hb dX10_sow_18 (by decide) ?_
    exact r_zret hC hR hS hE hf dX10_sow_19
  · replace hf := if_f hf hc
    refine lv_aload_n hx hb dX10_sow_7 rfl (lv_at hl 0 rfl) ?_
    obtain ⟨q5, hq6, ok_q5, hf⟩ := gR_of hf
    refine gf_RX10_69 hC hR ok_this hq6 dX10_sow_8 ?_
    refine lv_iload_n hx hb dX10_sow_11 rfl (lv_at hl 2 rfl) ?_
    obtain ⟨x10, S7, hc8, hf⟩ := cl_of hf
    refine cl_RX10_101 (As := [.int a2]) (rest := []) hC hR hS (c_X1_holds l G n q5 a2 S1 x10 S7 hc8 ok_q5) ok_q5 rfl ⟨Nat.le_of_ble_eq_true rfl, Nat.le_of_ble_eq_true rfl⟩ hl.1 rfl (Nat.le_of_ble_eq_true rfl) dX10_sow_12 (Nat.zero_le _) (Nat.zero_le _) (fun H locs hR hS hE9 => ?_)
    have ok_this := hE9 _ _ ok_this
    have ok_q5 := hE9 _ _ ok_q5
    have hE := hE.tr hE9
    refine lv_if_ne (tgt := 20) hx hb dX10_sow_15 (by decide) (fun hc => ?_) (fun hc => ?_)
    · replace hf := if_f hf hc
      refine lv_aload_n hx hb dX10_sow_20 rfl (lv_at hl 0 rfl) ?_
      obtain ⟨q11, hq12, ok_q11, hf⟩ := gR_of hf
      refine gf_RX10_78 hC hR ok_this hq12 dX10_sow_21 ?_
      refine lv_iload_n hx hb dX10_sow_24 rfl (lv_at hl 1 rfl) ?_
      obtain ⟨x16, S13, hc14, hf⟩ := cl_of hf
      refine cl_RX10_206 (As := [.int a1]) (rest := []) hC hR hS (c_X3_fieldHad l G n q11 a1 S7 x16 S13 hc14 ok_q11) ok_q11 rfl ⟨Nat.le_of_ble_eq_true rfl, Nat.le_of_ble_eq_true rfl⟩ hl.1 rfl (Nat.le_of_ble_eq_true rfl) dX10_sow_25 (Nat.zero_le _) (Nat.zero_le _) (fun H locs hR hS hE15 => ?_)
      have ok_this := hE15 _ _ ok_this
      have ok_q5 := hE15 _ _ ok_q5
      have ok_q11 := hE15 _ _ ok_q11
      have hE := hE.tr hE15
      refine lv_iload_n hx hb dX10_sow_28 rfl (lv_at hl 2 rfl) ?_
      refine lv_lushr (v := (lush x16 a2)) hx hb dX10_sow_29 rfl ?_
      refine lv_lconst (v := 1) hx hb dX10_sow_30 (by decide) ?_
      refine lv_land hx hb dX10_sow_31 ?_
      refine lv_lconst (v := 0) hx hb dX10_sow_32 (by decide) ?_
      refine W.lcmp hx hb dX10_sow_33 ?_
      refine lv_if_ne (tgt := 39) hx hb dX10_sow_34 (by decide) (fun hc => ?_) (fun hc => ?_)
      · replace hf := if_f hf hc
        refine lv_aload_n hx hb dX10_sow_39 rfl (lv_at hl 0 rfl) ?_
        obtain ⟨q17, hq18, ok_q17, hf⟩ := gR_of hf
        refine gf_RX10_78 hC hR ok_this hq18 dX10_sow_40 ?_
        obtain ⟨q19, hq20, ok_q19, hf⟩ := gR_of hf
        refine gf_RX10_200 hC hR ok_q17 hq20 dX10_sow_43 ?_
        refine lv_iload_n hx hb dX10_sow_46 rfl (lv_at hl 2 rfl) ?_
        refine lv_aload_n hx hb dX10_sow_47 rfl (lv_at hl 0 rfl) ?_
        obtain ⟨q21, hq22, ok_q21, hf⟩ := gR_of hf
        refine gf_RX10_78 hC hR ok_this hq22 dX10_sow_48 ?_
        refine gf_RX10_224 hC hR ok_q21 dX10_sow_51 ?_
        obtain ⟨hi23, hf⟩ := ck_of hf
        refine rB_iast hC hR hS ok_q19 hi23 dX10_sow_54 hf (fun S24 H locs hf hR hS hE25 => ?_)
        have ok_this := hE25 _ _ ok_this
        have ok_q5 := hE25 _ _ ok_q5
        have ok_q11 := hE25 _ _ ok_q11
        have ok_q17 := hE25 _ _ ok_q17
        have ok_q19 := hE25 _ _ ok_q19
        have ok_q21 := hE25 _ _ ok_q21
        have hE := hE.tr hE25
        refine lv_iconst (v := 1) hx hb dX10_sow_55 (by decide) ?_
        exact r_zret hC hR hS hE hf dX10_sow_56
      · replace hf := if_t hf hc
        refine lv_iconst (v := 0) hx hb dX10_sow_37 (by decide) ?_
        exact r_zret hC hR hS hE hf dX10_sow_38
    · replace hf := if_t hf hc
      refine lv_iconst (v := 0) hx hb dX10_sow_18 (by decide) ?_
      exact r_zret hC hR hS hE hf dX10_sow_19
abbrev rX10_reap : Room := { frames := 4, cells := 0, slots := 0, locals := 105 }
def f_X10_reap_L49 (n : Nat) (this : Nat) (x7 : Int64) : Nat → Int32 → Int32 → MS → Option (Int32 × MS)
  | 0, _, _, _ => none
  | k + 1, x21, x22, S23 => jn (f_X10_reap_L49 n this x7 k) fun rec49_20 => gR S23 (mR S23 this 0) 1 fun q24 => (if (mI S23 q24 2) ≤ x22 then some (x21, S23) else jn (fun (x28 : Int32) (S29 : MS) => bd (x22 + (1 : Int32)) fun x30 => rec49_20 x28 x30 S29) fun j123_27 => (if (lg_cmp ((lush x7 x22) &&& (1 : Int64)) (0 : Int64)) = 0 then j123_27 x21 S23 else gR S23 (mR S23 this 1) 3 fun q31 => gR S23 (mR S23 q31 6) 12 fun q33 => ck (inb x22 (mN S23 q33)) ((if (mI S23 q33 x22.toNatClampNeg) = (-1 : Int32) then j123_27 x21 S23 else gR S23 (mR S23 this 8) 5 fun q36 => gR S23 (mR S23 this 1) 3 fun q38 => gR S23 (mR S23 this 9) 9 fun q40 => cl (f_X9_law n q40 S23) fun q45 S42 => gN S42 q45 7 fun q45 => cl (f_X5_harvest n q36 q38 x22 x7 q45 S42) fun x49 S46 => bd (x21 + x49) fun x50 => gR S46 (mR S46 this 1) 3 fun q51 => gR S46 (mR S46 q51 6) 12 fun q53 => ck (inb x22 (mN S46 q53)) (bd (sI S46 q53 x22.toNatClampNeg (-1 : Int32)) fun S56 => j123_27 x50 S56)))))
def f_X10_reap (n : Nat) (this : Nat) (a1 : Int32) (S : MS) : Option (Int32 × MS) :=
  cl (f_X10_isFarmer n a1 S) fun x4 S1 => jn (fun (x7 : Int64) (S8 : MS) => (if (lg_cmp x7 (0 : Int64)) = 0 then some ((-1 : Int32), S8) else gR S8 (mR S8 this 1) 3 fun q9 => cl (f_X3_holders n q9 x7 S8) fun x14 S11 => cl (f_J6_bitCount_0f7a4 n x14 S11) fun x18 S15 => (if x18 ≤ (1 : Int32) then f_X10_reap_L49 n this x7 n (0 : Int32) (0 : Int32) S15 else some ((-1 : Int32), S15)))) fun j19_6 => (if x4 = 0 then j19_6 (0 : Int64) S1 else gR S1 (mR S1 this 1) 3 fun q61 => cl (f_X3_fieldHad n q61 a1 S1) fun x66 S63 => j19_6 x66 S63)
set_option maxRecDepth 100000 in
set_option maxHeartbeats 4000000 in
theorem c_X10_reap (l : Launch) (G : Gx) (n : Nat) (this : Nat) (a1 : Int32) (S : MS) (ro : Int32) (So : MS) (hf : f_X10_reap n this a1 S = some (ro, So)) (ok_this : Ok S this 10) : Cn G l yX10_reap cX10_reap 6 (some .int) rX10_reap [.ref this, .int a1] S (some (.int ro)) So := by
  refine Cn.of (by decide) (Nat.le_of_ble_eq_true rfl) ?_
  intro p e s m args below meth c hC hname hR ls hl
  have hC : Cx G RX10 cX10_reap 6 (some .int) p s m args meth c := hC
  have hl : lv_has ls 6 [(0, .ref this), (1, .int a1)] := hl
  have hx := hC.x
  have hb := hC.b
  have hS : va_S (gA G) s.heap s.heap [] := va_S.rf
  have hE : Ex S S := Ex.rf S
  unfold f_X10_reap at hf
  refine lv_iload_n hx hb dX10_reap_0 rfl (lv_at hl 1 rfl) ?_
  obtain ⟨x4, S1, hc2, hf⟩ := cl_of hf
  refine cl_RX10_203 (As := [.int a1]) (rest := []) hC hR hS (c_X10_isFarmer l G n a1 S x4 S1 hc2 ) rfl ⟨Nat.le_of_ble_eq_true rfl, Nat.le_of_ble_eq_true rfl⟩ hl.1 rfl (Nat.le_of_ble_eq_true rfl) dX10_reap_1 (Nat.zero_le _) (Nat.zero_le _) (fun H locs hR hS hE3 => ?_)
  have ok_this := hE3 _ _ ok_this
  have hE := hE.tr hE3
  obtain ⟨j19_6, ej19_6, hf⟩ := jn_of2 hf
  have hj19_5 : ∀ (x7 : Int64) (S8 : MS) (H : Heap) (locs : List Loc) (ls : Array Slot), j19_6 x7 S8 = some (ro, So) → Rp G S8 H → va_S (gA G) s.heap H locs → Ex S S8 → Ok S8 this 10 → lv_has ls 6 [(0, .ref this)] → W p l e rX10_reap s m args below meth c H locs 0 0 (MQ below (Qn G S (some (.int ro)) So) args s 0 0 (gA G)) (F0 m 19 ls [.long x7]) := by
    intro x7 S8 H locs ls hf hR hS hE ok_this hl
    rw [ej19_6] at hf
    refine lv_lstore_n (lv' := [(2, .long x7), (0, .ref this)]) hx hb dX10_reap_19 rfl hl (by decide) rfl (fun ls hl => ?_)
    refine lv_lload_n hx hb dX10_reap_20 rfl (lv_at hl 0 rfl) ?_
    refine lv_lconst (v := 0) hx hb dX10_reap_21 (by decide) ?_
    refine W.lcmp hx hb dX10_reap_22 ?_
    refine lv_if_eq (tgt := 41) hx hb dX10_reap_23 (by decide) (fun hc => ?_) (fun hc => ?_)
    · replace hf := if_t hf hc
      refine lv_iconst (v := -1) hx hb dX10_reap_41 (by decide) ?_
      exact r_iret hC hR hS hE hf dX10_reap_42
    · replace hf := if_f hf hc
      refine lv_aload_n hx hb dX10_reap_26 rfl (lv_at hl 1 rfl) ?_
      obtain ⟨q9, hq10, ok_q9, hf⟩ := gR_of hf
      refine gf_RX10_78 hC hR ok_this hq10 dX10_reap_27 ?_
      refine lv_lload_n hx hb dX10_reap_30 rfl (lv_at hl 0 rfl) ?_
      obtain ⟨x14, S11, hc12, hf⟩ := cl_of hf
      refine cl_RX10_197 (As := [.long x7]) (rest := []) hC hR hS (c_X3_holders l G n q9 x7 S8 x14 S11 hc12 ok_q9) ok_q9 rfl ⟨Nat.le_of_ble_eq_true rfl, Nat.le_of_ble_eq_true rfl⟩ hl.1 rfl (Nat.le_of_ble_eq_true rfl) dX10_reap_31 (Nat.zero_le _) (Nat.zero_le _) (fun H locs hR hS hE13 => ?_)
      have ok_this := hE13 _ _ ok_this
      have ok_q9 := hE13 _ _ ok_q9
      have hE := hE.tr hE13
      obtain ⟨x18, S15, hc16, hf⟩ := cl_of hf
      refine cl_RX10_231 (As := [.int x14]) (rest := []) hC hR hS (c_J6_bitCount_0f7a4 l G n x14 S11 x18 S15 hc16 ) rfl ⟨Nat.le_of_ble_eq_true rfl, Nat.le_of_ble_eq_true rfl⟩ hl.1 rfl (Nat.le_of_ble_eq_true rfl) dX10_reap_34 (Nat.zero_le _) (Nat.zero_le _) (fun H locs hR hS hE17 => ?_)
      have ok_this := hE17 _ _ ok_this
      have ok_q9 := hE17 _ _ ok_q9
      have hE := hE.tr hE17
      refine lv_iconst (v := 1) hx hb dX10_reap_37 (by decide) ?_
      refine lv_icmp_le (tgt := 43) hx hb dX10_reap_38 (by decide) (fun hc => ?_) (fun hc => ?_)
      · replace hf := if_t hf hc
        refine lv_iconst (v := 0) hx hb dX10_reap_43 (by decide) ?_
        refine lv_istore (lv' := [(4, .int (0 : Int32)), (2, .long x7), (0, .ref this)]) hx hb dX10_reap_44 hl (by decide) rfl (fun ls hl => ?_)
        refine lv_iconst (v := 0) hx hb dX10_reap_46 (by decide) ?_
        refine lv_istore (lv' := [(5, .int (0 : Int32)), (4, .int (0 : Int32)), (2, .long x7), (0, .ref this)]) hx hb dX10_reap_47 hl (by decide) rfl (fun ls hl => ?_)
        have hh60 : ∀ k : Nat, ∀ (x21 : Int32) (x22 : Int32) (S23 : MS) (H : Heap) (locs : List Loc) (ls : Array Slot), f_X10_reap_L49 n this x7 k x21 x22 S23 = some (ro, So) → Rp G S23 H → va_S (gA G) s.heap H locs → Ex S S23 → Ok S23 this 10 → lv_has ls 6 [(0, .ref this), (2, .long x7), (4, .int x21), (5, .int x22)] → W p l e rX10_reap s m args below meth c H locs 0 0 (MQ below (Qn G S (some (.int ro)) So) args s 0 0 (gA G)) (F0 m 49 ls []) := by
          intro k
          induction k with
          | zero =>
            intro x21 x22 S23 H locs ls hf hR hS hE ok_this hl
            exact absurd hf (by rw [f_X10_reap_L49]; exact fun h => by cases h)
          | succ k ih =>
            intro x21 x22 S23 H locs ls hf hR hS hE ok_this hl
            rw [f_X10_reap_L49] at hf
            obtain ⟨rec49_20, erec49_20, hf⟩ := jn_of3 hf
            have hL49_19 : ∀ (x21 : Int32) (x22 : Int32) (S23 : MS) (H : Heap) (locs : List Loc) (ls : Array Slot), rec49_20 x21 x22 S23 = some (ro, So) → Rp G S23 H → va_S (gA G) s.heap H locs → Ex S S23 → Ok S23 this 10 → lv_has ls 6 [(0, .ref this), (2, .long x7), (4, .int x21), (5, .int x22)] → W p l e rX10_reap s m args below meth c H locs 0 0 (MQ below (Qn G S (some (.int ro)) So) args s 0 0 (gA G)) (F0 m 49 ls []) := by
              intro x21 x22 S23 H locs ls hf hR hS hE ok_this hl
              rw [erec49_20] at hf
              exact ih x21 x22 S23 _ _ _ hf hR hS hE ok_this hl
            refine lv_iload hx hb dX10_reap_49 (lv_at hl 3 rfl) ?_
            refine lv_aload_n hx hb dX10_reap_51 rfl (lv_at hl 0 rfl) ?_
            obtain ⟨q24, hq25, ok_q24, hf⟩ := gR_of hf
            refine gf_RX10_69 hC hR ok_this hq25 dX10_reap_52 ?_
            refine gf_RX10_236 hC hR ok_q24 dX10_reap_55 ?_
            refine lv_icmp_ge (tgt := 129) hx hb dX10_reap_58 (by decide) (fun hc => ?_) (fun hc => ?_)
            · replace hf := if_t hf hc
              refine lv_iload hx hb dX10_reap_129 (lv_at hl 2 rfl) ?_
              exact r_iret hC hR hS hE hf dX10_reap_131
            · replace hf := if_f hf hc
              refine lv_lload_n hx hb dX10_reap_61 rfl (lv_at hl 1 rfl) ?_
              refine lv_iload hx hb dX10_reap_62 (lv_at hl 3 rfl) ?_
              refine lv_lushr (v := (lush x7 x22)) hx hb dX10_reap_64 rfl ?_
              refine lv_lconst (v := 1) hx hb dX10_reap_65 (by decide) ?_
              refine lv_land hx hb dX10_reap_66 ?_
              refine lv_lconst (v := 0) hx hb dX10_reap_67 (by decide) ?_
              refine W.lcmp hx hb dX10_reap_68 ?_
              obtain ⟨j123_27, ej123_27, hf⟩ := jn_of2 hf
              have hj123_26 : ∀ (x28 : Int32) (S29 : MS) (H : Heap) (locs : List Loc) (ls : Array Slot), j123_27 x28 S29 = some (ro, So) → Rp G S29 H → va_S (gA G) s.heap H locs → Ex S S29 → Ok S29 this 10 → lv_has ls 6 [(0, .ref this), (2, .long x7), (4, .int x28), (5, .int x22)] → W p l e rX10_reap s m args below meth c H locs 0 0 (MQ below (Qn G S (some (.int ro)) So) args s 0 0 (gA G)) (F0 m 123 ls []) := by
                intro x28 S29 H locs ls hf hR hS hE ok_this hl
                rw [ej123_27] at hf
                refine r_iinc (n := 1) (z := 1) (lv' := fun x30 => [(5, .int x30), (0, .ref this), (2, .long x7), (4, .int x28)]) hx hb dX10_reap_123 hl (k := 3) rfl (by decide) (by decide) (fun _ => rfl) hf (fun x30 ls hf hl => ?_)
                refine lv_goto (tgt := 49) hx hb dX10_reap_126 (by decide) ?_
                exact hL49_19 x28 x30 S29 _ _ _ hf hR hS hE ok_this (lv_sub hl [1, 2, 3, 0] rfl)
              refine lv_if_eq (tgt := 123) hx hb dX10_reap_69 (by decide) (fun hc => ?_) (fun hc => ?_)
              · replace hf := if_t hf hc
                exact hj123_26 x21 S23 _ _ _ hf hR hS hE ok_this (lv_sub hl [0, 1, 2, 3] rfl)
              · replace hf := if_f hf hc
                refine lv_aload_n hx hb dX10_reap_72 rfl (lv_at hl 0 rfl) ?_
                obtain ⟨q31, hq32, ok_q31, hf⟩ := gR_of hf
                refine gf_RX10_78 hC hR ok_this hq32 dX10_reap_73 ?_
                obtain ⟨q33, hq34, ok_q33, hf⟩ := gR_of hf
                refine gf_RX10_200 hC hR ok_q31 hq34 dX10_reap_76 ?_
                refine lv_iload hx hb dX10_reap_79 (lv_at hl 3 rfl) ?_
                obtain ⟨hi35, hf⟩ := ck_of hf
                refine r_iald hC hR ok_q33 hi35 dX10_reap_81 ?_
                refine lv_iconst (v := -1) hx hb dX10_reap_82 (by decide) ?_
                refine lv_icmp_eq (tgt := 123) hx hb dX10_reap_83 (by decide) (fun hc => ?_) (fun hc => ?_)
                · replace hf := if_t hf hc
                  exact hj123_26 x21 S23 _ _ _ hf hR hS hE ok_this (lv_sub hl [0, 1, 2, 3] rfl)
                · replace hf := if_f hf hc
                  refine lv_iload hx hb dX10_reap_86 (lv_at hl 2 rfl) ?_
                  refine lv_aload_n hx hb dX10_reap_88 rfl (lv_at hl 0 rfl) ?_
                  obtain ⟨q36, hq37, ok_q36, hf⟩ := gR_of hf
                  refine gf_RX10_42 hC hR ok_this hq37 dX10_reap_89 ?_
                  refine lv_aload_n hx hb dX10_reap_92 rfl (lv_at hl 0 rfl) ?_
                  obtain ⟨q38, hq39, ok_q38, hf⟩ := gR_of hf
                  refine gf_RX10_78 hC hR ok_this hq39 dX10_reap_93 ?_
                  refine lv_iload hx hb dX10_reap_96 (lv_at hl 3 rfl) ?_
                  refine lv_lload_n hx hb dX10_reap_98 rfl (lv_at hl 1 rfl) ?_
                  refine lv_aload_n hx hb dX10_reap_99 rfl (lv_at hl 0 rfl) ?_
                  obtain ⟨q40, hq41, ok_q40, hf⟩ := gR_of hf
                  refine gf_RX10_51 hC hR ok_this hq41 dX10_reap_100 ?_
                  obtain ⟨q45, S42, hc43, hf⟩ := cl_of hf
                  refine cl_RX10_176 (As := []) (rest := [.long x7, .int x22, .ref q38, .ref q36, .int x21]) hC hR hS (c_X9_law l G n q40 S23 q45 S42 hc43 ok_q40) ok_q40 rfl ⟨Nat.le_of_ble_eq_true rfl, Nat.le_of_ble_eq_true rfl⟩ hl.1 rfl (Nat.le_of_ble_eq_true rfl) dX10_reap_103 (Nat.zero_le _) (Nat.zero_le _) (fun H locs hR hS hE44 => ?_)
                  have ok_this := hE44 _ _ ok_this
                  have ok_q24 := hE44 _ _ ok_q24
                  have ok_q31 := hE44 _ _ ok_q31
                  have ok_q33 := hE44 _ _ ok_q33
                  have ok_q36 := hE44 _ _ ok_q36
                  have ok_q38 := hE44 _ _ ok_q38
                  have ok_q40 := hE44 _ _ ok_q40
                  have hE := hE.tr hE44
                  obtain ⟨ok_q45, hf⟩ := gN_of hf
                  obtain ⟨x49, S46, hc47, hf⟩ := cl_of hf
                  refine cl_RX10_238 (As := [.ref q38, .int x22, .long x7, va_rf q45]) (rest := [.int x21]) hC hR hS (c_X5_harvest l G n q36 q38 x22 x7 q45 S42 x49 S46 hc47 ok_q36 ok_q38 ok_q45) ok_q36 rfl ⟨Nat.le_of_ble_eq_true rfl, Nat.le_of_ble_eq_true rfl⟩ hl.1 rfl (Nat.le_of_ble_eq_true rfl) dX10_reap_106 (Nat.zero_le _) (Nat.zero_le _) (fun H locs hR hS hE48 => ?_)
                  have ok_this := hE48 _ _ ok_this
                  have ok_q24 := hE48 _ _ ok_q24
                  have ok_q31 := hE48 _ _ ok_q31
                  have ok_q33 := hE48 _ _ ok_q33
                  have ok_q36 := hE48 _ _ ok_q36
                  have ok_q38 := hE48 _ _ ok_q38
                  have ok_q40 := hE48 _ _ ok_q40
                  have ok_q45 := fun q h => hE48 _ _ (ok_q45 q h)
                  have hE := hE.tr hE48
                  refine lv_iadd hx hb dX10_reap_109 ?_
                  refine bdi hf (fun x50 hf => ?_)
                  refine lv_istore (lv' := [(4, .int x50), (0, .ref this), (2, .long x7), (5, .int x22)]) hx hb dX10_reap_110 hl (by decide) rfl (fun ls hl => ?_)
                  refine lv_aload_n hx hb dX10_reap_112 rfl (lv_at hl 1 rfl) ?_
                  obtain ⟨q51, hq52, ok_q51, hf⟩ := gR_of hf
                  refine gf_RX10_78 hC hR ok_this hq52 dX10_reap_113 ?_
                  obtain ⟨q53, hq54, ok_q53, hf⟩ := gR_of hf
                  refine gf_RX10_200 hC hR ok_q51 hq54 dX10_reap_116 ?_
                  refine lv_iload hx hb dX10_reap_119 (lv_at hl 3 rfl) ?_
                  refine lv_iconst (v := -1) hx hb dX10_reap_121 (by decide) ?_
                  obtain ⟨hi55, hf⟩ := ck_of hf
                  refine rB_iast hC hR hS ok_q53 hi55 dX10_reap_122 hf (fun S56 H locs hf hR hS hE57 => ?_)
                  have ok_this := hE57 _ _ ok_this
                  have ok_q24 := hE57 _ _ ok_q24
                  have ok_q31 := hE57 _ _ ok_q31
                  have ok_q33 := hE57 _ _ ok_q33
                  have ok_q36 := hE57 _ _ ok_q36
                  have ok_q38 := hE57 _ _ ok_q38
                  have ok_q40 := hE57 _ _ ok_q40
                  have ok_q45 := fun q h => hE57 _ _ (ok_q45 q h)
                  have ok_q51 := hE57 _ _ ok_q51
                  have ok_q53 := hE57 _ _ ok_q53
                  have hE := hE.tr hE57
                  exact hj123_26 x50 S56 _ _ _ hf hR hS hE ok_this (lv_sub hl [1, 2, 0, 3] rfl)
        exact hh60 n (0 : Int32) (0 : Int32) S15 _ _ _ hf hR hS hE ok_this (lv_sub hl [3, 2, 1, 0] rfl)
      · replace hf := if_f hf hc
        refine lv_iconst (v := -1) hx hb dX10_reap_41 (by decide) ?_
        exact r_iret hC hR hS hE hf dX10_reap_42
  refine lv_if_eq (tgt := 18) hx hb dX10_reap_4 (by decide) (fun hc => ?_) (fun hc => ?_)
  · replace hf := if_t hf hc
    refine lv_lconst (v := 0) hx hb dX10_reap_18 (by decide) ?_
    exact hj19_5 (0 : Int64) S1 _ _ _ hf hR hS hE ok_this (lv_sub hl [0] rfl)
  · replace hf := if_f hf hc
    refine lv_aload_n hx hb dX10_reap_7 rfl (lv_at hl 0 rfl) ?_
    obtain ⟨q61, hq62, ok_q61, hf⟩ := gR_of hf
    refine gf_RX10_78 hC hR ok_this hq62 dX10_reap_8 ?_
    refine lv_iload_n hx hb dX10_reap_11 rfl (lv_at hl 1 rfl) ?_
    obtain ⟨x66, S63, hc64, hf⟩ := cl_of hf
    refine cl_RX10_206 (As := [.int a1]) (rest := []) hC hR hS (c_X3_fieldHad l G n q61 a1 S1 x66 S63 hc64 ok_q61) ok_q61 rfl ⟨Nat.le_of_ble_eq_true rfl, Nat.le_of_ble_eq_true rfl⟩ hl.1 rfl (Nat.le_of_ble_eq_true rfl) dX10_reap_12 (Nat.zero_le _) (Nat.zero_le _) (fun H locs hR hS hE65 => ?_)
    have ok_this := hE65 _ _ ok_this
    have ok_q61 := hE65 _ _ ok_q61
    have hE := hE.tr hE65
    refine lv_goto (tgt := 19) hx hb dX10_reap_15 (by decide) ?_
    exact hj19_5 x66 S63 _ _ _ hf hR hS hE ok_this (lv_sub hl [0] rfl)
abbrev rX10_night : Room := { frames := 4, cells := 0, slots := 0, locals := 104 }
def f_X10_night (n : Nat) (this : Nat) (a1 : Int32) (a2 : Int32) (a3 : Int32) (S : MS) : Option (Int32 × MS) :=
  cl (f_X10_isFarmer n a1 S) fun x4 S1 => (if x4 = 0 then some ((-1 : Int32), S1) else gR S1 (mR S1 this 1) 3 fun q5 => cl (f_X3_nightCell n q5 a2 a3 S1) fun x10 S7 => (if x10 = (-1 : Int32) then some ((-1 : Int32), S7) else gR S7 (mR S7 this 8) 5 fun q11 => gR S7 (mR S7 this 1) 3 fun q13 => gR S7 (mR S7 this 1) 3 fun q15 => gR S7 (mR S7 q15 5) 12 fun q17 => ck (inb a1 (mN S7 q17)) (gR S7 (mR S7 this 9) 9 fun q20 => cl (f_X9_law n q20 S7) fun q25 S22 => gN S22 q25 7 fun q25 => cl (f_X5_isFound n q11 q13 a2 (mI S7 q17 a1.toNatClampNeg) q25 S22) fun x29 S26 => (if x29 = 0 then gR S26 (mR S26 this 1) 3 fun q30 => cv (f_X3_shift n q30 a2 x10 S26) fun S32 => some ((1 : Int32), S32) else gR S26 (mR S26 this 1) 3 fun q35 => gR S26 (mR S26 q35 5) 12 fun q37 => ck (inb a1 (mN S26 q37)) (ck (inb a1 (mN S26 q37)) (bd (sI S26 q37 a1.toNatClampNeg ((mI S26 q37 a1.toNatClampNeg) + (1 : Int32))) fun S41 => some ((2 : Int32), S41)))))))
set_option maxRecDepth 100000 in
set_option maxHeartbeats 4000000 in
theorem c_X10_night (l : Launch) (G : Gx) (n : Nat) (this : Nat) (a1 : Int32) (a2 : Int32) (a3 : Int32) (S : MS) (ro : Int32) (So : MS) (hf : f_X10_night n this a1 a2 a3 S = some (ro, So)) (ok_this : Ok S this 10) : Cn G l yX10_night cX10_night 5 (some .int) rX10_night [.ref this, .int a1, .int a2, .int a3] S (some (.int ro)) So := by
  refine Cn.of (by decide) (Nat.le_of_ble_eq_true rfl) ?_
  intro p e s m args below meth c hC hname hR ls hl
  have hC : Cx G RX10 cX10_night 5 (some .int) p s m args meth c := hC
  have hl : lv_has ls 5 [(0, .ref this), (1, .int a1), (2, .int a2), (3, .int a3)] := hl
  have hx := hC.x
  have hb := hC.b
  have hS : va_S (gA G) s.heap s.heap [] := va_S.rf
  have hE : Ex S S := Ex.rf S
  unfold f_X10_night at hf
  refine lv_iload_n hx hb dX10_night_0 rfl (lv_at hl 1 rfl) ?_
  obtain ⟨x4, S1, hc2, hf⟩ := cl_of hf
  refine cl_RX10_203 (As := [.int a1]) (rest := []) hC hR hS (c_X10_isFarmer l G n a1 S x4 S1 hc2 ) rfl ⟨Nat.le_of_ble_eq_true rfl, Nat.le_of_ble_eq_true rfl⟩ hl.1 rfl (Nat.le_of_ble_eq_true rfl) dX10_night_1 (Nat.zero_le _) (Nat.zero_le _) (fun H locs hR hS hE3 => ?_)
  have ok_this := hE3 _ _ ok_this
  have hE := hE.tr hE3
  refine lv_if_ne (tgt := 9) hx hb dX10_night_4 (by decide) (fun hc => ?_) (fun hc => ?_)
  · replace hf := if_f hf hc
    refine lv_aload_n hx hb dX10_night_9 rfl (lv_at hl 0 rfl) ?_
    obtain ⟨q5, hq6, ok_q5, hf⟩ := gR_of hf
    refine gf_RX10_78 hC hR ok_this hq6 dX10_night_10 ?_
    refine lv_iload_n hx hb dX10_night_13 rfl (lv_at hl 2 rfl) ?_
    refine lv_iload_n hx hb dX10_night_14 rfl (lv_at hl 3 rfl) ?_
    obtain ⟨x10, S7, hc8, hf⟩ := cl_of hf
    refine cl_RX10_242 (As := [.int a2, .int a3]) (rest := []) hC hR hS (c_X3_nightCell l G n q5 a2 a3 S1 x10 S7 hc8 ok_q5) ok_q5 rfl ⟨Nat.le_of_ble_eq_true rfl, Nat.le_of_ble_eq_true rfl⟩ hl.1 rfl (Nat.le_of_ble_eq_true rfl) dX10_night_15 (Nat.zero_le _) (Nat.zero_le _) (fun H locs hR hS hE9 => ?_)
    have ok_this := hE9 _ _ ok_this
    have ok_q5 := hE9 _ _ ok_q5
    have hE := hE.tr hE9
    refine lv_istore (lv' := [(4, .int x10), (0, .ref this), (1, .int a1), (2, .int a2), (3, .int a3)]) hx hb dX10_night_18 hl (by decide) rfl (fun ls hl => ?_)
    refine lv_iload hx hb dX10_night_20 (lv_at hl 0 rfl) ?_
    refine lv_iconst (v := -1) hx hb dX10_night_22 (by decide) ?_
    refine lv_icmp_ne (tgt := 28) hx hb dX10_night_23 (by decide) (fun hc => ?_) (fun hc => ?_)
    · replace hf := if_f hf hc
      refine lv_aload_n hx hb dX10_night_28 rfl (lv_at hl 1 rfl) ?_
      obtain ⟨q11, hq12, ok_q11, hf⟩ := gR_of hf
      refine gf_RX10_42 hC hR ok_this hq12 dX10_night_29 ?_
      refine lv_aload_n hx hb dX10_night_32 rfl (lv_at hl 1 rfl) ?_
      obtain ⟨q13, hq14, ok_q13, hf⟩ := gR_of hf
      refine gf_RX10_78 hC hR ok_this hq14 dX10_night_33 ?_
      refine lv_iload_n hx hb dX10_night_36 rfl (lv_at hl 3 rfl) ?_
      refine lv_aload_n hx hb dX10_night_37 rfl (lv_at hl 1 rfl) ?_
      obtain ⟨q15, hq16, ok_q15, hf⟩ := gR_of hf
      refine gf_RX10_78 hC hR ok_this hq16 dX10_night_38 ?_
      obtain ⟨q17, hq18, ok_q17, hf⟩ := gR_of hf
      refine gf_RX10_218 hC hR ok_q15 hq18 dX10_night_41 ?_
      refine lv_iload_n hx hb dX10_night_44 rfl (lv_at hl 2 rfl) ?_
      obtain ⟨hi19, hf⟩ := ck_of hf
      refine r_iald hC hR ok_q17 hi19 dX10_night_45 ?_
      refine lv_aload_n hx hb dX10_night_46 rfl (lv_at hl 1 rfl) ?_
      obtain ⟨q20, hq21, ok_q20, hf⟩ := gR_of hf
      refine gf_RX10_51 hC hR ok_this hq21 dX10_night_47 ?_
      obtain ⟨q25, S22, hc23, hf⟩ := cl_of hf
      refine cl_RX10_176 (As := []) (rest := [.int (mI S7 q17 a1.toNatClampNeg), .int a2, .ref q13, .ref q11]) hC hR hS (c_X9_law l G n q20 S7 q25 S22 hc23 ok_q20) ok_q20 rfl ⟨Nat.le_of_ble_eq_true rfl, Nat.le_of_ble_eq_true rfl⟩ hl.1 rfl (Nat.le_of_ble_eq_true rfl) dX10_night_50 (Nat.zero_le _) (Nat.zero_le _) (fun H locs hR hS hE24 => ?_)
      have ok_this := hE24 _ _ ok_this
      have ok_q5 := hE24 _ _ ok_q5
      have ok_q11 := hE24 _ _ ok_q11
      have ok_q13 := hE24 _ _ ok_q13
      have ok_q15 := hE24 _ _ ok_q15
      have ok_q17 := hE24 _ _ ok_q17
      have ok_q20 := hE24 _ _ ok_q20
      have hE := hE.tr hE24
      obtain ⟨ok_q25, hf⟩ := gN_of hf
      obtain ⟨x29, S26, hc27, hf⟩ := cl_of hf
      refine cl_RX10_245 (As := [.ref q13, .int a2, .int (mI S7 q17 a1.toNatClampNeg), va_rf q25]) (rest := []) hC hR hS (c_X5_isFound l G n q11 q13 a2 (mI S7 q17 a1.toNatClampNeg) q25 S22 x29 S26 hc27 ok_q11 ok_q13 ok_q25) ok_q11 rfl ⟨Nat.le_of_ble_eq_true rfl, Nat.le_of_ble_eq_true rfl⟩ hl.1 rfl (Nat.le_of_ble_eq_true rfl) dX10_night_53 (Nat.zero_le _) (Nat.zero_le _) (fun H locs hR hS hE28 => ?_)
      have ok_this := hE28 _ _ ok_this
      have ok_q5 := hE28 _ _ ok_q5
      have ok_q11 := hE28 _ _ ok_q11
      have ok_q13 := hE28 _ _ ok_q13
      have ok_q15 := hE28 _ _ ok_q15
      have ok_q17 := hE28 _ _ ok_q17
      have ok_q20 := hE28 _ _ ok_q20
      have ok_q25 := fun q h => hE28 _ _ (ok_q25 q h)
      have hE := hE.tr hE28
      refine lv_if_eq (tgt := 74) hx hb dX10_night_56 (by decide) (fun hc => ?_) (fun hc => ?_)
      · replace hf := if_t hf hc
        refine lv_aload_n hx hb dX10_night_74 rfl (lv_at hl 1 rfl) ?_
        obtain ⟨q30, hq31, ok_q30, hf⟩ := gR_of hf
        refine gf_RX10_78 hC hR ok_this hq31 dX10_night_75 ?_
        refine lv_iload_n hx hb dX10_night_78 rfl (lv_at hl 3 rfl) ?_
        refine lv_iload hx hb dX10_night_79 (lv_at hl 0 rfl) ?_
        obtain ⟨S32, hc33, hf⟩ := cv_of hf
        refine cl_RX10_249 (As := [.int a2, .int x10]) (rest := []) hC hR hS (c_X3_shift l G n q30 a2 x10 S26 S32 hc33 ok_q30) ok_q30 rfl ⟨Nat.le_of_ble_eq_true rfl, Nat.le_of_ble_eq_true rfl⟩ hl.1 rfl (Nat.le_of_ble_eq_true rfl) dX10_night_81 (Nat.zero_le _) (Nat.zero_le _) (fun H locs hR hS hE34 => ?_)
        have ok_this := hE34 _ _ ok_this
        have ok_q5 := hE34 _ _ ok_q5
        have ok_q11 := hE34 _ _ ok_q11
        have ok_q13 := hE34 _ _ ok_q13
        have ok_q15 := hE34 _ _ ok_q15
        have ok_q17 := hE34 _ _ ok_q17
        have ok_q20 := hE34 _ _ ok_q20
        have ok_q25 := fun q h => hE34 _ _ (ok_q25 q h)
        have ok_q30 := hE34 _ _ ok_q30
        have hE := hE.tr hE34
        refine lv_iconst (v := 1) hx hb dX10_night_84 (by decide) ?_
        exact r_iret hC hR hS hE hf dX10_night_85
      · replace hf := if_f hf hc
        refine lv_aload_n hx hb dX10_night_59 rfl (lv_at hl 1 rfl) ?_
        obtain ⟨q35, hq36, ok_q35, hf⟩ := gR_of hf
        refine gf_RX10_78 hC hR ok_this hq36 dX10_night_60 ?_
        obtain ⟨q37, hq38, ok_q37, hf⟩ := gR_of hf
        refine gf_RX10_218 hC hR ok_q35 hq38 dX10_night_63 ?_
        refine lv_iload_n hx hb dX10_night_66 rfl (lv_at hl 2 rfl) ?_
        refine lv_dup2_11 hx hb dX10_night_67 rfl rfl ?_
        obtain ⟨hi39, hf⟩ := ck_of hf
        refine r_iald hC hR ok_q37 hi39 dX10_night_68 ?_
        refine lv_iconst (v := 1) hx hb dX10_night_69 (by decide) ?_
        refine lv_iadd hx hb dX10_night_70 ?_
        obtain ⟨hi40, hf⟩ := ck_of hf
        refine rB_iast hC hR hS ok_q37 hi40 dX10_night_71 hf (fun S41 H locs hf hR hS hE42 => ?_)
        have ok_this := hE42 _ _ ok_this
        have ok_q5 := hE42 _ _ ok_q5
        have ok_q11 := hE42 _ _ ok_q11
        have ok_q13 := hE42 _ _ ok_q13
        have ok_q15 := hE42 _ _ ok_q15
        have ok_q17 := hE42 _ _ ok_q17
        have ok_q20 := hE42 _ _ ok_q20
        have ok_q25 := fun q h => hE42 _ _ (ok_q25 q h)
        have ok_q35 := hE42 _ _ ok_q35
        have ok_q37 := hE42 _ _ ok_q37
        have hE := hE.tr hE42
        refine lv_iconst (v := 2) hx hb dX10_night_72 (by decide) ?_
        exact r_iret hC hR hS hE hf dX10_night_73
    · replace hf := if_t hf hc
      refine lv_iconst (v := -1) hx hb dX10_night_26 (by decide) ?_
      exact r_iret hC hR hS hE hf dX10_night_27
  · replace hf := if_t hf hc
    refine lv_iconst (v := -1) hx hb dX10_night_7 (by decide) ?_
    exact r_iret hC hR hS hE hf dX10_night_8
abbrev rX10_odds : Room := { frames := 42, cells := 0, slots := 0, locals := 1178 }
def f_X10_odds (n : Nat) (this : Nat) (a1 : Int32) (a2 : Int32) (a3 : Int32) (S : MS) : Option (Int32 × MS) :=
  cl (f_X10_isFarmer n a1 S) fun x4 S1 => (if x4 = 0 then some ((-1 : Int32), S1) else (if a3 < 0 then some ((-1 : Int32), S1) else (if a3 ≤ (4 : Int32) then (if a2 = (-1 : Int32) then gR S1 (mR S1 this 3) 8 fun q17 => cl (f_X8_allWeight n q17 a3 S1) fun x22 S19 => some ((x22.toInt32), S19) else gR S1 (mR S1 this 0) 1 fun q5 => cl (f_X1_holds n q5 a2 S1) fun x10 S7 => (if x10 = 0 then some ((-1 : Int32), S7) else gR S7 (mR S7 this 10) 2 fun q11 => cl (f_X2_weightHad n q11 a1 a2 a3 S7) fun x16 S13 => some ((x16.toInt32), S13))) else some ((-1 : Int32), S1))))
set_option maxRecDepth 100000 in
set_option maxHeartbeats 4000000 in
theorem c_X10_odds (l : Launch) (G : Gx) (n : Nat) (this : Nat) (a1 : Int32) (a2 : Int32) (a3 : Int32) (S : MS) (ro : Int32) (So : MS) (hf : f_X10_odds n this a1 a2 a3 S = some (ro, So)) (ok_this : Ok S this 10) : Cn G l yX10_odds cX10_odds 4 (some .int) rX10_odds [.ref this, .int a1, .int a2, .int a3] S (some (.int ro)) So := by
  refine Cn.of (by decide) (Nat.le_of_ble_eq_true rfl) ?_
  intro p e s m args below meth c hC hname hR ls hl
  have hC : Cx G RX10 cX10_odds 4 (some .int) p s m args meth c := hC
  have hl : lv_has ls 4 [(0, .ref this), (1, .int a1), (2, .int a2), (3, .int a3)] := hl
  have hx := hC.x
  have hb := hC.b
  have hS : va_S (gA G) s.heap s.heap [] := va_S.rf
  have hE : Ex S S := Ex.rf S
  unfold f_X10_odds at hf
  refine lv_iload_n hx hb dX10_odds_0 rfl (lv_at hl 1 rfl) ?_
  obtain ⟨x4, S1, hc2, hf⟩ := cl_of hf
  refine cl_RX10_203 (As := [.int a1]) (rest := []) hC hR hS (c_X10_isFarmer l G n a1 S x4 S1 hc2 ) rfl ⟨Nat.le_of_ble_eq_true rfl, Nat.le_of_ble_eq_true rfl⟩ hl.1 rfl (Nat.le_of_ble_eq_true rfl) dX10_odds_1 (Nat.zero_le _) (Nat.zero_le _) (fun H locs hR hS hE3 => ?_)
  have ok_this := hE3 _ _ ok_this
  have hE := hE.tr hE3
  refine lv_if_eq (tgt := 16) hx hb dX10_odds_4 (by decide) (fun hc => ?_) (fun hc => ?_)
  · replace hf := if_t hf hc
    refine lv_iconst (v := -1) hx hb dX10_odds_16 (by decide) ?_
    exact r_iret hC hR hS hE hf dX10_odds_17
  · replace hf := if_f hf hc
    refine lv_iload_n hx hb dX10_odds_7 rfl (lv_at hl 3 rfl) ?_
    refine lv_if_lt (tgt := 16) hx hb dX10_odds_8 (by decide) (fun hc => ?_) (fun hc => ?_)
    · replace hf := if_t hf hc
      refine lv_iconst (v := -1) hx hb dX10_odds_16 (by decide) ?_
      exact r_iret hC hR hS hE hf dX10_odds_17
    · replace hf := if_f hf hc
      refine lv_iload_n hx hb dX10_odds_11 rfl (lv_at hl 3 rfl) ?_
      refine lv_iconst (v := 4) hx hb dX10_odds_12 (by decide) ?_
      refine lv_icmp_le (tgt := 18) hx hb dX10_odds_13 (by decide) (fun hc => ?_) (fun hc => ?_)
      · replace hf := if_t hf hc
        refine lv_iload_n hx hb dX10_odds_18 rfl (lv_at hl 2 rfl) ?_
        refine lv_iconst (v := -1) hx hb dX10_odds_19 (by decide) ?_
        refine lv_icmp_ne (tgt := 33) hx hb dX10_odds_20 (by decide) (fun hc => ?_) (fun hc => ?_)
        · replace hf := if_f hf hc
          refine lv_aload_n hx hb dX10_odds_33 rfl (lv_at hl 0 rfl) ?_
          obtain ⟨q5, hq6, ok_q5, hf⟩ := gR_of hf
          refine gf_RX10_69 hC hR ok_this hq6 dX10_odds_34 ?_
          refine lv_iload_n hx hb dX10_odds_37 rfl (lv_at hl 2 rfl) ?_
          obtain ⟨x10, S7, hc8, hf⟩ := cl_of hf
          refine cl_RX10_101 (As := [.int a2]) (rest := []) hC hR hS (c_X1_holds l G n q5 a2 S1 x10 S7 hc8 ok_q5) ok_q5 rfl ⟨Nat.le_of_ble_eq_true rfl, Nat.le_of_ble_eq_true rfl⟩ hl.1 rfl (Nat.le_of_ble_eq_true rfl) dX10_odds_38 (Nat.zero_le _) (Nat.zero_le _) (fun H locs hR hS hE9 => ?_)
          have ok_this := hE9 _ _ ok_this
          have ok_q5 := hE9 _ _ ok_q5
          have hE := hE.tr hE9
          refine lv_if_eq (tgt := 58) hx hb dX10_odds_41 (by decide) (fun hc => ?_) (fun hc => ?_)
          · replace hf := if_t hf hc
            refine lv_iconst (v := -1) hx hb dX10_odds_58 (by decide) ?_
            exact r_iret hC hR hS hE hf dX10_odds_59
          · replace hf := if_f hf hc
            refine lv_aload_n hx hb dX10_odds_44 rfl (lv_at hl 0 rfl) ?_
            obtain ⟨q11, hq12, ok_q11, hf⟩ := gR_of hf
            refine gf_RX10_90 hC hR ok_this hq12 dX10_odds_45 ?_
            refine lv_iload_n hx hb dX10_odds_48 rfl (lv_at hl 1 rfl) ?_
            refine lv_iload_n hx hb dX10_odds_49 rfl (lv_at hl 2 rfl) ?_
            refine lv_iload_n hx hb dX10_odds_50 rfl (lv_at hl 3 rfl) ?_
            obtain ⟨x16, S13, hc14, hf⟩ := cl_of hf
            refine cl_RX10_255 (As := [.int a1, .int a2, .int a3]) (rest := []) hC hR hS (c_X2_weightHad l G n q11 a1 a2 a3 S7 x16 S13 hc14 ok_q11) ok_q11 rfl ⟨Nat.le_of_ble_eq_true rfl, Nat.le_of_ble_eq_true rfl⟩ hl.1 rfl (Nat.le_of_ble_eq_true rfl) dX10_odds_51 (Nat.zero_le _) (Nat.zero_le _) (fun H locs hR hS hE15 => ?_)
            have ok_this := hE15 _ _ ok_this
            have ok_q5 := hE15 _ _ ok_q5
            have ok_q11 := hE15 _ _ ok_q11
            have hE := hE.tr hE15
            refine lv_l2i (v := (x16.toInt32)) hx hb dX10_odds_54 rfl ?_
            refine lv_goto (tgt := 59) hx hb dX10_odds_55 (by decide) ?_
            exact r_iret hC hR hS hE hf dX10_odds_59
        · replace hf := if_t hf hc
          refine lv_aload_n hx hb dX10_odds_23 rfl (lv_at hl 0 rfl) ?_
          obtain ⟨q17, hq18, ok_q17, hf⟩ := gR_of hf
          refine gf_RX10_10 hC hR ok_this hq18 dX10_odds_24 ?_
          refine lv_iload_n hx hb dX10_odds_27 rfl (lv_at hl 3 rfl) ?_
          obtain ⟨x22, S19, hc20, hf⟩ := cl_of hf
          refine cl_RX10_252 (As := [.int a3]) (rest := []) hC hR hS (c_X8_allWeight l G n q17 a3 S1 x22 S19 hc20 ok_q17) ok_q17 rfl ⟨Nat.le_of_ble_eq_true rfl, Nat.le_of_ble_eq_true rfl⟩ hl.1 rfl (Nat.le_of_ble_eq_true rfl) dX10_odds_28 (Nat.zero_le _) (Nat.zero_le _) (fun H locs hR hS hE21 => ?_)
          have ok_this := hE21 _ _ ok_this
          have ok_q17 := hE21 _ _ ok_q17
          have hE := hE.tr hE21
          refine lv_l2i (v := (x22.toInt32)) hx hb dX10_odds_31 rfl ?_
          exact r_iret hC hR hS hE hf dX10_odds_32
      · replace hf := if_f hf hc
        refine lv_iconst (v := -1) hx hb dX10_odds_16 (by decide) ?_
        exact r_iret hC hR hS hE hf dX10_odds_17
abbrev rX10_mean : Room := { frames := 43, cells := 0, slots := 0, locals := 1201 }
def f_X10_mean (n : Nat) (this : Nat) (a1 : Int32) (a2 : Int32) (S : MS) : Option (Int32 × MS) :=
  cl (f_X10_isFarmer n a1 S) fun x4 S1 => (if x4 = 0 then some ((-1 : Int32), S1) else (if a2 < 0 then some ((-1 : Int32), S1) else (if a2 ≤ (4 : Int32) then gR S1 (mR S1 this 10) 2 fun q5 => cl (f_X2_meanNow n q5 a1 a2 S1) fun x10 S7 => some (x10, S7) else some ((-1 : Int32), S1))))
set_option maxRecDepth 100000 in
set_option maxHeartbeats 4000000 in
theorem c_X10_mean (l : Launch) (G : Gx) (n : Nat) (this : Nat) (a1 : Int32) (a2 : Int32) (S : MS) (ro : Int32) (So : MS) (hf : f_X10_mean n this a1 a2 S = some (ro, So)) (ok_this : Ok S this 10) : Cn G l yX10_mean cX10_mean 3 (some .int) rX10_mean [.ref this, .int a1, .int a2] S (some (.int ro)) So := by
  refine Cn.of (by decide) (Nat.le_of_ble_eq_true rfl) ?_
  intro p e s m args below meth c hC hname hR ls hl
  have hC : Cx G RX10 cX10_mean 3 (some .int) p s m args meth c := hC
  have hl : lv_has ls 3 [(0, .ref this), (1, .int a1), (2, .int a2)] := hl
  have hx := hC.x
  have hb := hC.b
  have hS : va_S (gA G) s.heap s.heap [] := va_S.rf
  have hE : Ex S S := Ex.rf S
  unfold f_X10_mean at hf
  refine lv_iload_n hx hb dX10_mean_0 rfl (lv_at hl 1 rfl) ?_
  obtain ⟨x4, S1, hc2, hf⟩ := cl_of hf
  refine cl_RX10_203 (As := [.int a1]) (rest := []) hC hR hS (c_X10_isFarmer l G n a1 S x4 S1 hc2 ) rfl ⟨Nat.le_of_ble_eq_true rfl, Nat.le_of_ble_eq_true rfl⟩ hl.1 rfl (Nat.le_of_ble_eq_true rfl) dX10_mean_1 (Nat.zero_le _) (Nat.zero_le _) (fun H locs hR hS hE3 => ?_)
  have ok_this := hE3 _ _ ok_this
  have hE := hE.tr hE3
  refine lv_if_eq (tgt := 16) hx hb dX10_mean_4 (by decide) (fun hc => ?_) (fun hc => ?_)
  · replace hf := if_t hf hc
    refine lv_iconst (v := -1) hx hb dX10_mean_16 (by decide) ?_
    exact r_iret hC hR hS hE hf dX10_mean_17
  · replace hf := if_f hf hc
    refine lv_iload_n hx hb dX10_mean_7 rfl (lv_at hl 2 rfl) ?_
    refine lv_if_lt (tgt := 16) hx hb dX10_mean_8 (by decide) (fun hc => ?_) (fun hc => ?_)
    · replace hf := if_t hf hc
      refine lv_iconst (v := -1) hx hb dX10_mean_16 (by decide) ?_
      exact r_iret hC hR hS hE hf dX10_mean_17
    · replace hf := if_f hf hc
      refine lv_iload_n hx hb dX10_mean_11 rfl (lv_at hl 2 rfl) ?_
      refine lv_iconst (v := 4) hx hb dX10_mean_12 (by decide) ?_
      refine lv_icmp_le (tgt := 18) hx hb dX10_mean_13 (by decide) (fun hc => ?_) (fun hc => ?_)
      · replace hf := if_t hf hc
        refine lv_aload_n hx hb dX10_mean_18 rfl (lv_at hl 0 rfl) ?_
        obtain ⟨q5, hq6, ok_q5, hf⟩ := gR_of hf
        refine gf_RX10_90 hC hR ok_this hq6 dX10_mean_19 ?_
        refine lv_iload_n hx hb dX10_mean_22 rfl (lv_at hl 1 rfl) ?_
        refine lv_iload_n hx hb dX10_mean_23 rfl (lv_at hl 2 rfl) ?_
        obtain ⟨x10, S7, hc8, hf⟩ := cl_of hf
        refine cl_RX10_259 (As := [.int a1, .int a2]) (rest := []) hC hR hS (c_X2_meanNow l G n q5 a1 a2 S1 x10 S7 hc8 ok_q5) ok_q5 rfl ⟨Nat.le_of_ble_eq_true rfl, Nat.le_of_ble_eq_true rfl⟩ hl.1 rfl (Nat.le_of_ble_eq_true rfl) dX10_mean_24 (Nat.zero_le _) (Nat.zero_le _) (fun H locs hR hS hE9 => ?_)
        have ok_this := hE9 _ _ ok_this
        have ok_q5 := hE9 _ _ ok_q5
        have hE := hE.tr hE9
        exact r_iret hC hR hS hE hf dX10_mean_27
      · replace hf := if_f hf hc
        refine lv_iconst (v := -1) hx hb dX10_mean_16 (by decide) ?_
        exact r_iret hC hR hS hE hf dX10_mean_17
abbrev rX10_best : Room := { frames := 43, cells := 0, slots := 0, locals := 1204 }
def f_X10_best (n : Nat) (this : Nat) (a1 : Int32) (a2 : Int32) (a3 : Int32) (S : MS) : Option (Int32 × MS) :=
  cl (f_X10_isFarmer n a1 S) fun x4 S1 => (if x4 = 0 then some ((-1 : Int32), S1) else (if a2 < 0 then some ((-1 : Int32), S1) else (if (2 : Int32) < a2 then some ((-1 : Int32), S1) else (if a3 < 0 then some ((-1 : Int32), S1) else (if a3 ≤ (2 : Int32) then gR S1 (mR S1 this 10) 2 fun q5 => cv (f_X2_seekNight n q5 a1 a2 S1) fun S7 => gR S7 (mR S7 this 10) 2 fun q10 => (if (mI S7 q10 0) = (-1 : Int32) then some ((-1 : Int32), S7) else (if a3 = 0 then gR S7 (mR S7 this 10) 2 fun q16 => some ((mI S7 q16 0), S7) else (if a3 = (1 : Int32) then gR S7 (mR S7 this 10) 2 fun q14 => some ((mI S7 q14 1), S7) else gR S7 (mR S7 this 10) 2 fun q12 => some ((mI S7 q12 2), S7)))) else some ((-1 : Int32), S1))))))
set_option maxRecDepth 100000 in
set_option maxHeartbeats 4000000 in
theorem c_X10_best (l : Launch) (G : Gx) (n : Nat) (this : Nat) (a1 : Int32) (a2 : Int32) (a3 : Int32) (S : MS) (ro : Int32) (So : MS) (hf : f_X10_best n this a1 a2 a3 S = some (ro, So)) (ok_this : Ok S this 10) : Cn G l yX10_best cX10_best 4 (some .int) rX10_best [.ref this, .int a1, .int a2, .int a3] S (some (.int ro)) So := by
  refine Cn.of (by decide) (Nat.le_of_ble_eq_true rfl) ?_
  intro p e s m args below meth c hC hname hR ls hl
  have hC : Cx G RX10 cX10_best 4 (some .int) p s m args meth c := hC
  have hl : lv_has ls 4 [(0, .ref this), (1, .int a1), (2, .int a2), (3, .int a3)] := hl
  have hx := hC.x
  have hb := hC.b
  have hS : va_S (gA G) s.heap s.heap [] := va_S.rf
  have hE : Ex S S := Ex.rf S
  unfold f_X10_best at hf
  refine lv_iload_n hx hb dX10_best_0 rfl (lv_at hl 1 rfl) ?_
  obtain ⟨x4, S1, hc2, hf⟩ := cl_of hf
  refine cl_RX10_203 (As := [.int a1]) (rest := []) hC hR hS (c_X10_isFarmer l G n a1 S x4 S1 hc2 ) rfl ⟨Nat.le_of_ble_eq_true rfl, Nat.le_of_ble_eq_true rfl⟩ hl.1 rfl (Nat.le_of_ble_eq_true rfl) dX10_best_1 (Nat.zero_le _) (Nat.zero_le _) (fun H locs hR hS hE3 => ?_)
  have ok_this := hE3 _ _ ok_this
  have hE := hE.tr hE3
  refine lv_if_eq (tgt := 25) hx hb dX10_best_4 (by decide) (fun hc => ?_) (fun hc => ?_)
  · replace hf := if_t hf hc
    refine lv_iconst (v := -1) hx hb dX10_best_25 (by decide) ?_
    exact r_iret hC hR hS hE hf dX10_best_26
  · replace hf := if_f hf hc
    refine lv_iload_n hx hb dX10_best_7 rfl (lv_at hl 2 rfl) ?_
    refine lv_if_lt (tgt := 25) hx hb dX10_best_8 (by decide) (fun hc => ?_) (fun hc => ?_)
    · replace hf := if_t hf hc
      refine lv_iconst (v := -1) hx hb dX10_best_25 (by decide) ?_
      exact r_iret hC hR hS hE hf dX10_best_26
    · replace hf := if_f hf hc
      refine lv_iload_n hx hb dX10_best_11 rfl (lv_at hl 2 rfl) ?_
      refine lv_iconst (v := 2) hx hb dX10_best_12 (by decide) ?_
      refine lv_icmp_gt (tgt := 25) hx hb dX10_best_13 (by decide) (fun hc => ?_) (fun hc => ?_)
      · replace hf := if_t hf hc
        refine lv_iconst (v := -1) hx hb dX10_best_25 (by decide) ?_
        exact r_iret hC hR hS hE hf dX10_best_26
      · replace hf := if_f hf hc
        refine lv_iload_n hx hb dX10_best_16 rfl (lv_at hl 3 rfl) ?_
        refine lv_if_lt (tgt := 25) hx hb dX10_best_17 (by decide) (fun hc => ?_) (fun hc => ?_)
        · replace hf := if_t hf hc
          refine lv_iconst (v := -1) hx hb dX10_best_25 (by decide) ?_
          exact r_iret hC hR hS hE hf dX10_best_26
        · replace hf := if_f hf hc
          refine lv_iload_n hx hb dX10_best_20 rfl (lv_at hl 3 rfl) ?_
          refine lv_iconst (v := 2) hx hb dX10_best_21 (by decide) ?_
          refine lv_icmp_le (tgt := 27) hx hb dX10_best_22 (by decide) (fun hc => ?_) (fun hc => ?_)
          · replace hf := if_t hf hc
            refine lv_aload_n hx hb dX10_best_27 rfl (lv_at hl 0 rfl) ?_
            obtain ⟨q5, hq6, ok_q5, hf⟩ := gR_of hf
            refine gf_RX10_90 hC hR ok_this hq6 dX10_best_28 ?_
            refine lv_iload_n hx hb dX10_best_31 rfl (lv_at hl 1 rfl) ?_
            refine lv_iload_n hx hb dX10_best_32 rfl (lv_at hl 2 rfl) ?_
            obtain ⟨S7, hc8, hf⟩ := cv_of hf
            refine cl_RX10_262 (As := [.int a1, .int a2]) (rest := []) hC hR hS (c_X2_seekNight l G n q5 a1 a2 S1 S7 hc8 ok_q5) ok_q5 rfl ⟨Nat.le_of_ble_eq_true rfl, Nat.le_of_ble_eq_true rfl⟩ hl.1 rfl (Nat.le_of_ble_eq_true rfl) dX10_best_33 (Nat.zero_le _) (Nat.zero_le _) (fun H locs hR hS hE9 => ?_)
            have ok_this := hE9 _ _ ok_this
            have ok_q5 := hE9 _ _ ok_q5
            have hE := hE.tr hE9
            refine lv_aload_n hx hb dX10_best_36 rfl (lv_at hl 0 rfl) ?_
            obtain ⟨q10, hq11, ok_q10, hf⟩ := gR_of hf
            refine gf_RX10_90 hC hR ok_this hq11 dX10_best_37 ?_
            refine gf_RX10_265 hC hR ok_q10 dX10_best_40 ?_
            refine lv_iconst (v := -1) hx hb dX10_best_43 (by decide) ?_
            refine lv_icmp_ne (tgt := 49) hx hb dX10_best_44 (by decide) (fun hc => ?_) (fun hc => ?_)
            · replace hf := if_f hf hc
              refine lv_iload_n hx hb dX10_best_49 rfl (lv_at hl 3 rfl) ?_
              refine lv_if_ne (tgt := 61) hx hb dX10_best_50 (by decide) (fun hc => ?_) (fun hc => ?_)
              · replace hf := if_f hf hc
                refine lv_iload_n hx hb dX10_best_61 rfl (lv_at hl 3 rfl) ?_
                refine lv_iconst (v := 1) hx hb dX10_best_62 (by decide) ?_
                refine lv_icmp_ne (tgt := 76) hx hb dX10_best_63 (by decide) (fun hc => ?_) (fun hc => ?_)
                · replace hf := if_f hf hc
                  refine lv_aload_n hx hb dX10_best_76 rfl (lv_at hl 0 rfl) ?_
                  obtain ⟨q12, hq13, ok_q12, hf⟩ := gR_of hf
                  refine gf_RX10_90 hC hR ok_this hq13 dX10_best_77 ?_
                  refine gf_RX10_271 hC hR ok_q12 dX10_best_80 ?_
                  exact r_iret hC hR hS hE hf dX10_best_83
                · replace hf := if_t hf hc
                  refine lv_aload_n hx hb dX10_best_66 rfl (lv_at hl 0 rfl) ?_
                  obtain ⟨q14, hq15, ok_q14, hf⟩ := gR_of hf
                  refine gf_RX10_90 hC hR ok_this hq15 dX10_best_67 ?_
                  refine gf_RX10_268 hC hR ok_q14 dX10_best_70 ?_
                  refine lv_goto (tgt := 83) hx hb dX10_best_73 (by decide) ?_
                  exact r_iret hC hR hS hE hf dX10_best_83
              · replace hf := if_t hf hc
                refine lv_aload_n hx hb dX10_best_53 rfl (lv_at hl 0 rfl) ?_
                obtain ⟨q16, hq17, ok_q16, hf⟩ := gR_of hf
                refine gf_RX10_90 hC hR ok_this hq17 dX10_best_54 ?_
                refine gf_RX10_265 hC hR ok_q16 dX10_best_57 ?_
                exact r_iret hC hR hS hE hf dX10_best_60
            · replace hf := if_t hf hc
              refine lv_iconst (v := -1) hx hb dX10_best_47 (by decide) ?_
              exact r_iret hC hR hS hE hf dX10_best_48
          · replace hf := if_f hf hc
            refine lv_iconst (v := -1) hx hb dX10_best_25 (by decide) ?_
            exact r_iret hC hR hS hE hf dX10_best_26
abbrev rX10_time : Room := { frames := 7, cells := 0, slots := 0, locals := 186 }
def f_X10_time (n : Nat) (this : Nat) (a1 : Int32) (a2 : Int32) (a3 : Int32) (S : MS) : Option (Int32 × MS) :=
  cl (f_X10_isFarmer n a1 S) fun x4 S1 => (if x4 = 0 then some ((-1 : Int32), S1) else gR S1 (mR S1 this 0) 1 fun q5 => cl (f_X1_holds n q5 a2 S1) fun x10 S7 => (if x10 = 0 then some ((-1 : Int32), S7) else (if a3 < (1 : Int32) then some ((-1 : Int32), S7) else (if (20 : Int32) < a3 then some ((-1 : Int32), S7) else gR S7 (mR S7 this 3) 8 fun q11 => (if (mI S7 q11 6) = 0 then some ((-1 : Int32), S7) else gR S7 (mR S7 this 10) 2 fun q13 => cl (f_X2_firstSowing n q13 a1 a2 a3 S7) fun x18 S15 => some (x18, S15))))))
set_option maxRecDepth 100000 in
set_option maxHeartbeats 4000000 in
theorem c_X10_time (l : Launch) (G : Gx) (n : Nat) (this : Nat) (a1 : Int32) (a2 : Int32) (a3 : Int32) (S : MS) (ro : Int32) (So : MS) (hf : f_X10_time n this a1 a2 a3 S = some (ro, So)) (ok_this : Ok S this 10) : Cn G l yX10_time cX10_time 4 (some .int) rX10_time [.ref this, .int a1, .int a2, .int a3] S (some (.int ro)) So := by
  refine Cn.of (by decide) (Nat.le_of_ble_eq_true rfl) ?_
  intro p e s m args below meth c hC hname hR ls hl
  have hC : Cx G RX10 cX10_time 4 (some .int) p s m args meth c := hC
  have hl : lv_has ls 4 [(0, .ref this), (1, .int a1), (2, .int a2), (3, .int a3)] := hl
  have hx := hC.x
  have hb := hC.b
  have hS : va_S (gA G) s.heap s.heap [] := va_S.rf
  have hE : Ex S S := Ex.rf S
  unfold f_X10_time at hf
  refine lv_iload_n hx hb dX10_time_0 rfl (lv_at hl 1 rfl) ?_
  obtain ⟨x4, S1, hc2, hf⟩ := cl_of hf
  refine cl_RX10_203 (As := [.int a1]) (rest := []) hC hR hS (c_X10_isFarmer l G n a1 S x4 S1 hc2 ) rfl ⟨Nat.le_of_ble_eq_true rfl, Nat.le_of_ble_eq_true rfl⟩ hl.1 rfl (Nat.le_of_ble_eq_true rfl) dX10_time_1 (Nat.zero_le _) (Nat.zero_le _) (fun H locs hR hS hE3 => ?_)
  have ok_this := hE3 _ _ ok_this
  have hE := hE.tr hE3
  refine lv_if_eq (tgt := 39) hx hb dX10_time_4 (by decide) (fun hc => ?_) (fun hc => ?_)
  · replace hf := if_t hf hc
    refine lv_iconst (v := -1) hx hb dX10_time_39 (by decide) ?_
    exact r_iret hC hR hS hE hf dX10_time_40
  · replace hf := if_f hf hc
    refine lv_aload_n hx hb dX10_time_7 rfl (lv_at hl 0 rfl) ?_
    obtain ⟨q5, hq6, ok_q5, hf⟩ := gR_of hf
    refine gf_RX10_69 hC hR ok_this hq6 dX10_time_8 ?_
    refine lv_iload_n hx hb dX10_time_11 rfl (lv_at hl 2 rfl) ?_
    obtain ⟨x10, S7, hc8, hf⟩ := cl_of hf
    refine cl_RX10_101 (As := [.int a2]) (rest := []) hC hR hS (c_X1_holds l G n q5 a2 S1 x10 S7 hc8 ok_q5) ok_q5 rfl ⟨Nat.le_of_ble_eq_true rfl, Nat.le_of_ble_eq_true rfl⟩ hl.1 rfl (Nat.le_of_ble_eq_true rfl) dX10_time_12 (Nat.zero_le _) (Nat.zero_le _) (fun H locs hR hS hE9 => ?_)
    have ok_this := hE9 _ _ ok_this
    have ok_q5 := hE9 _ _ ok_q5
    have hE := hE.tr hE9
    refine lv_if_eq (tgt := 39) hx hb dX10_time_15 (by decide) (fun hc => ?_) (fun hc => ?_)
    · replace hf := if_t hf hc
      refine lv_iconst (v := -1) hx hb dX10_time_39 (by decide) ?_
      exact r_iret hC hR hS hE hf dX10_time_40
    · replace hf := if_f hf hc
      refine lv_iload_n hx hb dX10_time_18 rfl (lv_at hl 3 rfl) ?_
      refine lv_iconst (v := 1) hx hb dX10_time_19 (by decide) ?_
      refine lv_icmp_lt (tgt := 39) hx hb dX10_time_20 (by decide) (fun hc => ?_) (fun hc => ?_)
      · replace hf := if_t hf hc
        refine lv_iconst (v := -1) hx hb dX10_time_39 (by decide) ?_
        exact r_iret hC hR hS hE hf dX10_time_40
      · replace hf := if_f hf hc
        refine lv_iload_n hx hb dX10_time_23 rfl (lv_at hl 3 rfl) ?_
        refine lv_bipush (v := 20) hx hb dX10_time_24 (by decide) ?_
        refine lv_icmp_gt (tgt := 39) hx hb dX10_time_26 (by decide) (fun hc => ?_) (fun hc => ?_)
        · replace hf := if_t hf hc
          refine lv_iconst (v := -1) hx hb dX10_time_39 (by decide) ?_
          exact r_iret hC hR hS hE hf dX10_time_40
        · replace hf := if_f hf hc
          refine lv_aload_n hx hb dX10_time_29 rfl (lv_at hl 0 rfl) ?_
          obtain ⟨q11, hq12, ok_q11, hf⟩ := gR_of hf
          refine gf_RX10_10 hC hR ok_this hq12 dX10_time_30 ?_
          refine gf_RX10_274 hC hR ok_q11 dX10_time_33 ?_
          refine lv_if_ne (tgt := 41) hx hb dX10_time_36 (by decide) (fun hc => ?_) (fun hc => ?_)
          · replace hf := if_f hf hc
            refine lv_aload_n hx hb dX10_time_41 rfl (lv_at hl 0 rfl) ?_
            obtain ⟨q13, hq14, ok_q13, hf⟩ := gR_of hf
            refine gf_RX10_90 hC hR ok_this hq14 dX10_time_42 ?_
            refine lv_iload_n hx hb dX10_time_45 rfl (lv_at hl 1 rfl) ?_
            refine lv_iload_n hx hb dX10_time_46 rfl (lv_at hl 2 rfl) ?_
            refine lv_iload_n hx hb dX10_time_47 rfl (lv_at hl 3 rfl) ?_
            obtain ⟨x18, S15, hc16, hf⟩ := cl_of hf
            refine cl_RX10_277 (As := [.int a1, .int a2, .int a3]) (rest := []) hC hR hS (c_X2_firstSowing l G n q13 a1 a2 a3 S7 x18 S15 hc16 ok_q13) ok_q13 rfl ⟨Nat.le_of_ble_eq_true rfl, Nat.le_of_ble_eq_true rfl⟩ hl.1 rfl (Nat.le_of_ble_eq_true rfl) dX10_time_48 (Nat.zero_le _) (Nat.zero_le _) (fun H locs hR hS hE17 => ?_)
            have ok_this := hE17 _ _ ok_this
            have ok_q5 := hE17 _ _ ok_q5
            have ok_q11 := hE17 _ _ ok_q11
            have ok_q13 := hE17 _ _ ok_q13
            have hE := hE.tr hE17
            exact r_iret hC hR hS hE hf dX10_time_51
          · replace hf := if_t hf hc
            refine lv_iconst (v := -1) hx hb dX10_time_39 (by decide) ?_
            exact r_iret hC hR hS hE hf dX10_time_40
abbrev rX10_keeps : Room := { frames := 8, cells := 0, slots := 0, locals := 209 }
def f_X10_keeps (n : Nat) (this : Nat) (a1 : Int32) (a2 : Int32) (a3 : Int32) (a4 : Int32) (S : MS) : Option (Int32 × MS) :=
  cl (f_X10_isFarmer n a1 S) fun x4 S1 => (if x4 = 0 then some ((-1 : Int32), S1) else gR S1 (mR S1 this 0) 1 fun q5 => cl (f_X1_holds n q5 a2 S1) fun x10 S7 => (if x10 = 0 then some ((-1 : Int32), S7) else gR S7 (mR S7 this 1) 3 fun q11 => cl (f_X3_isBone n q11 a3 S7) fun x16 S13 => (if x16 = 0 then some ((-1 : Int32), S13) else (if a4 < (1 : Int32) then some ((-1 : Int32), S13) else (if (40 : Int32) < a4 then some ((-1 : Int32), S13) else gR S13 (mR S13 this 3) 8 fun q17 => (if (mI S13 q17 6) = 0 then some ((-1 : Int32), S13) else gR S13 (mR S13 this 10) 2 fun q19 => cl (f_X2_leastMore n q19 a1 a2 a3 a4 S13) fun x24 S21 => some (x24, S21)))))))
set_option maxRecDepth 100000 in
set_option maxHeartbeats 4000000 in
theorem c_X10_keeps (l : Launch) (G : Gx) (n : Nat) (this : Nat) (a1 : Int32) (a2 : Int32) (a3 : Int32) (a4 : Int32) (S : MS) (ro : Int32) (So : MS) (hf : f_X10_keeps n this a1 a2 a3 a4 S = some (ro, So)) (ok_this : Ok S this 10) : Cn G l yX10_keeps cX10_keeps 5 (some .int) rX10_keeps [.ref this, .int a1, .int a2, .int a3, .int a4] S (some (.int ro)) So := by
  refine Cn.of (by decide) (Nat.le_of_ble_eq_true rfl) ?_
  intro p e s m args below meth c hC hname hR ls hl
  have hC : Cx G RX10 cX10_keeps 5 (some .int) p s m args meth c := hC
  have hl : lv_has ls 5 [(0, .ref this), (1, .int a1), (2, .int a2), (3, .int a3), (4, .int a4)] := hl
  have hx := hC.x
  have hb := hC.b
  have hS : va_S (gA G) s.heap s.heap [] := va_S.rf
  have hE : Ex S S := Ex.rf S
  unfold f_X10_keeps at hf
  refine lv_iload_n hx hb dX10_keeps_0 rfl (lv_at hl 1 rfl) ?_
  obtain ⟨x4, S1, hc2, hf⟩ := cl_of hf
  refine cl_RX10_203 (As := [.int a1]) (rest := []) hC hR hS (c_X10_isFarmer l G n a1 S x4 S1 hc2 ) rfl ⟨Nat.le_of_ble_eq_true rfl, Nat.le_of_ble_eq_true rfl⟩ hl.1 rfl (Nat.le_of_ble_eq_true rfl) dX10_keeps_1 (Nat.zero_le _) (Nat.zero_le _) (fun H locs hR hS hE3 => ?_)
  have ok_this := hE3 _ _ ok_this
  have hE := hE.tr hE3
  refine lv_if_eq (tgt := 29) hx hb dX10_keeps_4 (by decide) (fun hc => ?_) (fun hc => ?_)
  · replace hf := if_t hf hc
    refine lv_iconst (v := -1) hx hb dX10_keeps_29 (by decide) ?_
    exact r_iret hC hR hS hE hf dX10_keeps_30
  · replace hf := if_f hf hc
    refine lv_aload_n hx hb dX10_keeps_7 rfl (lv_at hl 0 rfl) ?_
    obtain ⟨q5, hq6, ok_q5, hf⟩ := gR_of hf
    refine gf_RX10_69 hC hR ok_this hq6 dX10_keeps_8 ?_
    refine lv_iload_n hx hb dX10_keeps_11 rfl (lv_at hl 2 rfl) ?_
    obtain ⟨x10, S7, hc8, hf⟩ := cl_of hf
    refine cl_RX10_101 (As := [.int a2]) (rest := []) hC hR hS (c_X1_holds l G n q5 a2 S1 x10 S7 hc8 ok_q5) ok_q5 rfl ⟨Nat.le_of_ble_eq_true rfl, Nat.le_of_ble_eq_true rfl⟩ hl.1 rfl (Nat.le_of_ble_eq_true rfl) dX10_keeps_12 (Nat.zero_le _) (Nat.zero_le _) (fun H locs hR hS hE9 => ?_)
    have ok_this := hE9 _ _ ok_this
    have ok_q5 := hE9 _ _ ok_q5
    have hE := hE.tr hE9
    refine lv_if_eq (tgt := 29) hx hb dX10_keeps_15 (by decide) (fun hc => ?_) (fun hc => ?_)
    · replace hf := if_t hf hc
      refine lv_iconst (v := -1) hx hb dX10_keeps_29 (by decide) ?_
      exact r_iret hC hR hS hE hf dX10_keeps_30
    · replace hf := if_f hf hc
      refine lv_aload_n hx hb dX10_keeps_18 rfl (lv_at hl 0 rfl) ?_
      obtain ⟨q11, hq12, ok_q11, hf⟩ := gR_of hf
      refine gf_RX10_78 hC hR ok_this hq12 dX10_keeps_19 ?_
      refine lv_iload_n hx hb dX10_keeps_22 rfl (lv_at hl 3 rfl) ?_
      obtain ⟨x16, S13, hc14, hf⟩ := cl_of hf
      refine cl_RX10_163 (As := [.int a3]) (rest := []) hC hR hS (c_X3_isBone l G n q11 a3 S7 x16 S13 hc14 ok_q11) ok_q11 rfl ⟨Nat.le_of_ble_eq_true rfl, Nat.le_of_ble_eq_true rfl⟩ hl.1 rfl (Nat.le_of_ble_eq_true rfl) dX10_keeps_23 (Nat.zero_le _) (Nat.zero_le _) (fun H locs hR hS hE15 => ?_)
      have ok_this := hE15 _ _ ok_this
      have ok_q5 := hE15 _ _ ok_q5
      have ok_q11 := hE15 _ _ ok_q11
      have hE := hE.tr hE15
      refine lv_if_ne (tgt := 31) hx hb dX10_keeps_26 (by decide) (fun hc => ?_) (fun hc => ?_)
      · replace hf := if_f hf hc
        refine lv_iload hx hb dX10_keeps_31 (lv_at hl 4 rfl) ?_
        refine lv_iconst (v := 1) hx hb dX10_keeps_33 (by decide) ?_
        refine lv_icmp_lt (tgt := 54) hx hb dX10_keeps_34 (by decide) (fun hc => ?_) (fun hc => ?_)
        · replace hf := if_t hf hc
          refine lv_iconst (v := -1) hx hb dX10_keeps_54 (by decide) ?_
          exact r_iret hC hR hS hE hf dX10_keeps_55
        · replace hf := if_f hf hc
          refine lv_iload hx hb dX10_keeps_37 (lv_at hl 4 rfl) ?_
          refine lv_bipush (v := 40) hx hb dX10_keeps_39 (by decide) ?_
          refine lv_icmp_gt (tgt := 54) hx hb dX10_keeps_41 (by decide) (fun hc => ?_) (fun hc => ?_)
          · replace hf := if_t hf hc
            refine lv_iconst (v := -1) hx hb dX10_keeps_54 (by decide) ?_
            exact r_iret hC hR hS hE hf dX10_keeps_55
          · replace hf := if_f hf hc
            refine lv_aload_n hx hb dX10_keeps_44 rfl (lv_at hl 0 rfl) ?_
            obtain ⟨q17, hq18, ok_q17, hf⟩ := gR_of hf
            refine gf_RX10_10 hC hR ok_this hq18 dX10_keeps_45 ?_
            refine gf_RX10_274 hC hR ok_q17 dX10_keeps_48 ?_
            refine lv_if_ne (tgt := 56) hx hb dX10_keeps_51 (by decide) (fun hc => ?_) (fun hc => ?_)
            · replace hf := if_f hf hc
              refine lv_aload_n hx hb dX10_keeps_56 rfl (lv_at hl 0 rfl) ?_
              obtain ⟨q19, hq20, ok_q19, hf⟩ := gR_of hf
              refine gf_RX10_90 hC hR ok_this hq20 dX10_keeps_57 ?_
              refine lv_iload_n hx hb dX10_keeps_60 rfl (lv_at hl 1 rfl) ?_
              refine lv_iload_n hx hb dX10_keeps_61 rfl (lv_at hl 2 rfl) ?_
              refine lv_iload_n hx hb dX10_keeps_62 rfl (lv_at hl 3 rfl) ?_
              refine lv_iload hx hb dX10_keeps_63 (lv_at hl 4 rfl) ?_
              obtain ⟨x24, S21, hc22, hf⟩ := cl_of hf
              refine cl_RX10_281 (As := [.int a1, .int a2, .int a3, .int a4]) (rest := []) hC hR hS (c_X2_leastMore l G n q19 a1 a2 a3 a4 S13 x24 S21 hc22 ok_q19) ok_q19 rfl ⟨Nat.le_of_ble_eq_true rfl, Nat.le_of_ble_eq_true rfl⟩ hl.1 rfl (Nat.le_of_ble_eq_true rfl) dX10_keeps_65 (Nat.zero_le _) (Nat.zero_le _) (fun H locs hR hS hE23 => ?_)
              have ok_this := hE23 _ _ ok_this
              have ok_q5 := hE23 _ _ ok_q5
              have ok_q11 := hE23 _ _ ok_q11
              have ok_q17 := hE23 _ _ ok_q17
              have ok_q19 := hE23 _ _ ok_q19
              have hE := hE.tr hE23
              exact r_iret hC hR hS hE hf dX10_keeps_68
            · replace hf := if_t hf hc
              refine lv_iconst (v := -1) hx hb dX10_keeps_54 (by decide) ?_
              exact r_iret hC hR hS hE hf dX10_keeps_55
      · replace hf := if_t hf hc
        refine lv_iconst (v := -1) hx hb dX10_keeps_29 (by decide) ?_
        exact r_iret hC hR hS hE hf dX10_keeps_30
abbrev rX10_calm : Room := { frames := 7, cells := 0, slots := 0, locals := 181 }
def f_X10_calm (n : Nat) (this : Nat) (S : MS) : Option (Int32 × MS) :=
  gR S (mR S this 3) 8 fun q1 => (if (mI S q1 6) = 0 then some ((-1 : Int32), S) else gR S (mR S this 10) 2 fun q3 => cl (f_X2_calmHours n q3 S) fun x8 S5 => some (x8, S5))
set_option maxRecDepth 100000 in
set_option maxHeartbeats 4000000 in
theorem c_X10_calm (l : Launch) (G : Gx) (n : Nat) (this : Nat) (S : MS) (ro : Int32) (So : MS) (hf : f_X10_calm n this S = some (ro, So)) (ok_this : Ok S this 10) : Cn G l yX10_calm cX10_calm 1 (some .int) rX10_calm [.ref this] S (some (.int ro)) So := by
  refine Cn.of (by decide) (Nat.le_of_ble_eq_true rfl) ?_
  intro p e s m args below meth c hC hname hR ls hl
  have hC : Cx G RX10 cX10_calm 1 (some .int) p s m args meth c := hC
  have hl : lv_has ls 1 [(0, .ref this)] := hl
  have hx := hC.x
  have hb := hC.b
  have hS : va_S (gA G) s.heap s.heap [] := va_S.rf
  have hE : Ex S S := Ex.rf S
  unfold f_X10_calm at hf
  refine lv_aload_n hx hb dX10_calm_0 rfl (lv_at hl 0 rfl) ?_
  obtain ⟨q1, hq2, ok_q1, hf⟩ := gR_of hf
  refine gf_RX10_10 hC hR ok_this hq2 dX10_calm_1 ?_
  refine gf_RX10_274 hC hR ok_q1 dX10_calm_4 ?_
  refine lv_if_ne (tgt := 14) hx hb dX10_calm_7 (by decide) (fun hc => ?_) (fun hc => ?_)
  · replace hf := if_f hf hc
    refine lv_aload_n hx hb dX10_calm_14 rfl (lv_at hl 0 rfl) ?_
    obtain ⟨q3, hq4, ok_q3, hf⟩ := gR_of hf
    refine gf_RX10_90 hC hR ok_this hq4 dX10_calm_15 ?_
    obtain ⟨x8, S5, hc6, hf⟩ := cl_of hf
    refine cl_RX10_284 (As := []) (rest := []) hC hR hS (c_X2_calmHours l G n q3 S x8 S5 hc6 ok_q3) ok_q3 rfl ⟨Nat.le_of_ble_eq_true rfl, Nat.le_of_ble_eq_true rfl⟩ hl.1 rfl (Nat.le_of_ble_eq_true rfl) dX10_calm_18 (Nat.zero_le _) (Nat.zero_le _) (fun H locs hR hS hE7 => ?_)
    have ok_this := hE7 _ _ ok_this
    have ok_q1 := hE7 _ _ ok_q1
    have ok_q3 := hE7 _ _ ok_q3
    have hE := hE.tr hE7
    exact r_iret hC hR hS hE hf dX10_calm_21
  · replace hf := if_t hf hc
    refine lv_iconst (v := -1) hx hb dX10_calm_10 (by decide) ?_
    refine lv_goto (tgt := 21) hx hb dX10_calm_11 (by decide) ?_
    exact r_iret hC hR hS hE hf dX10_calm_21
abbrev rX10_disputes : Room := { frames := 7, cells := 0, slots := 0, locals := 183 }
def f_X10_disputes (n : Nat) (this : Nat) (a1 : Int32) (S : MS) : Option (Int32 × MS) :=
  (if a1 < 0 then some ((-1 : Int32), S) else (if a1 ≤ (40 : Int32) then (if a1 = 0 then gR S (mR S this 1) 3 fun q9 => cl (f_X3_disputed n q9 S) fun x14 S11 => some (x14, S11) else gR S (mR S this 3) 8 fun q1 => (if (mI S q1 6) = 0 then some ((-1 : Int32), S) else gR S (mR S this 10) 2 fun q3 => cl (f_X2_disputedBehind n q3 a1 S) fun x8 S5 => some (x8, S5))) else some ((-1 : Int32), S)))
set_option maxRecDepth 100000 in
set_option maxHeartbeats 4000000 in
theorem c_X10_disputes (l : Launch) (G : Gx) (n : Nat) (this : Nat) (a1 : Int32) (S : MS) (ro : Int32) (So : MS) (hf : f_X10_disputes n this a1 S = some (ro, So)) (ok_this : Ok S this 10) : Cn G l yX10_disputes cX10_disputes 2 (some .int) rX10_disputes [.ref this, .int a1] S (some (.int ro)) So := by
  refine Cn.of (by decide) (Nat.le_of_ble_eq_true rfl) ?_
  intro p e s m args below meth c hC hname hR ls hl
  have hC : Cx G RX10 cX10_disputes 2 (some .int) p s m args meth c := hC
  have hl : lv_has ls 2 [(0, .ref this), (1, .int a1)] := hl
  have hx := hC.x
  have hb := hC.b
  have hS : va_S (gA G) s.heap s.heap [] := va_S.rf
  have hE : Ex S S := Ex.rf S
  unfold f_X10_disputes at hf
  refine lv_iload_n hx hb dX10_disputes_0 rfl (lv_at hl 1 rfl) ?_
  refine lv_if_lt (tgt := 10) hx hb dX10_disputes_1 (by decide) (fun hc => ?_) (fun hc => ?_)
  · replace hf := if_t hf hc
    refine lv_iconst (v := -1) hx hb dX10_disputes_10 (by decide) ?_
    exact r_iret hC hR hS hE hf dX10_disputes_11
  · replace hf := if_f hf hc
    refine lv_iload_n hx hb dX10_disputes_4 rfl (lv_at hl 1 rfl) ?_
    refine lv_bipush (v := 40) hx hb dX10_disputes_5 (by decide) ?_
    refine lv_icmp_le (tgt := 12) hx hb dX10_disputes_7 (by decide) (fun hc => ?_) (fun hc => ?_)
    · replace hf := if_t hf hc
      refine lv_iload_n hx hb dX10_disputes_12 rfl (lv_at hl 1 rfl) ?_
      refine lv_if_ne (tgt := 24) hx hb dX10_disputes_13 (by decide) (fun hc => ?_) (fun hc => ?_)
      · replace hf := if_f hf hc
        refine lv_aload_n hx hb dX10_disputes_24 rfl (lv_at hl 0 rfl) ?_
        obtain ⟨q1, hq2, ok_q1, hf⟩ := gR_of hf
        refine gf_RX10_10 hC hR ok_this hq2 dX10_disputes_25 ?_
        refine gf_RX10_274 hC hR ok_q1 dX10_disputes_28 ?_
        refine lv_if_ne (tgt := 38) hx hb dX10_disputes_31 (by decide) (fun hc => ?_) (fun hc => ?_)
        · replace hf := if_f hf hc
          refine lv_aload_n hx hb dX10_disputes_38 rfl (lv_at hl 0 rfl) ?_
          obtain ⟨q3, hq4, ok_q3, hf⟩ := gR_of hf
          refine gf_RX10_90 hC hR ok_this hq4 dX10_disputes_39 ?_
          refine lv_iload_n hx hb dX10_disputes_42 rfl (lv_at hl 1 rfl) ?_
          obtain ⟨x8, S5, hc6, hf⟩ := cl_of hf
          refine cl_RX10_291 (As := [.int a1]) (rest := []) hC hR hS (c_X2_disputedBehind l G n q3 a1 S x8 S5 hc6 ok_q3) ok_q3 rfl ⟨Nat.le_of_ble_eq_true rfl, Nat.le_of_ble_eq_true rfl⟩ hl.1 rfl (Nat.le_of_ble_eq_true rfl) dX10_disputes_43 (Nat.zero_le _) (Nat.zero_le _) (fun H locs hR hS hE7 => ?_)
          have ok_this := hE7 _ _ ok_this
          have ok_q1 := hE7 _ _ ok_q1
          have ok_q3 := hE7 _ _ ok_q3
          have hE := hE.tr hE7
          exact r_iret hC hR hS hE hf dX10_disputes_46
        · replace hf := if_t hf hc
          refine lv_iconst (v := -1) hx hb dX10_disputes_34 (by decide) ?_
          refine lv_goto (tgt := 46) hx hb dX10_disputes_35 (by decide) ?_
          exact r_iret hC hR hS hE hf dX10_disputes_46
      · replace hf := if_t hf hc
        refine lv_aload_n hx hb dX10_disputes_16 rfl (lv_at hl 0 rfl) ?_
        obtain ⟨q9, hq10, ok_q9, hf⟩ := gR_of hf
        refine gf_RX10_78 hC hR ok_this hq10 dX10_disputes_17 ?_
        obtain ⟨x14, S11, hc12, hf⟩ := cl_of hf
        refine cl_RX10_288 (As := []) (rest := []) hC hR hS (c_X3_disputed l G n q9 S x14 S11 hc12 ok_q9) ok_q9 rfl ⟨Nat.le_of_ble_eq_true rfl, Nat.le_of_ble_eq_true rfl⟩ hl.1 rfl (Nat.le_of_ble_eq_true rfl) dX10_disputes_20 (Nat.zero_le _) (Nat.zero_le _) (fun H locs hR hS hE13 => ?_)
        have ok_this := hE13 _ _ ok_this
        have ok_q9 := hE13 _ _ ok_q9
        have hE := hE.tr hE13
        exact r_iret hC hR hS hE hf dX10_disputes_23
    · replace hf := if_f hf hc
      refine lv_iconst (v := -1) hx hb dX10_disputes_10 (by decide) ?_
      exact r_iret hC hR hS hE hf dX10_disputes_11
abbrev rX10_map : Room := { frames := 1, cells := 0, slots := 0, locals := 21 }
def f_X10_map (n : Nat) (this : Nat) (a1 : Int32) (a2 : Int32) (S : MS) : Option (Int32 × MS) :=
  gR S (mR S this 1) 3 fun q1 => cl (f_X3_isBone n q1 a1 S) fun x6 S3 => (if x6 = 0 then zb (0 : Int32) (some ((0 : Int32), S3)) else (if a2 = (-1 : Int32) then gR S3 (mR S3 this 3) 8 fun q7 => gR S3 (mR S3 q7 5) 12 fun q9 => ck (inb a1 (mN S3 q9)) (bd (sI S3 q9 a1.toNatClampNeg a2) fun S12 => zb (1 : Int32) (some ((1 : Int32), S12))) else gR S3 (mR S3 this 0) 1 fun q14 => cl (f_X1_holds n q14 a2 S3) fun x19 S16 => (if x19 = 0 then zb (0 : Int32) (some ((0 : Int32), S16)) else gR S16 (mR S16 this 3) 8 fun q20 => gR S16 (mR S16 q20 5) 12 fun q22 => ck (inb a1 (mN S16 q22)) (bd (sI S16 q22 a1.toNatClampNeg a2) fun S25 => zb (1 : Int32) (some ((1 : Int32), S25))))))
set_option maxRecDepth 100000 in
set_option maxHeartbeats 4000000 in
theorem c_X10_map (l : Launch) (G : Gx) (n : Nat) (this : Nat) (a1 : Int32) (a2 : Int32) (S : MS) (ro : Int32) (So : MS) (hf : f_X10_map n this a1 a2 S = some (ro, So)) (ok_this : Ok S this 10) : Cn G l yX10_map cX10_map 3 (some .boolean) rX10_map [.ref this, .int a1, .int a2] S (some (.int ro)) So := by
  refine Cn.of (by decide) (Nat.le_of_ble_eq_true rfl) ?_
  intro p e s m args below meth c hC hname hR ls hl
  have hC : Cx G RX10 cX10_map 3 (some .boolean) p s m args meth c := hC
  have hl : lv_has ls 3 [(0, .ref this), (1, .int a1), (2, .int a2)] := hl
  have hx := hC.x
  have hb := hC.b
  have hS : va_S (gA G) s.heap s.heap [] := va_S.rf
  have hE : Ex S S := Ex.rf S
  unfold f_X10_map at hf
  refine lv_aload_n hx hb dX10_map_0 rfl (lv_at hl 0 rfl) ?_
  obtain ⟨q1, hq2, ok_q1, hf⟩ := gR_of hf
  refine gf_RX10_78 hC hR ok_this hq2 dX10_map_1 ?_
  refine lv_iload_n hx hb dX10_map_4 rfl (lv_at hl 1 rfl) ?_
  obtain ⟨x6, S3, hc4, hf⟩ := cl_of hf
  refine cl_RX10_163 (As := [.int a1]) (rest := []) hC hR hS (c_X3_isBone l G n q1 a1 S x6 S3 hc4 ok_q1) ok_q1 rfl ⟨Nat.le_of_ble_eq_true rfl, Nat.le_of_ble_eq_true rfl⟩ hl.1 rfl (Nat.le_of_ble_eq_true rfl) dX10_map_5 (Nat.zero_le _) (Nat.zero_le _) (fun H locs hR hS hE5 => ?_)
  have ok_this := hE5 _ _ ok_this
  have ok_q1 := hE5 _ _ ok_q1
  have hE := hE.tr hE5
  refine lv_if_eq (tgt := 27) hx hb dX10_map_8 (by decide) (fun hc => ?_) (fun hc => ?_)
  · replace hf := if_t hf hc
    refine lv_iconst (v := 0) hx hb dX10_map_27 (by decide) ?_
    exact r_zret hC hR hS hE hf dX10_map_28
  · replace hf := if_f hf hc
    refine lv_iload_n hx hb dX10_map_11 rfl (lv_at hl 2 rfl) ?_
    refine lv_iconst (v := -1) hx hb dX10_map_12 (by decide) ?_
    refine lv_icmp_eq (tgt := 29) hx hb dX10_map_13 (by decide) (fun hc => ?_) (fun hc => ?_)
    · replace hf := if_t hf hc
      refine lv_aload_n hx hb dX10_map_29 rfl (lv_at hl 0 rfl) ?_
      obtain ⟨q7, hq8, ok_q7, hf⟩ := gR_of hf
      refine gf_RX10_10 hC hR ok_this hq8 dX10_map_30 ?_
      obtain ⟨q9, hq10, ok_q9, hf⟩ := gR_of hf
      refine gf_RX10_294 hC hR ok_q7 hq10 dX10_map_33 ?_
      refine lv_iload_n hx hb dX10_map_36 rfl (lv_at hl 1 rfl) ?_
      refine lv_iload_n hx hb dX10_map_37 rfl (lv_at hl 2 rfl) ?_
      obtain ⟨hi11, hf⟩ := ck_of hf
      refine rB_iast hC hR hS ok_q9 hi11 dX10_map_38 hf (fun S12 H locs hf hR hS hE13 => ?_)
      have ok_this := hE13 _ _ ok_this
      have ok_q1 := hE13 _ _ ok_q1
      have ok_q7 := hE13 _ _ ok_q7
      have ok_q9 := hE13 _ _ ok_q9
      have hE := hE.tr hE13
      refine lv_iconst (v := 1) hx hb dX10_map_39 (by decide) ?_
      exact r_zret hC hR hS hE hf dX10_map_40
    · replace hf := if_f hf hc
      refine lv_aload_n hx hb dX10_map_16 rfl (lv_at hl 0 rfl) ?_
      obtain ⟨q14, hq15, ok_q14, hf⟩ := gR_of hf
      refine gf_RX10_69 hC hR ok_this hq15 dX10_map_17 ?_
      refine lv_iload_n hx hb dX10_map_20 rfl (lv_at hl 2 rfl) ?_
      obtain ⟨x19, S16, hc17, hf⟩ := cl_of hf
      refine cl_RX10_101 (As := [.int a2]) (rest := []) hC hR hS (c_X1_holds l G n q14 a2 S3 x19 S16 hc17 ok_q14) ok_q14 rfl ⟨Nat.le_of_ble_eq_true rfl, Nat.le_of_ble_eq_true rfl⟩ hl.1 rfl (Nat.le_of_ble_eq_true rfl) dX10_map_21 (Nat.zero_le _) (Nat.zero_le _) (fun H locs hR hS hE18 => ?_)
      have ok_this := hE18 _ _ ok_this
      have ok_q1 := hE18 _ _ ok_q1
      have ok_q14 := hE18 _ _ ok_q14
      have hE := hE.tr hE18
      refine lv_if_ne (tgt := 29) hx hb dX10_map_24 (by decide) (fun hc => ?_) (fun hc => ?_)
      · replace hf := if_f hf hc
        refine lv_aload_n hx hb dX10_map_29 rfl (lv_at hl 0 rfl) ?_
        obtain ⟨q20, hq21, ok_q20, hf⟩ := gR_of hf
        refine gf_RX10_10 hC hR ok_this hq21 dX10_map_30 ?_
        obtain ⟨q22, hq23, ok_q22, hf⟩ := gR_of hf
        refine gf_RX10_294 hC hR ok_q20 hq23 dX10_map_33 ?_
        refine lv_iload_n hx hb dX10_map_36 rfl (lv_at hl 1 rfl) ?_
        refine lv_iload_n hx hb dX10_map_37 rfl (lv_at hl 2 rfl) ?_
        obtain ⟨hi24, hf⟩ := ck_of hf
        refine rB_iast hC hR hS ok_q22 hi24 dX10_map_38 hf (fun S25 H locs hf hR hS hE26 => ?_)
        have ok_this := hE26 _ _ ok_this
        have ok_q1 := hE26 _ _ ok_q1
        have ok_q14 := hE26 _ _ ok_q14
        have ok_q20 := hE26 _ _ ok_q20
        have ok_q22 := hE26 _ _ ok_q22
        have hE := hE.tr hE26
        refine lv_iconst (v := 1) hx hb dX10_map_39 (by decide) ?_
        exact r_zret hC hR hS hE hf dX10_map_40
      · replace hf := if_t hf hc
        refine lv_iconst (v := 0) hx hb dX10_map_27 (by decide) ?_
        exact r_zret hC hR hS hE hf dX10_map_28
abbrev rX10_made : Room := { frames := 6, cells := 0, slots := 0, locals := 163 }
def f_X10_made (n : Nat) (this : Nat) (S : MS) : Option (Int32 × MS) :=
  gR S (mR S this 10) 2 fun q1 => cl (f_X2_makers n q1 S) fun x6 S3 => some (x6, S3)
set_option maxRecDepth 100000 in
set_option maxHeartbeats 4000000 in
theorem c_X10_made (l : Launch) (G : Gx) (n : Nat) (this : Nat) (S : MS) (ro : Int32) (So : MS) (hf : f_X10_made n this S = some (ro, So)) (ok_this : Ok S this 10) : Cn G l yX10_made cX10_made 1 (some .int) rX10_made [.ref this] S (some (.int ro)) So := by
  refine Cn.of (by decide) (Nat.le_of_ble_eq_true rfl) ?_
  intro p e s m args below meth c hC hname hR ls hl
  have hC : Cx G RX10 cX10_made 1 (some .int) p s m args meth c := hC
  have hl : lv_has ls 1 [(0, .ref this)] := hl
  have hx := hC.x
  have hb := hC.b
  have hS : va_S (gA G) s.heap s.heap [] := va_S.rf
  have hE : Ex S S := Ex.rf S
  unfold f_X10_made at hf
  refine lv_aload_n hx hb dX10_made_0 rfl (lv_at hl 0 rfl) ?_
  obtain ⟨q1, hq2, ok_q1, hf⟩ := gR_of hf
  refine gf_RX10_90 hC hR ok_this hq2 dX10_made_1 ?_
  obtain ⟨x6, S3, hc4, hf⟩ := cl_of hf
  refine cl_RX10_297 (As := []) (rest := []) hC hR hS (c_X2_makers l G n q1 S x6 S3 hc4 ok_q1) ok_q1 rfl ⟨Nat.le_of_ble_eq_true rfl, Nat.le_of_ble_eq_true rfl⟩ hl.1 rfl (Nat.le_of_ble_eq_true rfl) dX10_made_4 (Nat.zero_le _) (Nat.zero_le _) (fun H locs hR hS hE5 => ?_)
  have ok_this := hE5 _ _ ok_this
  have ok_q1 := hE5 _ _ ok_q1
  have hE := hE.tr hE5
  exact r_iret hC hR hS hE hf dX10_made_7
abbrev rX10_hours : Room := { frames := 5, cells := 0, slots := 0, locals := 139 }
def f_X10_hours_L65 (n : Nat) (this : Nat) (a2 : Int32) (x6 : Int32) : Nat → Int32 → Int32 → Int32 → MS → Option (Int32 × MS)
  | 0, _, _, _, _ => none
  | k + 1, x12, x13, x14, S15 => jn (f_X10_hours_L65 n this a2 x6 k) fun rec65_11 => (if a2 ≤ x14 then some (x13, S15) else gR S15 (mR S15 this 9) 9 fun q16 => gR S15 (mR S15 this 1) 3 fun q18 => gR S15 (mR S15 this 3) 8 fun q20 => dv x6 (cl (f_X8_windAt n q20 (x12 - x12 / x6 * x6) S15) fun x26 S23 => cl (f_X9_blow n q16 q18 x26 S23) fun x30 S27 => bd (x13 + x30) fun x31 => dv (30103 : Int32) (bd (((x12 * (179 : Int32)) + (41 : Int32)) - ((x12 * (179 : Int32)) + (41 : Int32)) / (30103 : Int32) * (30103 : Int32)) fun x33 => bd (x14 + (1 : Int32)) fun x34 => rec65_11 x33 x31 x34 S27)))
def f_X10_hours (n : Nat) (this : Nat) (a1 : Int32) (a2 : Int32) (S : MS) : Option (Int32 × MS) :=
  gR S (mR S this 3) 8 fun q1 => cl (f_X8_allChances n q1 S) fun x6 S3 => (if a1 < 0 then some ((-1 : Int32), S3) else (if (9999 : Int32) < a1 then some ((-1 : Int32), S3) else (if a2 < (1 : Int32) then some ((-1 : Int32), S3) else (if (40 : Int32) < a2 then some ((-1 : Int32), S3) else (if x6 ≤ 0 then some ((-1 : Int32), S3) else gR S3 (mR S3 this 1) 3 fun q7 => (if ((mI S3 q7 8) + a2) ≤ (999 : Int32) then bd ((a1 * (3 : Int32)) + (8 : Int32)) fun x9 => f_X10_hours_L65 n this a2 x6 n x9 (0 : Int32) (0 : Int32) S3 else some ((-1 : Int32), S3)))))))
set_option maxRecDepth 100000 in
set_option maxHeartbeats 4000000 in
theorem c_X10_hours (l : Launch) (G : Gx) (n : Nat) (this : Nat) (a1 : Int32) (a2 : Int32) (S : MS) (ro : Int32) (So : MS) (hf : f_X10_hours n this a1 a2 S = some (ro, So)) (ok_this : Ok S this 10) : Cn G l yX10_hours cX10_hours 7 (some .int) rX10_hours [.ref this, .int a1, .int a2] S (some (.int ro)) So := by
  refine Cn.of (by decide) (Nat.le_of_ble_eq_true rfl) ?_
  intro p e s m args below meth c hC hname hR ls hl
  have hC : Cx G RX10 cX10_hours 7 (some .int) p s m args meth c := hC
  have hl : lv_has ls 7 [(0, .ref this), (1, .int a1), (2, .int a2)] := hl
  have hx := hC.x
  have hb := hC.b
  have hS : va_S (gA G) s.heap s.heap [] := va_S.rf
  have hE : Ex S S := Ex.rf S
  unfold f_X10_hours at hf
  refine lv_aload_n hx hb dX10_hours_0 rfl (lv_at hl 0 rfl) ?_
  obtain ⟨q1, hq2, ok_q1, hf⟩ := gR_of hf
  refine gf_RX10_10 hC hR ok_this hq2 dX10_hours_1 ?_
  obtain ⟨x6, S3, hc4, hf⟩ := cl_of hf
  refine cl_RX10_300 (As := []) (rest := []) hC hR hS (c_X8_allChances l G n q1 S x6 S3 hc4 ok_q1) ok_q1 rfl ⟨Nat.le_of_ble_eq_true rfl, Nat.le_of_ble_eq_true rfl⟩ hl.1 rfl (Nat.le_of_ble_eq_true rfl) dX10_hours_4 (Nat.zero_le _) (Nat.zero_le _) (fun H locs hR hS hE5 => ?_)
  have ok_this := hE5 _ _ ok_this
  have ok_q1 := hE5 _ _ ok_q1
  have hE := hE.tr hE5
  refine lv_istore_n (lv' := [(3, .int x6), (0, .ref this), (1, .int a1), (2, .int a2)]) hx hb dX10_hours_7 rfl hl (by decide) rfl (fun ls hl => ?_)
  refine lv_iload_n hx hb dX10_hours_8 rfl (lv_at hl 2 rfl) ?_
  refine lv_if_lt (tgt := 49) hx hb dX10_hours_9 (by decide) (fun hc => ?_) (fun hc => ?_)
  · replace hf := if_t hf hc
    refine lv_iconst (v := -1) hx hb dX10_hours_49 (by decide) ?_
    exact r_iret hC hR hS hE hf dX10_hours_50
  · replace hf := if_f hf hc
    refine lv_iload_n hx hb dX10_hours_12 rfl (lv_at hl 2 rfl) ?_
    refine lv_sipush (v := 9999) hx hb dX10_hours_13 (by decide) ?_
    refine lv_icmp_gt (tgt := 49) hx hb dX10_hours_16 (by decide) (fun hc => ?_) (fun hc => ?_)
    · replace hf := if_t hf hc
      refine lv_iconst (v := -1) hx hb dX10_hours_49 (by decide) ?_
      exact r_iret hC hR hS hE hf dX10_hours_50
    · replace hf := if_f hf hc
      refine lv_iload_n hx hb dX10_hours_19 rfl (lv_at hl 3 rfl) ?_
      refine lv_iconst (v := 1) hx hb dX10_hours_20 (by decide) ?_
      refine lv_icmp_lt (tgt := 49) hx hb dX10_hours_21 (by decide) (fun hc => ?_) (fun hc => ?_)
      · replace hf := if_t hf hc
        refine lv_iconst (v := -1) hx hb dX10_hours_49 (by decide) ?_
        exact r_iret hC hR hS hE hf dX10_hours_50
      · replace hf := if_f hf hc
        refine lv_iload_n hx hb dX10_hours_24 rfl (lv_at hl 3 rfl) ?_
        refine lv_bipush (v := 40) hx hb dX10_hours_25 (by decide) ?_
        refine lv_icmp_gt (tgt := 49) hx hb dX10_hours_27 (by decide) (fun hc => ?_) (fun hc => ?_)
        · replace hf := if_t hf hc
          refine lv_iconst (v := -1) hx hb dX10_hours_49 (by decide) ?_
          exact r_iret hC hR hS hE hf dX10_hours_50
        · replace hf := if_f hf hc
          refine lv_iload_n hx hb dX10_hours_30 rfl (lv_at hl 0 rfl) ?_
          refine lv_if_le (tgt := 49) hx hb dX10_hours_31 (by decide) (fun hc => ?_) (fun hc => ?_)
          · replace hf := if_t hf hc
            refine lv_iconst (v := -1) hx hb dX10_hours_49 (by decide) ?_
            exact r_iret hC hR hS hE hf dX10_hours_50
          · replace hf := if_f hf hc
            refine lv_aload_n hx hb dX10_hours_34 rfl (lv_at hl 1 rfl) ?_
            obtain ⟨q7, hq8, ok_q7, hf⟩ := gR_of hf
            refine gf_RX10_78 hC hR ok_this hq8 dX10_hours_35 ?_
            refine gf_RX10_224 hC hR ok_q7 dX10_hours_38 ?_
            refine lv_iload_n hx hb dX10_hours_41 rfl (lv_at hl 3 rfl) ?_
            refine lv_iadd hx hb dX10_hours_42 ?_
            refine lv_sipush (v := 999) hx hb dX10_hours_43 (by decide) ?_
            refine lv_icmp_le (tgt := 51) hx hb dX10_hours_46 (by decide) (fun hc => ?_) (fun hc => ?_)
            · replace hf := if_t hf hc
              refine lv_iload_n hx hb dX10_hours_51 rfl (lv_at hl 2 rfl) ?_
              refine lv_iconst (v := 3) hx hb dX10_hours_52 (by decide) ?_
              refine lv_imul hx hb dX10_hours_53 ?_
              refine lv_bipush (v := 8) hx hb dX10_hours_54 (by decide) ?_
              refine lv_iadd hx hb dX10_hours_56 ?_
              refine bdi hf (fun x9 hf => ?_)
              refine lv_istore (lv' := [(4, .int x9), (3, .int x6), (0, .ref this), (1, .int a1), (2, .int a2)]) hx hb dX10_hours_57 hl (by decide) rfl (fun ls hl => ?_)
              refine lv_iconst (v := 0) hx hb dX10_hours_59 (by decide) ?_
              refine lv_istore (lv' := [(5, .int (0 : Int32)), (4, .int x9), (3, .int x6), (0, .ref this), (1, .int a1), (2, .int a2)]) hx hb dX10_hours_60 hl (by decide) rfl (fun ls hl => ?_)
              refine lv_iconst (v := 0) hx hb dX10_hours_62 (by decide) ?_
              refine lv_istore (lv' := [(6, .int (0 : Int32)), (5, .int (0 : Int32)), (4, .int x9), (3, .int x6), (0, .ref this), (1, .int a1), (2, .int a2)]) hx hb dX10_hours_63 hl (by decide) rfl (fun ls hl => ?_)
              have hh35 : ∀ k : Nat, ∀ (x12 : Int32) (x13 : Int32) (x14 : Int32) (S15 : MS) (H : Heap) (locs : List Loc) (ls : Array Slot), f_X10_hours_L65 n this a2 x6 k x12 x13 x14 S15 = some (ro, So) → Rp G S15 H → va_S (gA G) s.heap H locs → Ex S S15 → Ok S15 this 10 → lv_has ls 7 [(0, .ref this), (2, .int a2), (3, .int x6), (4, .int x12), (5, .int x13), (6, .int x14)] → W p l e rX10_hours s m args below meth c H locs 0 0 (MQ below (Qn G S (some (.int ro)) So) args s 0 0 (gA G)) (F0 m 65 ls []) := by
                intro k
                induction k with
                | zero =>
                  intro x12 x13 x14 S15 H locs ls hf hR hS hE ok_this hl
                  exact absurd hf (by rw [f_X10_hours_L65]; exact fun h => by cases h)
                | succ k ih =>
                  intro x12 x13 x14 S15 H locs ls hf hR hS hE ok_this hl
                  rw [f_X10_hours_L65] at hf
                  obtain ⟨rec65_11, erec65_11, hf⟩ := jn_of4 hf
                  have hL65_10 : ∀ (x12 : Int32) (x13 : Int32) (x14 : Int32) (S15 : MS) (H : Heap) (locs : List Loc) (ls : Array Slot), rec65_11 x12 x13 x14 S15 = some (ro, So) → Rp G S15 H → va_S (gA G) s.heap H locs → Ex S S15 → Ok S15 this 10 → lv_has ls 7 [(0, .ref this), (2, .int a2), (3, .int x6), (4, .int x12), (5, .int x13), (6, .int x14)] → W p l e rX10_hours s m args below meth c H locs 0 0 (MQ below (Qn G S (some (.int ro)) So) args s 0 0 (gA G)) (F0 m 65 ls []) := by
                    intro x12 x13 x14 S15 H locs ls hf hR hS hE ok_this hl
                    rw [erec65_11] at hf
                    exact ih x12 x13 x14 S15 _ _ _ hf hR hS hE ok_this hl
                  refine lv_iload hx hb dX10_hours_65 (lv_at hl 5 rfl) ?_
                  refine lv_iload_n hx hb dX10_hours_67 rfl (lv_at hl 1 rfl) ?_
                  refine lv_icmp_ge (tgt := 119) hx hb dX10_hours_68 (by decide) (fun hc => ?_) (fun hc => ?_)
                  · replace hf := if_t hf hc
                    refine lv_iload hx hb dX10_hours_119 (lv_at hl 4 rfl) ?_
                    exact r_iret hC hR hS hE hf dX10_hours_121
                  · replace hf := if_f hf hc
                    refine lv_iload hx hb dX10_hours_71 (lv_at hl 4 rfl) ?_
                    refine lv_aload_n hx hb dX10_hours_73 rfl (lv_at hl 0 rfl) ?_
                    obtain ⟨q16, hq17, ok_q16, hf⟩ := gR_of hf
                    refine gf_RX10_51 hC hR ok_this hq17 dX10_hours_74 ?_
                    refine lv_aload_n hx hb dX10_hours_77 rfl (lv_at hl 0 rfl) ?_
                    obtain ⟨q18, hq19, ok_q18, hf⟩ := gR_of hf
                    refine gf_RX10_78 hC hR ok_this hq19 dX10_hours_78 ?_
                    refine lv_aload_n hx hb dX10_hours_81 rfl (lv_at hl 0 rfl) ?_
                    obtain ⟨q20, hq21, ok_q20, hf⟩ := gR_of hf
                    refine gf_RX10_10 hC hR ok_this hq21 dX10_hours_82 ?_
                    refine lv_iload hx hb dX10_hours_85 (lv_at hl 3 rfl) ?_
                    refine lv_iload_n hx hb dX10_hours_87 rfl (lv_at hl 2 rfl) ?_
                    obtain ⟨hn22, hf⟩ := dv_of hf
                    refine lv_irem hx hb dX10_hours_88 hn22 ?_
                    obtain ⟨x26, S23, hc24, hf⟩ := cl_of hf
                    refine cl_RX10_303 (As := [.int (x12 - x12 / x6 * x6)]) (rest := [.ref q18, .ref q16, .int x13]) hC hR hS (c_X8_windAt l G n q20 (x12 - x12 / x6 * x6) S15 x26 S23 hc24 ok_q20) ok_q20 rfl ⟨Nat.le_of_ble_eq_true rfl, Nat.le_of_ble_eq_true rfl⟩ hl.1 rfl (Nat.le_of_ble_eq_true rfl) dX10_hours_89 (Nat.zero_le _) (Nat.zero_le _) (fun H locs hR hS hE25 => ?_)
                    have ok_this := hE25 _ _ ok_this
                    have ok_q16 := hE25 _ _ ok_q16
                    have ok_q18 := hE25 _ _ ok_q18
                    have ok_q20 := hE25 _ _ ok_q20
                    have hE := hE.tr hE25
                    obtain ⟨x30, S27, hc28, hf⟩ := cl_of hf
                    refine cl_RX10_227 (As := [.ref q18, .int x26]) (rest := [.int x13]) hC hR hS (c_X9_blow l G n q16 q18 x26 S23 x30 S27 hc28 ok_q16 ok_q18) ok_q16 rfl ⟨Nat.le_of_ble_eq_true rfl, Nat.le_of_ble_eq_true rfl⟩ hl.1 rfl (Nat.le_of_ble_eq_true rfl) dX10_hours_92 (Nat.zero_le _) (Nat.zero_le _) (fun H locs hR hS hE29 => ?_)
                    have ok_this := hE29 _ _ ok_this
                    have ok_q16 := hE29 _ _ ok_q16
                    have ok_q18 := hE29 _ _ ok_q18
                    have ok_q20 := hE29 _ _ ok_q20
                    have hE := hE.tr hE29
                    refine lv_iadd hx hb dX10_hours_95 ?_
                    refine bdi hf (fun x31 hf => ?_)
                    refine lv_istore (lv' := [(5, .int x31), (0, .ref this), (2, .int a2), (3, .int x6), (4, .int x12), (6, .int x14)]) hx hb dX10_hours_96 hl (by decide) rfl (fun ls hl => ?_)
                    refine lv_iload hx hb dX10_hours_98 (lv_at hl 4 rfl) ?_
                    refine lv_sipush (v := 179) hx hb dX10_hours_100 (by decide) ?_
                    refine lv_imul hx hb dX10_hours_103 ?_
                    refine lv_bipush (v := 41) hx hb dX10_hours_104 (by decide) ?_
                    refine lv_iadd hx hb dX10_hours_106 ?_
                    refine lv_sipush (v := 30103) hx hb dX10_hours_107 (by decide) ?_
                    obtain ⟨hn32, hf⟩ := dv_of hf
                    refine lv_irem hx hb dX10_hours_110 hn32 ?_
                    refine bdi hf (fun x33 hf => ?_)
                    refine lv_istore (lv' := [(4, .int x33), (5, .int x31), (0, .ref this), (2, .int a2), (3, .int x6), (6, .int x14)]) hx hb dX10_hours_111 hl (by decide) rfl (fun ls hl => ?_)
                    refine r_iinc (n := 1) (z := 1) (lv' := fun x34 => [(6, .int x34), (4, .int x33), (5, .int x31), (0, .ref this), (2, .int a2), (3, .int x6)]) hx hb dX10_hours_113 hl (k := 5) rfl (by decide) (by decide) (fun _ => rfl) hf (fun x34 ls hf hl => ?_)
                    refine lv_goto (tgt := 65) hx hb dX10_hours_116 (by decide) ?_
                    exact hL65_10 x33 x31 x34 S27 _ _ _ hf hR hS hE ok_this (lv_sub hl [3, 4, 5, 1, 2, 0] rfl)
              exact hh35 n x9 (0 : Int32) (0 : Int32) S3 _ _ _ hf hR hS hE ok_this (lv_sub hl [4, 6, 3, 2, 1, 0] rfl)
            · replace hf := if_f hf hc
              refine lv_iconst (v := -1) hx hb dX10_hours_49 (by decide) ?_
              exact r_iret hC hR hS hE hf dX10_hours_50
abbrev rX10_image : Room := { frames := 2, cells := 0, slots := 0, locals := 141 }
def f_X10_image (n : Nat) (this : Nat) (S : MS) : Option (Int32 × MS) :=
  gR S (mR S this 2) 3 fun q1 => gR S (mR S this 1) 3 fun q3 => cv (f_X3_copyFrom n q1 q3 S) fun S5 => gR S5 (mR S5 this 4) 8 fun q8 => gR S5 (mR S5 this 3) 8 fun q10 => cv (f_X8_copyFrom n q8 q10 S5) fun S12 => gR S12 (mR S12 this 1) 3 fun q15 => some ((mI S12 q15 8), S12)
set_option maxRecDepth 100000 in
set_option maxHeartbeats 4000000 in
theorem c_X10_image (l : Launch) (G : Gx) (n : Nat) (this : Nat) (S : MS) (ro : Int32) (So : MS) (hf : f_X10_image n this S = some (ro, So)) (ok_this : Ok S this 10) : Cn G l yX10_image cX10_image 1 (some .int) rX10_image [.ref this] S (some (.int ro)) So := by
  refine Cn.of (by decide) (Nat.le_of_ble_eq_true rfl) ?_
  intro p e s m args below meth c hC hname hR ls hl
  have hC : Cx G RX10 cX10_image 1 (some .int) p s m args meth c := hC
  have hl : lv_has ls 1 [(0, .ref this)] := hl
  have hx := hC.x
  have hb := hC.b
  have hS : va_S (gA G) s.heap s.heap [] := va_S.rf
  have hE : Ex S S := Ex.rf S
  unfold f_X10_image at hf
  refine lv_aload_n hx hb dX10_image_0 rfl (lv_at hl 0 rfl) ?_
  obtain ⟨q1, hq2, ok_q1, hf⟩ := gR_of hf
  refine gf_RX10_82 hC hR ok_this hq2 dX10_image_1 ?_
  refine lv_aload_n hx hb dX10_image_4 rfl (lv_at hl 0 rfl) ?_
  obtain ⟨q3, hq4, ok_q3, hf⟩ := gR_of hf
  refine gf_RX10_78 hC hR ok_this hq4 dX10_image_5 ?_
  obtain ⟨S5, hc6, hf⟩ := cv_of hf
  refine cl_RX10_306 (As := [.ref q3]) (rest := []) hC hR hS (c_X3_copyFrom l G n q1 q3 S S5 hc6 ok_q1 ok_q3) ok_q1 rfl ⟨Nat.le_of_ble_eq_true rfl, Nat.le_of_ble_eq_true rfl⟩ hl.1 rfl (Nat.le_of_ble_eq_true rfl) dX10_image_8 (Nat.zero_le _) (Nat.zero_le _) (fun H locs hR hS hE7 => ?_)
  have ok_this := hE7 _ _ ok_this
  have ok_q1 := hE7 _ _ ok_q1
  have ok_q3 := hE7 _ _ ok_q3
  have hE := hE.tr hE7
  refine lv_aload_n hx hb dX10_image_11 rfl (lv_at hl 0 rfl) ?_
  obtain ⟨q8, hq9, ok_q8, hf⟩ := gR_of hf
  refine gf_RX10_16 hC hR ok_this hq9 dX10_image_12 ?_
  refine lv_aload_n hx hb dX10_image_15 rfl (lv_at hl 0 rfl) ?_
  obtain ⟨q10, hq11, ok_q10, hf⟩ := gR_of hf
  refine gf_RX10_10 hC hR ok_this hq11 dX10_image_16 ?_
  obtain ⟨S12, hc13, hf⟩ := cv_of hf
  refine cl_RX10_310 (As := [.ref q10]) (rest := []) hC hR hS (c_X8_copyFrom l G n q8 q10 S5 S12 hc13 ok_q8 ok_q10) ok_q8 rfl ⟨Nat.le_of_ble_eq_true rfl, Nat.le_of_ble_eq_true rfl⟩ hl.1 rfl (Nat.le_of_ble_eq_true rfl) dX10_image_19 (Nat.zero_le _) (Nat.zero_le _) (fun H locs hR hS hE14 => ?_)
  have ok_this := hE14 _ _ ok_this
  have ok_q1 := hE14 _ _ ok_q1
  have ok_q3 := hE14 _ _ ok_q3
  have ok_q8 := hE14 _ _ ok_q8
  have ok_q10 := hE14 _ _ ok_q10
  have hE := hE.tr hE14
  refine lv_aload_n hx hb dX10_image_22 rfl (lv_at hl 0 rfl) ?_
  obtain ⟨q15, hq16, ok_q15, hf⟩ := gR_of hf
  refine gf_RX10_78 hC hR ok_this hq16 dX10_image_23 ?_
  refine gf_RX10_224 hC hR ok_q15 dX10_image_26 ?_
  exact r_iret hC hR hS hE hf dX10_image_29
abbrev rX10_back : Room := { frames := 2, cells := 0, slots := 0, locals := 141 }
def f_X10_back (n : Nat) (this : Nat) (S : MS) : Option (Int32 × MS) :=
  gR S (mR S this 1) 3 fun q1 => gR S (mR S this 2) 3 fun q3 => cv (f_X3_copyFrom n q1 q3 S) fun S5 => gR S5 (mR S5 this 3) 8 fun q8 => gR S5 (mR S5 this 4) 8 fun q10 => cv (f_X8_copyFrom n q8 q10 S5) fun S12 => gR S12 (mR S12 this 1) 3 fun q15 => some ((mI S12 q15 8), S12)
set_option maxRecDepth 100000 in
set_option maxHeartbeats 4000000 in
theorem c_X10_back (l : Launch) (G : Gx) (n : Nat) (this : Nat) (S : MS) (ro : Int32) (So : MS) (hf : f_X10_back n this S = some (ro, So)) (ok_this : Ok S this 10) : Cn G l yX10_back cX10_back 1 (some .int) rX10_back [.ref this] S (some (.int ro)) So := by
  refine Cn.of (by decide) (Nat.le_of_ble_eq_true rfl) ?_
  intro p e s m args below meth c hC hname hR ls hl
  have hC : Cx G RX10 cX10_back 1 (some .int) p s m args meth c := hC
  have hl : lv_has ls 1 [(0, .ref this)] := hl
  have hx := hC.x
  have hb := hC.b
  have hS : va_S (gA G) s.heap s.heap [] := va_S.rf
  have hE : Ex S S := Ex.rf S
  unfold f_X10_back at hf
  refine lv_aload_n hx hb dX10_back_0 rfl (lv_at hl 0 rfl) ?_
  obtain ⟨q1, hq2, ok_q1, hf⟩ := gR_of hf
  refine gf_RX10_78 hC hR ok_this hq2 dX10_back_1 ?_
  refine lv_aload_n hx hb dX10_back_4 rfl (lv_at hl 0 rfl) ?_
  obtain ⟨q3, hq4, ok_q3, hf⟩ := gR_of hf
  refine gf_RX10_82 hC hR ok_this hq4 dX10_back_5 ?_
  obtain ⟨S5, hc6, hf⟩ := cv_of hf
  refine cl_RX10_306 (As := [.ref q3]) (rest := []) hC hR hS (c_X3_copyFrom l G n q1 q3 S S5 hc6 ok_q1 ok_q3) ok_q1 rfl ⟨Nat.le_of_ble_eq_true rfl, Nat.le_of_ble_eq_true rfl⟩ hl.1 rfl (Nat.le_of_ble_eq_true rfl) dX10_back_8 (Nat.zero_le _) (Nat.zero_le _) (fun H locs hR hS hE7 => ?_)
  have ok_this := hE7 _ _ ok_this
  have ok_q1 := hE7 _ _ ok_q1
  have ok_q3 := hE7 _ _ ok_q3
  have hE := hE.tr hE7
  refine lv_aload_n hx hb dX10_back_11 rfl (lv_at hl 0 rfl) ?_
  obtain ⟨q8, hq9, ok_q8, hf⟩ := gR_of hf
  refine gf_RX10_10 hC hR ok_this hq9 dX10_back_12 ?_
  refine lv_aload_n hx hb dX10_back_15 rfl (lv_at hl 0 rfl) ?_
  obtain ⟨q10, hq11, ok_q10, hf⟩ := gR_of hf
  refine gf_RX10_16 hC hR ok_this hq11 dX10_back_16 ?_
  obtain ⟨S12, hc13, hf⟩ := cv_of hf
  refine cl_RX10_310 (As := [.ref q10]) (rest := []) hC hR hS (c_X8_copyFrom l G n q8 q10 S5 S12 hc13 ok_q8 ok_q10) ok_q8 rfl ⟨Nat.le_of_ble_eq_true rfl, Nat.le_of_ble_eq_true rfl⟩ hl.1 rfl (Nat.le_of_ble_eq_true rfl) dX10_back_19 (Nat.zero_le _) (Nat.zero_le _) (fun H locs hR hS hE14 => ?_)
  have ok_this := hE14 _ _ ok_this
  have ok_q1 := hE14 _ _ ok_q1
  have ok_q3 := hE14 _ _ ok_q3
  have ok_q8 := hE14 _ _ ok_q8
  have ok_q10 := hE14 _ _ ok_q10
  have hE := hE.tr hE14
  refine lv_aload_n hx hb dX10_back_22 rfl (lv_at hl 0 rfl) ?_
  obtain ⟨q15, hq16, ok_q15, hf⟩ := gR_of hf
  refine gf_RX10_78 hC hR ok_this hq16 dX10_back_23 ?_
  refine gf_RX10_224 hC hR ok_q15 dX10_back_26 ?_
  exact r_iret hC hR hS hE hf dX10_back_29
abbrev rX10_about : Room := { frames := 3, cells := 0, slots := 0, locals := 77 }
def f_X10_about (n : Nat) (this : Nat) (a1 : Int32) (S : MS) : Option (Int32 × MS) :=
  jn (fun (S3 : MS) => jn (fun (S6 : MS) => (if a1 = (0 : Int32) then gR S6 (mR S6 this 0) 1 fun q7 => some ((mI S6 q7 0), S6) else (if a1 = (1 : Int32) then gR S6 (mR S6 this 0) 1 fun q9 => some ((mI S6 q9 1), S6) else (if a1 = (2 : Int32) then gR S6 (mR S6 this 1) 3 fun q11 => some ((mI S6 q11 8), S6) else (if a1 = (3 : Int32) then gR S6 (mR S6 this 1) 3 fun q13 => some ((mI S6 q13 7), S6) else (if a1 = (4 : Int32) then gR S6 (mR S6 this 3) 8 fun q15 => some ((mI S6 q15 6), S6) else (if a1 = (5 : Int32) then gR S6 (mR S6 this 3) 8 fun q17 => some ((mI S6 q17 7), S6) else (if a1 = (6 : Int32) then gR S6 (mR S6 this 3) 8 fun q19 => some ((mI S6 q19 8), S6) else (if a1 = (7 : Int32) then gR S6 (mR S6 this 1) 3 fun q21 => cl (f_X3_fields n q21 S6) fun x26 S23 => some (x26, S23) else (if a1 = (8 : Int32) then gR S6 (mR S6 this 5) 6 fun q27 => some ((mI S6 q27 1), S6) else (if a1 = (9 : Int32) then gR S6 (mR S6 this 1) 3 fun q29 => cl (f_X3_sown n q29 S6) fun x34 S31 => some (x34, S31) else some ((-2 : Int32), S6)))))))))))) fun j64_5 => (if a1 < (60 : Int32) then j64_5 S3 else (if (84 : Int32) ≤ a1 then j64_5 S3 else gR S3 (mR S3 this 1) 3 fun q35 => cl (f_X3_isBone n q35 (a1 - (60 : Int32)) S3) fun x40 S37 => (if x40 = 0 then j64_5 S37 else gR S37 (mR S37 this 3) 8 fun q41 => gR S37 (mR S37 q41 5) 12 fun q43 => ck (inb (a1 - (60 : Int32)) (mN S37 q43)) (some ((mI S37 q43 (a1 - (60 : Int32)).toNatClampNeg), S37)))))) fun j25_2 => (if a1 < (10 : Int32) then j25_2 S else (if (50 : Int32) ≤ a1 then j25_2 S else gR S (mR S this 3) 8 fun q47 => gR S (mR S q47 4) 12 fun q49 => ck (inb (a1 - (10 : Int32)) (mN S q49)) (some ((mI S q49 (a1 - (10 : Int32)).toNatClampNeg), S))))
set_option maxRecDepth 100000 in
set_option maxHeartbeats 4000000 in
theorem c_X10_about (l : Launch) (G : Gx) (n : Nat) (this : Nat) (a1 : Int32) (S : MS) (ro : Int32) (So : MS) (hf : f_X10_about n this a1 S = some (ro, So)) (ok_this : Ok S this 10) : Cn G l yX10_about cX10_about 2 (some .int) rX10_about [.ref this, .int a1] S (some (.int ro)) So := by
  refine Cn.of (by decide) (Nat.le_of_ble_eq_true rfl) ?_
  intro p e s m args below meth c hC hname hR ls hl
  have hC : Cx G RX10 cX10_about 2 (some .int) p s m args meth c := hC
  have hl : lv_has ls 2 [(0, .ref this), (1, .int a1)] := hl
  have hx := hC.x
  have hb := hC.b
  have hS : va_S (gA G) s.heap s.heap [] := va_S.rf
  have hE : Ex S S := Ex.rf S
  unfold f_X10_about at hf
  refine lv_iload_n hx hb dX10_about_0 rfl (lv_at hl 1 rfl) ?_
  refine lv_bipush (v := 10) hx hb dX10_about_1 (by decide) ?_
  obtain ⟨j25_2, ej25_2, hf⟩ := jn_of1 hf
  have hj25_1 : ∀ (S3 : MS) (H : Heap) (locs : List Loc) (ls : Array Slot), j25_2 S3 = some (ro, So) → Rp G S3 H → va_S (gA G) s.heap H locs → Ex S S3 → Ok S3 this 10 → lv_has ls 2 [(0, .ref this), (1, .int a1)] → W p l e rX10_about s m args below meth c H locs 0 0 (MQ below (Qn G S (some (.int ro)) So) args s 0 0 (gA G)) (F0 m 25 ls []) := by
    intro S3 H locs ls hf hR hS hE ok_this hl
    rw [ej25_2] at hf
    refine lv_iload_n hx hb dX10_about_25 rfl (lv_at hl 1 rfl) ?_
    refine lv_bipush (v := 60) hx hb dX10_about_26 (by decide) ?_
    obtain ⟨j64_5, ej64_5, hf⟩ := jn_of1 hf
    have hj64_4 : ∀ (S6 : MS) (H : Heap) (locs : List Loc) (ls : Array Slot), j64_5 S6 = some (ro, So) → Rp G S6 H → va_S (gA G) s.heap H locs → Ex S S6 → Ok S6 this 10 → lv_has ls 2 [(0, .ref this), (1, .int a1)] → W p l e rX10_about s m args below meth c H locs 0 0 (MQ below (Qn G S (some (.int ro)) So) args s 0 0 (gA G)) (F0 m 64 ls []) := by
      intro S6 H locs ls hf hR hS hE ok_this hl
      rw [ej64_5] at hf
      refine lv_iload_n hx hb dX10_about_64 rfl (lv_at hl 1 rfl) ?_
      by_cases hc0 : a1 = (0 : Int32)
      · replace hf := if_t hf hc0
        rw [hc0]
        refine lv_tableIn (tgt := 120) hx hb dX10_about_65 (by decide) (by decide) rfl (by decide) ?_
        refine lv_aload_n hx hb dX10_about_120 rfl (lv_at hl 0 rfl) ?_
        obtain ⟨q7, hq8, ok_q7, hf⟩ := gR_of hf
        refine gf_RX10_69 hC hR ok_this hq8 dX10_about_121 ?_
        refine gf_RX10_313 hC hR ok_q7 dX10_about_124 ?_
        exact r_iret hC hR hS hE hf dX10_about_127
      · replace hf := if_f hf hc0
        by_cases hc1 : a1 = (1 : Int32)
        · replace hf := if_t hf hc1
          rw [hc1]
          refine lv_tableIn (tgt := 128) hx hb dX10_about_65 (by decide) (by decide) rfl (by decide) ?_
          refine lv_aload_n hx hb dX10_about_128 rfl (lv_at hl 0 rfl) ?_
          obtain ⟨q9, hq10, ok_q9, hf⟩ := gR_of hf
          refine gf_RX10_69 hC hR ok_this hq10 dX10_about_129 ?_
          refine gf_RX10_316 hC hR ok_q9 dX10_about_132 ?_
          exact r_iret hC hR hS hE hf dX10_about_135
        · replace hf := if_f hf hc1
          by_cases hc2 : a1 = (2 : Int32)
          · replace hf := if_t hf hc2
            rw [hc2]
            refine lv_tableIn (tgt := 136) hx hb dX10_about_65 (by decide) (by decide) rfl (by decide) ?_
            refine lv_aload_n hx hb dX10_about_136 rfl (lv_at hl 0 rfl) ?_
            obtain ⟨q11, hq12, ok_q11, hf⟩ := gR_of hf
            refine gf_RX10_78 hC hR ok_this hq12 dX10_about_137 ?_
            refine gf_RX10_224 hC hR ok_q11 dX10_about_140 ?_
            exact r_iret hC hR hS hE hf dX10_about_143
          · replace hf := if_f hf hc2
            by_cases hc3 : a1 = (3 : Int32)
            · replace hf := if_t hf hc3
              rw [hc3]
              refine lv_tableIn (tgt := 144) hx hb dX10_about_65 (by decide) (by decide) rfl (by decide) ?_
              refine lv_aload_n hx hb dX10_about_144 rfl (lv_at hl 0 rfl) ?_
              obtain ⟨q13, hq14, ok_q13, hf⟩ := gR_of hf
              refine gf_RX10_78 hC hR ok_this hq14 dX10_about_145 ?_
              refine gf_RX10_319 hC hR ok_q13 dX10_about_148 ?_
              exact r_iret hC hR hS hE hf dX10_about_151
            · replace hf := if_f hf hc3
              by_cases hc4 : a1 = (4 : Int32)
              · replace hf := if_t hf hc4
                rw [hc4]
                refine lv_tableIn (tgt := 152) hx hb dX10_about_65 (by decide) (by decide) rfl (by decide) ?_
                refine lv_aload_n hx hb dX10_about_152 rfl (lv_at hl 0 rfl) ?_
                obtain ⟨q15, hq16, ok_q15, hf⟩ := gR_of hf
                refine gf_RX10_10 hC hR ok_this hq16 dX10_about_153 ?_
                refine gf_RX10_274 hC hR ok_q15 dX10_about_156 ?_
                exact r_iret hC hR hS hE hf dX10_about_159
              · replace hf := if_f hf hc4
                by_cases hc5 : a1 = (5 : Int32)
                · replace hf := if_t hf hc5
                  rw [hc5]
                  refine lv_tableIn (tgt := 160) hx hb dX10_about_65 (by decide) (by decide) rfl (by decide) ?_
                  refine lv_aload_n hx hb dX10_about_160 rfl (lv_at hl 0 rfl) ?_
                  obtain ⟨q17, hq18, ok_q17, hf⟩ := gR_of hf
                  refine gf_RX10_10 hC hR ok_this hq18 dX10_about_161 ?_
                  refine gf_RX10_130 hC hR ok_q17 dX10_about_164 ?_
                  exact r_iret hC hR hS hE hf dX10_about_167
                · replace hf := if_f hf hc5
                  by_cases hc6 : a1 = (6 : Int32)
                  · replace hf := if_t hf hc6
                    rw [hc6]
                    refine lv_tableIn (tgt := 168) hx hb dX10_about_65 (by decide) (by decide) rfl (by decide) ?_
                    refine lv_aload_n hx hb dX10_about_168 rfl (lv_at hl 0 rfl) ?_
                    obtain ⟨q19, hq20, ok_q19, hf⟩ := gR_of hf
                    refine gf_RX10_10 hC hR ok_this hq20 dX10_about_169 ?_
                    refine gf_RX10_153 hC hR ok_q19 dX10_about_172 ?_
                    exact r_iret hC hR hS hE hf dX10_about_175
                  · replace hf := if_f hf hc6
                    by_cases hc7 : a1 = (7 : Int32)
                    · replace hf := if_t hf hc7
                      rw [hc7]
                      refine lv_tableIn (tgt := 176) hx hb dX10_about_65 (by decide) (by decide) rfl (by decide) ?_
                      refine lv_aload_n hx hb dX10_about_176 rfl (lv_at hl 0 rfl) ?_
                      obtain ⟨q21, hq22, ok_q21, hf⟩ := gR_of hf
                      refine gf_RX10_78 hC hR ok_this hq22 dX10_about_177 ?_
                      obtain ⟨x26, S23, hc24, hf⟩ := cl_of hf
                      refine cl_RX10_322 (As := []) (rest := []) hC hR hS (c_X3_fields l G n q21 S6 x26 S23 hc24 ok_q21) ok_q21 rfl ⟨Nat.le_of_ble_eq_true rfl, Nat.le_of_ble_eq_true rfl⟩ hl.1 rfl (Nat.le_of_ble_eq_true rfl) dX10_about_180 (Nat.zero_le _) (Nat.zero_le _) (fun H locs hR hS hE25 => ?_)
                      have ok_this := hE25 _ _ ok_this
                      have ok_q21 := hE25 _ _ ok_q21
                      have hE := hE.tr hE25
                      exact r_iret hC hR hS hE hf dX10_about_183
                    · replace hf := if_f hf hc7
                      by_cases hc8 : a1 = (8 : Int32)
                      · replace hf := if_t hf hc8
                        rw [hc8]
                        refine lv_tableIn (tgt := 184) hx hb dX10_about_65 (by decide) (by decide) rfl (by decide) ?_
                        refine lv_aload_n hx hb dX10_about_184 rfl (lv_at hl 0 rfl) ?_
                        obtain ⟨q27, hq28, ok_q27, hf⟩ := gR_of hf
                        refine gf_RX10_22 hC hR ok_this hq28 dX10_about_185 ?_
                        refine gf_RX10_122 hC hR ok_q27 dX10_about_188 ?_
                        exact r_iret hC hR hS hE hf dX10_about_191
                      · replace hf := if_f hf hc8
                        by_cases hc9 : a1 = (9 : Int32)
                        · replace hf := if_t hf hc9
                          rw [hc9]
                          refine lv_tableIn (tgt := 192) hx hb dX10_about_65 (by decide) (by decide) rfl (by decide) ?_
                          refine lv_aload_n hx hb dX10_about_192 rfl (lv_at hl 0 rfl) ?_
                          obtain ⟨q29, hq30, ok_q29, hf⟩ := gR_of hf
                          refine gf_RX10_78 hC hR ok_this hq30 dX10_about_193 ?_
                          obtain ⟨x34, S31, hc32, hf⟩ := cl_of hf
                          refine cl_RX10_325 (As := []) (rest := []) hC hR hS (c_X3_sown l G n q29 S6 x34 S31 hc32 ok_q29) ok_q29 rfl ⟨Nat.le_of_ble_eq_true rfl, Nat.le_of_ble_eq_true rfl⟩ hl.1 rfl (Nat.le_of_ble_eq_true rfl) dX10_about_196 (Nat.zero_le _) (Nat.zero_le _) (fun H locs hR hS hE33 => ?_)
                          have ok_this := hE33 _ _ ok_this
                          have ok_q29 := hE33 _ _ ok_q29
                          have hE := hE.tr hE33
                          exact r_iret hC hR hS hE hf dX10_about_199
                        · replace hf := if_f hf hc9
                          refine lv_tableOut (tgt := 200) hx hb dX10_about_65 (by have := ne_toInt hc0 (z := 0) (by decide); have := ne_toInt hc1 (z := 1) (by decide); have := ne_toInt hc2 (z := 2) (by decide); have := ne_toInt hc3 (z := 3) (by decide); have := ne_toInt hc4 (z := 4) (by decide); have := ne_toInt hc5 (z := 5) (by decide); have := ne_toInt hc6 (z := 6) (by decide); have := ne_toInt hc7 (z := 7) (by decide); have := ne_toInt hc8 (z := 8) (by decide); have := ne_toInt hc9 (z := 9) (by decide); omega) (by decide) ?_
                          refine lv_bipush (v := -2) hx hb dX10_about_200 (by decide) ?_
                          exact r_iret hC hR hS hE hf dX10_about_202
    refine lv_icmp_lt (tgt := 64) hx hb dX10_about_28 (by decide) (fun hc => ?_) (fun hc => ?_)
    · replace hf := if_t hf hc
      exact hj64_4 S3 _ _ _ hf hR hS hE ok_this (lv_sub hl [0, 1] rfl)
    · replace hf := if_f hf hc
      refine lv_iload_n hx hb dX10_about_31 rfl (lv_at hl 1 rfl) ?_
      refine lv_bipush (v := 84) hx hb dX10_about_32 (by decide) ?_
      refine lv_icmp_ge (tgt := 64) hx hb dX10_about_34 (by decide) (fun hc => ?_) (fun hc => ?_)
      · replace hf := if_t hf hc
        exact hj64_4 S3 _ _ _ hf hR hS hE ok_this (lv_sub hl [0, 1] rfl)
      · replace hf := if_f hf hc
        refine lv_aload_n hx hb dX10_about_37 rfl (lv_at hl 0 rfl) ?_
        obtain ⟨q35, hq36, ok_q35, hf⟩ := gR_of hf
        refine gf_RX10_78 hC hR ok_this hq36 dX10_about_38 ?_
        refine lv_iload_n hx hb dX10_about_41 rfl (lv_at hl 1 rfl) ?_
        refine lv_bipush (v := 60) hx hb dX10_about_42 (by decide) ?_
        refine lv_isub hx hb dX10_about_44 ?_
        obtain ⟨x40, S37, hc38, hf⟩ := cl_of hf
        refine cl_RX10_163 (As := [.int (a1 - (60 : Int32))]) (rest := []) hC hR hS (c_X3_isBone l G n q35 (a1 - (60 : Int32)) S3 x40 S37 hc38 ok_q35) ok_q35 rfl ⟨Nat.le_of_ble_eq_true rfl, Nat.le_of_ble_eq_true rfl⟩ hl.1 rfl (Nat.le_of_ble_eq_true rfl) dX10_about_45 (Nat.zero_le _) (Nat.zero_le _) (fun H locs hR hS hE39 => ?_)
        have ok_this := hE39 _ _ ok_this
        have ok_q35 := hE39 _ _ ok_q35
        have hE := hE.tr hE39
        refine lv_if_eq (tgt := 64) hx hb dX10_about_48 (by decide) (fun hc => ?_) (fun hc => ?_)
        · replace hf := if_t hf hc
          exact hj64_4 S37 _ _ _ hf hR hS hE ok_this (lv_sub hl [0, 1] rfl)
        · replace hf := if_f hf hc
          refine lv_aload_n hx hb dX10_about_51 rfl (lv_at hl 0 rfl) ?_
          obtain ⟨q41, hq42, ok_q41, hf⟩ := gR_of hf
          refine gf_RX10_10 hC hR ok_this hq42 dX10_about_52 ?_
          obtain ⟨q43, hq44, ok_q43, hf⟩ := gR_of hf
          refine gf_RX10_294 hC hR ok_q41 hq44 dX10_about_55 ?_
          refine lv_iload_n hx hb dX10_about_58 rfl (lv_at hl 1 rfl) ?_
          refine lv_bipush (v := 60) hx hb dX10_about_59 (by decide) ?_
          refine lv_isub hx hb dX10_about_61 ?_
          obtain ⟨hi45, hf⟩ := ck_of hf
          refine r_iald hC hR ok_q43 hi45 dX10_about_62 ?_
          exact r_iret hC hR hS hE hf dX10_about_63
  refine lv_icmp_lt (tgt := 25) hx hb dX10_about_3 (by decide) (fun hc => ?_) (fun hc => ?_)
  · replace hf := if_t hf hc
    exact hj25_1 S _ _ _ hf hR hS hE ok_this (lv_sub hl [0, 1] rfl)
  · replace hf := if_f hf hc
    refine lv_iload_n hx hb dX10_about_6 rfl (lv_at hl 1 rfl) ?_
    refine lv_bipush (v := 50) hx hb dX10_about_7 (by decide) ?_
    refine lv_icmp_ge (tgt := 25) hx hb dX10_about_9 (by decide) (fun hc => ?_) (fun hc => ?_)
    · replace hf := if_t hf hc
      exact hj25_1 S _ _ _ hf hR hS hE ok_this (lv_sub hl [0, 1] rfl)
    · replace hf := if_f hf hc
      refine lv_aload_n hx hb dX10_about_12 rfl (lv_at hl 0 rfl) ?_
      obtain ⟨q47, hq48, ok_q47, hf⟩ := gR_of hf
      refine gf_RX10_10 hC hR ok_this hq48 dX10_about_13 ?_
      obtain ⟨q49, hq50, ok_q49, hf⟩ := gR_of hf
      refine gf_RX10_118 hC hR ok_q47 hq50 dX10_about_16 ?_
      refine lv_iload_n hx hb dX10_about_19 rfl (lv_at hl 1 rfl) ?_
      refine lv_bipush (v := 10) hx hb dX10_about_20 (by decide) ?_
      refine lv_isub hx hb dX10_about_22 ?_
      obtain ⟨hi51, hf⟩ := ck_of hf
      refine r_iald hC hR ok_q49 hi51 dX10_about_23 ?_
      exact r_iret hC hR hS hE hf dX10_about_24
