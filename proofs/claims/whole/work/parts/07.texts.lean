/-! THE TWO TEXTS: length and charAt of the JDK's String, walked -/
def chS (i k : Nat) : Int32 := (bytT.getD i []).getD k 0
theorem chS_ok : ∀ i, i < 2 → ∀ k, k < lenT.getD i 0 → (((chS i k &&& 255).toUInt32 % 65536).toInt32 = chS i k ∧ narrow .char (.int (chS i k)) = .int (chS i k)) := by decide +kernel
theorem lnS_ok : ∀ i, i < 2 → (Int32.ofNat (lenT.getD i 0) >>> ((0 : Int32) &&& 31) = Int32.ofNat (lenT.getD i 0)) := by decide +kernel
section TX
variable {p : Program} {l : Launch} {e : Env} {R : Room} {s : State} {m : MethodId} {args : Array Value} {below : List Frame} {meth : Method} {c : Code} {H : Heap} {locs : List Loc} {cells slots : Nat} {Q : State → Prop}
variable {G : Gx} {own : String} {cc : ByteArray} {nL : Nat} {ret : Option FieldType} {S : MS} {pc : Nat} {ls : Array Slot} {rest : List Value} {a : Nat}
theorem r_nret {S1 So : MS} {v ro : Int32} {ty : FieldType} (hC : Cx G own cc nL (some ty) p s m args meth c) (hn : narrow ty (.int v) = .int v) (hR : Rp G S1 H) (hS : va_S (gA G) s.heap H locs) (hE : Ex S S1) (hf : (v, S1) = (ro, So)) (hdg : decode cc pc = .ok (.ireturn, 1)) : W p l e R s m args below meth c H locs cells slots (MQ below (Qn G S (some (.int ro)) So) args s cells slots (gA G)) (F0 m pc ls [.int v]) := by
  cases hf
  exact W.zret hC.x hC.b hC.r hn (r_q hR hS hE rfl rfl) hS.2.2 hdg hC.lk
theorem r_callT {y : MethodName} {cy : ByteArray} {ny n i : Nat} {rty : Option FieldType} {rmy : Room} {As : List Value} {idx : Nat} {o : Option Value} {S' : MS} {st0 : List Value} (hi : i < 2)
    (hcode : Cond.code y cy ny rty ∈ BG) (hlink : Cond.methodLink own idx y ∈ BG) (hinst : Cond.instanceMethod y ∈ BG) (hsel : Cond.selects RJ0 y y ∈ BG) (hini : Cond.initialized y.cls ∈ BG) (hd : y.cls ≠ "java/lang/invoke/MethodHandle" ∧ y.cls ≠ "java/lang/invoke/VarHandle" ∧ (parseMethodDescriptor y.desc).map (fun d => d.parameters.length) = some n)
    (hC : Cx G own cc nL ret p s m args meth c) (hR : Rp G S H) (hS : va_S (gA G) s.heap H locs) (hM : Cn G l y cy ny rty rmy (.ref (sK G i) :: As) S o S') (hn : As.length = n) (hroom : rmy.frames + 1 ≤ R.frames ∧ 8 + (ny + 11) + rmy.locals ≤ R.locals) (hls : ls.size = nL) (hst : st0 = As.reverse ++ .ref (sK G i) :: rest) (hw : (rest.map fun v => v.category).sum ≤ 8) (hdg : decode cc pc = .ok (.invokevirtual idx, 3)) (hf : cells + rmy.cells ≤ R.cells ∧ slots + rmy.slots ≤ R.slots)
    (kk : ∀ (H1 : Heap) (locs1 : List Loc), Rp G S' H1 → va_S (gA G) s.heap H1 locs1 → Ex S S' → W p l e R s m args below meth c H1 locs1 (cells + rmy.cells) (slots + rmy.slots) Q (F0 m (pc + 3) ls (o.toList ++ rest))) : W p l e R s m args below meth c H locs cells slots Q (F0 m pc ls st0) :=
  r_goes (va_runV (Ts := BG) ⟨hC.x, hC.b, hC.ml, hC.ow, hC.ts⟩ hM ⟨callB_of n hC.ts (gdBG hcode) rfl rfl rfl (hC.ts _ hini) (hC.ts _ hlink) hd hroom, hC.ts _ hinst, hC.ts _ hsel⟩ ⟨r_blind, vk_recv hC.kx.2.2.2.2.2.2.1 hi hS, fun U hU hW => ⟨rfl, by rw [hU]; exact hR, hC.kx.warm hW (by rw [hU]; exact hS.2.1)⟩⟩ rfl hn hls hst (lv_room hw) hdg hf) hS kk
end TX
abbrev rT0 : Room := { frames := 0, cells := 0, slots := 0, locals := 0 }
abbrev rT1 : Room := { frames := 1, cells := 0, slots := 0, locals := 40 }
abbrev rT2 : Room := { frames := 2, cells := 0, slots := 0, locals := 80 }
abbrev rT3 : Room := { frames := 3, cells := 0, slots := 0, locals := 120 }
abbrev rT4 : Room := { frames := 4, cells := 0, slots := 0, locals := 160 }
set_option maxRecDepth 100000 in
set_option maxHeartbeats 4000000 in
theorem c_coder (l : Launch) (G : Gx) (S : MS) {i : Nat} (hi : i < 2) : Cn G l yJ0_coder_7d493 cJ0_coder_7d493 1 (some .byte) rT0 [.ref (sK G i)] S (some (.int 0)) S := by
  refine Cn.of (by decide) (Nat.le_of_ble_eq_true rfl) ?_
  intro p e s m args below meth c hC hname hR ls hl
  have hl : lv_has ls 1 [(0, .ref (sK G i))] := hl
  have hx := hC.x
  have hb := hC.b
  have hS : va_S (gA G) s.heap s.heap [] := va_S.rf
  have hT := hC.kx.2.2.2.2
  refine va_gets hx hb hT.2.2.2.1 hS hC.ow (hC.ts _ (bg16 _ (List.mem_of_getElem? (i := 2) rfl))) (fun _ h => h) dJ0_coder_7d493_0 ?_
  refine lv_if_eq (tgt := 13) hx hb dJ0_coder_7d493_3 (by decide) (fun hc => absurd hc (by decide)) (fun hc => ?_)
  refine lv_aload_n hx hb dJ0_coder_7d493_6 rfl (lv_at hl 0 rfl) ?_
  refine vk_getf hx hb (hT.2.2.1.1 i hi).2.1 hS hC.ow (hC.ts _ (bg16 _ (List.mem_of_getElem? (i := 3) rfl))) (fun _ h => h) dJ0_coder_7d493_7 ?_
  refine lv_goto (tgt := 14) hx hb dJ0_coder_7d493_10 (by decide) ?_
  exact r_nret hC rfl hR hS (Ex.rf S) rfl dJ0_coder_7d493_14
set_option maxRecDepth 100000 in
set_option maxHeartbeats 4000000 in
theorem c_isLatin (l : Launch) (G : Gx) (S : MS) {i : Nat} (hi : i < 2) : Cn G l yJ0_isLatin1_aae02 cJ0_isLatin1_aae02 1 (some .boolean) rT0 [.ref (sK G i)] S (some (.int 1)) S := by
  refine Cn.of (by decide) (Nat.le_of_ble_eq_true rfl) ?_
  intro p e s m args below meth c hC hname hR ls hl
  have hl : lv_has ls 1 [(0, .ref (sK G i))] := hl
  have hx := hC.x
  have hb := hC.b
  have hS : va_S (gA G) s.heap s.heap [] := va_S.rf
  have hT := hC.kx.2.2.2.2
  refine va_gets hx hb hT.2.2.2.1 hS hC.ow (hC.ts _ (bg16 _ (List.mem_of_getElem? (i := 2) rfl))) (fun _ h => h) dJ0_isLatin1_aae02_0 ?_
  refine lv_if_eq (tgt := 17) hx hb dJ0_isLatin1_aae02_3 (by decide) (fun hc => absurd hc (by decide)) (fun hc => ?_)
  refine lv_aload_n hx hb dJ0_isLatin1_aae02_6 rfl (lv_at hl 0 rfl) ?_
  refine vk_getf hx hb (hT.2.2.1.1 i hi).2.1 hS hC.ow (hC.ts _ (bg16 _ (List.mem_of_getElem? (i := 3) rfl))) (fun _ h => h) dJ0_isLatin1_aae02_7 ?_
  refine lv_if_ne (tgt := 17) hx hb dJ0_isLatin1_aae02_10 (by decide) (fun hc => absurd rfl hc) (fun hc => ?_)
  refine lv_iconst (v := 1) hx hb dJ0_isLatin1_aae02_13 (by decide) ?_
  refine lv_goto (tgt := 18) hx hb dJ0_isLatin1_aae02_14 (by decide) ?_
  exact r_nret hC rfl hR hS (Ex.rf S) rfl dJ0_isLatin1_aae02_18
set_option maxRecDepth 100000 in
set_option maxHeartbeats 4000000 in
theorem c_slen (l : Launch) (G : Gx) (S : MS) {i : Nat} (hi : i < 2) : Cn G l yJ0_length_8abf5 cJ0_length_8abf5 1 (some .int) rT1 [.ref (sK G i)] S (some (.int (Int32.ofNat (lenT.getD i 0)))) S := by
  refine Cn.of (by decide) (Nat.le_of_ble_eq_true rfl) ?_
  intro p e s m args below meth c hC hname hR ls hl
  have hC : Cx G RJ0 cJ0_length_8abf5 1 (some .int) p s m args meth c := hC
  have hl : lv_has ls 1 [(0, .ref (sK G i))] := hl
  have hx := hC.x
  have hb := hC.b
  have hS : va_S (gA G) s.heap s.heap [] := va_S.rf
  have hT := hC.kx.2.2.2.2
  refine lv_aload_n hx hb dJ0_length_8abf5_0 rfl (lv_at hl 0 rfl) ?_
  refine vk_getf hx hb (hT.2.2.1.1 i hi).2.2.1 hS hC.ow (hC.ts _ (bg15 _ (List.mem_of_getElem? (i := 21) rfl))) (fun _ h => h) dJ0_length_8abf5_1 ?_
  refine va_tlen hx hb (hT.2.2.1.1 i hi).2.2.2 hS rfl dJ0_length_8abf5_4 ?_
  refine lv_aload_n hx hb dJ0_length_8abf5_5 rfl (lv_at hl 0 rfl) ?_
  refine r_callT (rest := [.int (Int32.ofNat (lenT.getD i 0))]) hi (bg16 _ (List.mem_of_getElem? (i := 1) rfl)) (bg15 _ (List.mem_of_getElem? (i := 22) rfl)) (bg15 _ (List.mem_of_getElem? (i := 23) rfl)) (bg16 _ (List.mem_of_getElem? (i := 0) rfl)) (bg15 _ (List.mem_of_getElem? (i := 19) rfl)) (by decide +kernel) hC hR hS (c_coder l G S hi) rfl ⟨Nat.le_of_ble_eq_true rfl, Nat.le_of_ble_eq_true rfl⟩ hl.1 rfl (Nat.le_of_ble_eq_true rfl) dJ0_length_8abf5_6 ⟨Nat.zero_le _, Nat.zero_le _⟩ (fun H locs hR hS hE => ?_)
  refine W.eq (g2 := F0 m 9 ls [.int 0, .int (Int32.ofNat (lenT.getD i 0))]) rfl ?_
  refine lv_ishr hx hb dJ0_length_8abf5_9 ?_
  refine r_iret hC hR hS hE ?_ dJ0_length_8abf5_10
  rw [lnS_ok i hi]
set_option maxRecDepth 100000 in
set_option maxHeartbeats 4000000 in
theorem c_pck (l : Launch) (G : Gx) (S : MS) {k n : Int32} {o : Option Nat} (h0 : ¬ k < 0) (h1 : k < n) : Cn G l yJ3_checkIndex_8e157 cJ3_checkIndex_8e157 3 (some .int) rT0 [.int k, .int n, va_rf o] S (some (.int k)) S := by
  refine Cn.of (by decide) (by cases o <;> exact Nat.le_of_ble_eq_true rfl) ?_
  intro p e s m args below meth c hC hname hR ls hl
  have hl : lv_has ls 3 [(0, .int k), (1, .int n), (2, va_rf o)] := by cases o <;> exact hl
  have hx := hC.x
  have hb := hC.b
  have hS : va_S (gA G) s.heap s.heap [] := va_S.rf
  refine lv_iload_n hx hb dJ3_checkIndex_8e157_0 rfl (lv_at hl 0 rfl) ?_
  refine lv_if_lt (tgt := 9) hx hb dJ3_checkIndex_8e157_1 (by decide) (fun hc => absurd hc h0) (fun _ => ?_)
  refine lv_iload_n hx hb dJ3_checkIndex_8e157_4 rfl (lv_at hl 0 rfl) ?_
  refine lv_iload_n hx hb dJ3_checkIndex_8e157_5 rfl (lv_at hl 1 rfl) ?_
  refine lv_icmp_lt (tgt := 16) hx hb dJ3_checkIndex_8e157_6 (by decide) (fun _ => ?_) (fun hc => absurd h1 hc)
  refine lv_iload_n hx hb dJ3_checkIndex_8e157_16 rfl (lv_at hl 0 rfl) ?_
  exact r_iret hC hR hS (Ex.rf S) rfl dJ3_checkIndex_8e157_17
set_option maxRecDepth 100000 in
set_option maxHeartbeats 4000000 in
theorem c_sck (l : Launch) (G : Gx) (S : MS) {k n : Int32} (h0 : ¬ k < 0) (h1 : k < n) : Cn G l yJ0_checkIndex_df160 cJ0_checkIndex_df160 2 none rT1 [.int k, .int n] S none S := by
  refine Cn.of (by decide) (Nat.le_of_ble_eq_true rfl) ?_
  intro p e s m args below meth c hC hname hR ls hl
  have hC : Cx G RJ0 cJ0_checkIndex_df160 2 none p s m args meth c := hC
  have hl : lv_has ls 2 [(0, .int k), (1, .int n)] := hl
  have hx := hC.x
  have hb := hC.b
  have hS : va_S (gA G) s.heap s.heap [] := va_S.rf
  have hT := hC.kx.2.2.2.2
  refine lv_iload_n hx hb dJ0_checkIndex_df160_0 rfl (lv_at hl 0 rfl) ?_
  refine lv_iload_n hx hb dJ0_checkIndex_df160_1 rfl (lv_at hl 1 rfl) ?_
  have key : ∀ o : Option Nat, va_Z "jdk/internal/util/Preconditions" "SIOOBE_FORMATTER" "Ljava/util/function/BiFunction;" (va_rf o) (gA G) s s.heap → W p l e rT1 s m args below meth c s.heap [] 0 0 (MQ below (Qn G S none S) args s 0 0 (gA G)) (F0 m 2 ls [.int n, .int k]) := by
    intro o hZ
    refine va_gets hx hb hZ hS hC.ow (hC.ts _ (bg16 _ (List.mem_of_getElem? (i := 19) rfl))) (fun _ h => h) dJ0_checkIndex_df160_2 ?_
    refine r_callS (n := 3) (As := [.int k, .int n, va_rf o]) (rest := []) (bg16 _ (List.mem_of_getElem? (i := 23) rfl)) (bg16 _ (List.mem_of_getElem? (i := 20) rfl)) (bg16 _ (List.mem_of_getElem? (i := 21) rfl)) (bg16 _ (List.mem_of_getElem? (i := 22) rfl)) (by decide +kernel) hC hR hS (c_pck l G S h0 h1) rfl ⟨Nat.le_of_ble_eq_true rfl, Nat.le_of_ble_eq_true rfl⟩ hl.1 rfl (Nat.le_of_ble_eq_true rfl) dJ0_checkIndex_df160_5 ⟨Nat.zero_le _, Nat.zero_le _⟩ (fun H locs hR hS hE => ?_)
    refine W.eq (g2 := F0 m 8 ls [.int k]) rfl ?_
    refine lv_pop hx hb dJ0_checkIndex_df160_8 rfl ?_
    exact r_vret hC hR hS hE rfl dJ0_checkIndex_df160_9
  rcases hT.2.2.2.2 with hZ | ⟨t, hZ⟩
  · exact key none hZ
  · exact key (some t) hZ
set_option maxRecDepth 100000 in
set_option maxHeartbeats 4000000 in
theorem c_lat (l : Launch) (G : Gx) (S : MS) {i : Nat} (hi : i < 2) {k : Int32} (hk : inb k (lenT.getD i 0) = true) (h0 : ¬ k < 0) (h1 : k < Int32.ofNat (lenT.getD i 0)) : Cn G l yJ1_charAt_3b067 cJ1_charAt_3b067 2 (some .char) rT2 [.ref (sV G i), .int k] S (some (.int (chS i k.toNatClampNeg))) S := by
  refine Cn.of (by decide) (Nat.le_of_ble_eq_true rfl) ?_
  intro p e s m args below meth c hC hname hR ls hl
  have hC : Cx G RJ1 cJ1_charAt_3b067 2 (some .char) p s m args meth c := hC
  have hl : lv_has ls 2 [(0, .ref (sV G i)), (1, .int k)] := hl
  have hx := hC.x
  have hb := hC.b
  have hS : va_S (gA G) s.heap s.heap [] := va_S.rf
  have hT := hC.kx.2.2.2.2
  refine lv_iload_n hx hb dJ1_charAt_3b067_0 rfl (lv_at hl 1 rfl) ?_
  refine lv_aload_n hx hb dJ1_charAt_3b067_1 rfl (lv_at hl 0 rfl) ?_
  refine va_tlen hx hb (hT.2.2.1.1 i hi).2.2.2 hS rfl dJ1_charAt_3b067_2 ?_
  refine r_callS (n := 2) (As := [.int k, .int (Int32.ofNat (lenT.getD i 0))]) (rest := []) (bg16 _ (List.mem_of_getElem? (i := 18) rfl)) (bg16 _ (List.mem_of_getElem? (i := 16) rfl)) (bg16 _ (List.mem_of_getElem? (i := 17) rfl)) (bg15 _ (List.mem_of_getElem? (i := 19) rfl)) (by decide +kernel) hC hR hS (c_sck l G S h0 h1) rfl ⟨Nat.le_of_ble_eq_true rfl, Nat.le_of_ble_eq_true rfl⟩ hl.1 rfl (Nat.le_of_ble_eq_true rfl) dJ1_charAt_3b067_3 ⟨Nat.zero_le _, Nat.zero_le _⟩ (fun H locs hR hS hE => ?_)
  refine W.eq (g2 := F0 m 6 ls []) rfl ?_
  refine lv_aload_n hx hb dJ1_charAt_3b067_6 rfl (lv_at hl 0 rfl) ?_
  refine lv_iload_n hx hb dJ1_charAt_3b067_7 rfl (lv_at hl 1 rfl) ?_
  refine va_tb (v := .int (chS i k.toNatClampNeg)) hx hb (hT.2.2.1.1 i hi).2.2.2 hS (inb_in hk) rfl dJ1_charAt_3b067_8 ?_
  refine lv_sipush (v := 255) hx hb dJ1_charAt_3b067_9 (by decide) ?_
  refine lv_iand hx hb dJ1_charAt_3b067_12 ?_
  have hlt : k.toNatClampNeg < lenT.getD i 0 := Nat.not_le.mp fun q => inb_in hk (Or.inr q)
  have hcs := chS_ok i hi _ hlt
  refine lv_i2c (v := chS i k.toNatClampNeg) hx hb dJ1_charAt_3b067_13 hcs.1 ?_
  exact r_nret hC hcs.2 hR hS hE rfl dJ1_charAt_3b067_14
set_option maxRecDepth 100000 in
set_option maxHeartbeats 4000000 in
theorem c_schar (l : Launch) (G : Gx) (S : MS) {i : Nat} (hi : i < 2) {k : Int32} (hk : inb k (lenT.getD i 0) = true) : Cn G l yJ0_charAt_5068e cJ0_charAt_5068e 2 (some .char) rT3 [.ref (sK G i), .int k] S (some (.int (chS i k.toNatClampNeg))) S := by
  have hlt : k.toNatClampNeg < lenT.getD i 0 := Nat.not_le.mp fun q => inb_in hk (Or.inr q)
  have h0 : ¬ k < 0 := fun q => inb_in hk (Or.inl q)
  have h1 : k < Int32.ofNat (lenT.getD i 0) := by
    have hlen : lenT.getD i 0 < 200 := by
      have : ∀ i, i < 2 → lenT.getD i 0 < 200 := by decide
      exact this i hi
    rw [Int32.lt_iff_toInt_lt]
    have e1 : k.toInt = (k.toNatClampNeg : Int) := by
      have : 0 ≤ k.toInt := by
        rcases Int.lt_or_le k.toInt 0 with q | q
        · exact absurd (Int32.lt_iff_toInt_lt.mpr (by simpa using q)) h0
        · exact q
      show k.toInt = ((k.toInt.toNat : Nat) : Int)
      omega
    rw [e1, Int32.toInt_ofNat_of_lt (by omega)]
    omega
  refine Cn.of (by decide) (Nat.le_of_ble_eq_true rfl) ?_
  intro p e s m args below meth c hC hname hR ls hl
  have hC : Cx G RJ0 cJ0_charAt_5068e 2 (some .char) p s m args meth c := hC
  have hl : lv_has ls 2 [(0, .ref (sK G i)), (1, .int k)] := hl
  have hx := hC.x
  have hb := hC.b
  have hS : va_S (gA G) s.heap s.heap [] := va_S.rf
  have hT := hC.kx.2.2.2.2
  refine lv_aload_n hx hb dJ0_charAt_5068e_0 rfl (lv_at hl 0 rfl) ?_
  refine r_callT (rest := []) hi (bg16 _ (List.mem_of_getElem? (i := 11) rfl)) (bg16 _ (List.mem_of_getElem? (i := 8) rfl)) (bg16 _ (List.mem_of_getElem? (i := 9) rfl)) (bg16 _ (List.mem_of_getElem? (i := 10) rfl)) (bg15 _ (List.mem_of_getElem? (i := 19) rfl)) (by decide +kernel) hC hR hS (c_isLatin l G S hi) rfl ⟨Nat.le_of_ble_eq_true rfl, Nat.le_of_ble_eq_true rfl⟩ hl.1 rfl (Nat.le_of_ble_eq_true rfl) dJ0_charAt_5068e_1 ⟨Nat.zero_le _, Nat.zero_le _⟩ (fun H locs hR hS hE => ?_)
  refine W.eq (g2 := F0 m 4 ls [.int 1]) rfl ?_
  refine lv_if_eq (tgt := 16) hx hb dJ0_charAt_5068e_4 (by decide) (fun hc => absurd hc (by decide)) (fun hc => ?_)
  refine lv_aload_n hx hb dJ0_charAt_5068e_7 rfl (lv_at hl 0 rfl) ?_
  refine vk_getf hx hb (hT.2.2.1.1 i hi).2.2.1 hS hC.ow (hC.ts _ (bg15 _ (List.mem_of_getElem? (i := 21) rfl))) (fun _ h => h) dJ0_charAt_5068e_8 ?_
  refine lv_iload_n hx hb dJ0_charAt_5068e_11 rfl (lv_at hl 1 rfl) ?_
  refine r_callS (n := 2) (As := [.ref (sV G i), .int k]) (rest := []) (bg16 _ (List.mem_of_getElem? (i := 15) rfl)) (bg16 _ (List.mem_of_getElem? (i := 12) rfl)) (bg16 _ (List.mem_of_getElem? (i := 13) rfl)) (bg16 _ (List.mem_of_getElem? (i := 14) rfl)) (by decide +kernel) hC hR hS (c_lat l G S hi hk h0 h1) rfl ⟨Nat.le_of_ble_eq_true rfl, Nat.le_of_ble_eq_true rfl⟩ hl.1 rfl (Nat.le_of_ble_eq_true rfl) dJ0_charAt_5068e_12 ⟨Nat.zero_le _, Nat.zero_le _⟩ (fun H locs hR hS hE2 => ?_)
  refine W.eq (g2 := F0 m 15 ls [.int (chS i k.toNatClampNeg)]) rfl ?_
  exact r_nret hC (chS_ok i hi _ hlt).2 hR hS (hE.tr hE2) rfl dJ0_charAt_5068e_15
section TY
variable {p : Program} {l : Launch} {e : Env} {R : Room} {s : State} {m : MethodId} {args : Array Value} {below : List Frame} {meth : Method} {c : Code} {H : Heap} {locs : List Loc} {Q : State → Prop}
variable {G : Gx} {cc : ByteArray} {nL : Nat} {ret : Option FieldType} {S : MS} {pc : Nat} {ls : Array Slot} {rest : List Value} {a : Nat}
theorem r_ldc0 {cells slots : Nat} (hC : Cx G RX0 cc nL ret p s m args meth c) (hdg : decode cc pc = .ok (.ldc 64, 2)) (k : W p l e R s m args below meth c H locs cells slots Q (F0 m (pc + 2) ls (.ref (sK G 0) :: rest))) : W p l e R s m args below meth c H locs cells slots Q (F0 m pc ls rest) := va_ldcS hC.x hC.b hC.ow hC.kx.2.2.2.2.1 hdg k
theorem r_ldc1 {cells slots : Nat} (hC : Cx G RX0 cc nL ret p s m args meth c) (hdg : decode cc pc = .ok (.ldc 75, 2)) (k : W p l e R s m args below meth c H locs cells slots Q (F0 m (pc + 2) ls (.ref (sK G 1) :: rest))) : W p l e R s m args below meth c H locs cells slots Q (F0 m pc ls rest) := va_ldcS hC.x hC.b hC.ow hC.kx.2.2.2.2.2.1 hdg k
theorem r_slen {i : Nat} {v : Int32} (hi : i < 2) (hv : Int32.ofNat (lenT.getD i 0) = v) (hC : Cx G RX0 cc nL ret p s m args meth c) (hR : Rp G S H) (hS : va_S (gA G) s.heap H locs) (hls : ls.size = nL) (hroom : 2 ≤ R.frames ∧ 60 ≤ R.locals) (hw : (rest.map fun v => v.category).sum ≤ 8) (hdg : decode cc pc = .ok (.invokevirtual 66, 3)) (kk : ∀ (H1 : Heap) (locs1 : List Loc), Rp G S H1 → va_S (gA G) s.heap H1 locs1 → W p l e R s m args below meth c H1 locs1 0 0 Q (F0 m (pc + 3) ls (.int v :: rest))) : W p l e R s m args below meth c H locs 0 0 Q (F0 m pc ls (.ref (sK G i) :: rest)) := by
  subst hv
  exact r_callT (n := 0) (As := []) hi (bg15 _ (List.mem_of_getElem? (i := 20) rfl)) (bg15 _ (List.mem_of_getElem? (i := 16) rfl)) (bg15 _ (List.mem_of_getElem? (i := 17) rfl)) (bg15 _ (List.mem_of_getElem? (i := 18) rfl)) (bg15 _ (List.mem_of_getElem? (i := 19) rfl)) (by decide +kernel) hC hR hS (c_slen l G S hi) rfl ⟨hroom.1, hroom.2⟩ hls rfl hw hdg ⟨Nat.zero_le _, Nat.zero_le _⟩ (fun H locs hR hS _ => kk H locs hR hS)
theorem r_schar {i : Nat} {k v : Int32} (hi : i < 2) (hv : chS i k.toNatClampNeg = v) (hk : inb k (lenT.getD i 0) = true) (hC : Cx G RX0 cc nL ret p s m args meth c) (hR : Rp G S H) (hS : va_S (gA G) s.heap H locs) (hls : ls.size = nL) (hroom : 4 ≤ R.frames ∧ 141 ≤ R.locals) (hw : (rest.map fun v => v.category).sum ≤ 8) (hdg : decode cc pc = .ok (.invokevirtual 71, 3)) (kk : ∀ (H1 : Heap) (locs1 : List Loc), Rp G S H1 → va_S (gA G) s.heap H1 locs1 → W p l e R s m args below meth c H1 locs1 0 0 Q (F0 m (pc + 3) ls (.int v :: rest))) : W p l e R s m args below meth c H locs 0 0 Q (F0 m pc ls (.int k :: .ref (sK G i) :: rest)) := by
  subst hv
  exact r_callT (n := 1) (As := [.int k]) hi (bg16 _ (List.mem_of_getElem? (i := 7) rfl)) (bg16 _ (List.mem_of_getElem? (i := 4) rfl)) (bg16 _ (List.mem_of_getElem? (i := 5) rfl)) (bg16 _ (List.mem_of_getElem? (i := 6) rfl)) (bg15 _ (List.mem_of_getElem? (i := 19) rfl)) (by decide +kernel) hC hR hS (c_schar l G S hi hk) rfl ⟨hroom.1, hroom.2⟩ hls rfl hw hdg ⟨Nat.zero_le _, Nat.zero_le _⟩ (fun H locs hR hS _ => kk H locs hR hS)
end TY
