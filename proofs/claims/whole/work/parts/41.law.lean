def lcell (L : Nat) (xs : Nat → Int32) (k : Int32) : Int32 := if Int32.ofNat L ≤ k then 0 else xs k.toNatClampNeg
theorem nI_six {x : Int32} {j : Nat} (h : x = nI (2 + 6 * j) ∧ 6 * j ≤ 3074) (h2 : 6 * (j + 1) ≤ 3074) : x + 6 = nI (2 + 6 * (j + 1)) ∧ 6 * (j + 1) ≤ 3074 := by
  refine ⟨?_, h2⟩
  rw [h.1, show 2 + 6 * (j + 1) = 2 + 6 * j + 6 by omega]
  exact (Int32.ofNat_add (2 + 6 * j) 6).symm
theorem no_zero {S So : MS} : ¬ some ((0 : Int32), S) = some ((1 : Int32), So) := fun h => by
  have h1 : (0 : Int32) = 1 := congrArg Prod.fst (Option.some.inj h)
  exact absurd h1 (by decide)
theorem law_b {L j : Nat} {x : Int32} (hL : L ≤ 3074) (hx : x = nI (2 + 6 * j) ∧ 6 * j ≤ 3074) (hc : ¬ Int32.ofNat L - 6 < x) : 97 + 6 * j + 6 ≤ 600000 ∧ 9627 + 390 * j + 390 ≤ 7302250 ∧ 6 * (j + 1) ≤ 3074 := by
  obtain ⟨hx, hj⟩ := hx
  have h1 : (Int32.ofNat L - 6).toInt = (L : Int) - 6 := by
    rw [Int32.toInt_sub, show (Int32.ofNat L).toInt = (L : Int) from nI_toInt (n := L) (by omega), show (6 : Int32).toInt = 6 by decide]
    simp only [Int.bmod]
    omega
  have h2 : x.toInt = ((2 + 6 * j : Nat) : Int) := by rw [hx]; exact nI_toInt (by omega)
  have h3 : ¬ (Int32.ofNat L - 6).toInt < x.toInt := fun q => hc (Int32.lt_iff_toInt_lt.mpr q)
  rw [h1, h2] at h3
  have h4 : 6 * j + 8 ≤ L := by omega
  omega
set_option maxRecDepth 100000 in
theorem c_cellX (l : Launch) (G : Gx) (S : MS) {b L : Nat} {xs : Nat → Int32} (hL : L ≤ 3074) {k : Int32} (hk0 : ¬ k < 0) : Met l yL_cell (Cond.code yL_cell cL_cell 2 (some .int) :: BG) rT0 (va_Pc [.ref b, .int k] (fun U => (Rp G S U.heap ∧ Kx G U) ∧ va_X b L xs U U.heap ∧ b < G.2.2)) (Qn G S (some (.int (lcell L xs k))) S) rT0.cells rT0.slots (gA G) := by
  refine Met.ofW (cc := cL_cell) (maxL := 2) (ret := some .int) (by decide) rfl ?_
  intro p e s m args below meth c s₁ B hml hv
  obtain ⟨rfl, ⟨hR, hK⟩, hX, hbz⟩ := hv
  have hts := atoms_spec (ws := Cond.code yL_cell cL_cell 2 (some .int) :: BG) B.pre
  have hl := lv_entry [.ref b, .int k] (n := 2) (Nat.le_of_ble_eq_true rfl)
  rw [lg_entry_eq]
  have hzz : G.2.2 ≤ s.heap.size := by rw [hR.2.2]; exact Nat.le_add_right _ _
  have hC : Cx G RL cL_cell 2 (some .int) p s m _ meth c := ⟨B.exec, B.bytes, hml, findClass_of_methodNamed B.named, fun w h => hts w (List.mem_cons_of_mem _ h), B.returns, B.notSynchronized, hK, hzz⟩
  generalize (lg_sl ([.ref b, .int k]) ++ List.replicate (2 - (lg_sl ([.ref b, .int k])).length) Slot.unset).toArray = ls at hl ⊢
  have hl : lv_has ls 2 [(0, .ref b), (1, .int k)] := hl
  have hx := hC.x
  have hb := hC.b
  have hbl : b < s.heap.size := Nat.lt_of_lt_of_le hbz hzz
  have hbA : ¬ gA G b := by show ¬ G.2.2 ≤ b; omega
  have hS : va_S (gA G) s.heap s.heap [] := va_S.rf
  refine lv_iload_n hx hb dL_cell_0 rfl (lv_at hl 1 rfl) ?_
  refine lv_aload_n hx hb dL_cell_1 rfl (lv_at hl 0 rfl) ?_
  refine va_slen hx hb hX hbl hbA hS dL_cell_2 ?_
  refine lv_icmp_ge (tgt := 12) hx hb dL_cell_3 (by decide) (fun hc => ?_) (fun hc => ?_)
  · refine lv_iconst (v := 0) hx hb dL_cell_12 (by decide) ?_
    refine r_iret hC hR hS (Ex.rf S) ?_ dL_cell_13
    rw [lcell, if_pos hc]
  · refine lv_aload_n hx hb dL_cell_6 rfl (lv_at hl 0 rfl) ?_
    refine lv_iload_n hx hb dL_cell_7 rfl (lv_at hl 1 rfl) ?_
    have hin : vp_in k L := by
      intro q
      rcases q with q | q
      · exact hk0 q
      · refine hc ?_
        have h1 : (Int32.ofNat L).toInt = (L : Int) := nI_toInt (n := L) (by omega)
        rw [Int32.le_iff_toInt_le, h1]
        have h2 : 0 ≤ k.toInt := by
          rcases Int.lt_or_le k.toInt 0 with z | z
          · exact absurd (Int32.lt_iff_toInt_lt.mpr (by simpa using z)) hk0
          · exact z
        have h3 : (k.toNatClampNeg : Int) = k.toInt := by
          show ((k.toInt.toNat : Nat) : Int) = k.toInt
          omega
        omega
    refine va_sld hx hb hX hbl hbA hS hin dL_cell_8 ?_
    refine lv_goto (tgt := 13) hx hb dL_cell_9 (by decide) ?_
    refine r_iret hC hR hS (Ex.rf S) ?_ dL_cell_13
    rw [lcell, if_neg hc]
theorem r_cellX {p : Program} {l : Launch} {e : Env} {R : Room} {s : State} {m : MethodId} {args : Array Value} {below : List Frame} {meth : Method} {c : Code} {H : Heap} {locs : List Loc} {cells slots : Nat} {Q : State → Prop} {G : Gx} {cc : ByteArray} {nL : Nat} {ret : Option FieldType} {S : MS} {pc : Nat} {ls : Array Slot} {rest : List Value} {b L : Nat} {xs : Nat → Int32} {k : Int32} (hC : Cx G RL cc nL ret p s m args meth c) (hR : Rp G S H) (hS : va_S (gA G) s.heap H locs) (hX : va_X b L xs s s.heap) (hbl : b < s.heap.size) (hz : G.2.2 = s.heap.size) (hL : L ≤ 3074) (hk0 : ¬ k < 0) (_hk1 : k < 2) (hls : ls.size = nL) (hw : (rest.map fun v => v.category).sum ≤ 8) (hdg : decode cc pc = .ok (.invokestatic 9, 3)) (hcz : cells + rT0.cells ≤ R.cells) (hsz : slots + rT0.slots ≤ R.slots) (hfr : 1 ≤ R.frames ∧ 21 ≤ R.locals)
    (kk : ∀ (H1 : Heap) (locs1 : List Loc), Rp G S H1 → va_S (gA G) s.heap H1 locs1 → W p l e R s m args below meth c H1 locs1 (cells + rT0.cells) (slots + rT0.slots) Q (F0 m (pc + 3) ls (.int (lcell L xs k) :: rest))) : W p l e R s m args below meth c H locs cells slots Q (F0 m pc ls (.int k :: .ref b :: rest)) := by
  have hbA : ¬ gA G b := by show ¬ G.2.2 ≤ b; omega
  refine r_goes (va_runS (Ts := BG) (n := 2) (As := [.ref b, .int k]) ⟨hC.x, hC.b, hC.ml, hC.ow, hC.ts⟩ (c_cellX l G S (b := b) (xs := xs) hL hk0) ⟨callB_of 2 hC.ts (gdBG (bg1 _ (List.mem_of_getElem? (i := 9) rfl))) rfl rfl rfl (hC.ts _ (bg1 _ (List.mem_of_getElem? (i := 8) rfl))) (hC.ts _ (bg1 _ (List.mem_of_getElem? (i := 6) rfl))) (by decide +kernel) ⟨hfr.1, hfr.2⟩, hC.ts _ (bg1 _ (List.mem_of_getElem? (i := 7) rfl))⟩ ⟨fun a U g mk q => ?_, fun U hU hW => ⟨rfl, ⟨by rw [hU]; exact hR, hC.kx.warm hW (by rw [hU]; exact hS.2.1)⟩, (hX.moved hW.alike).kept (by rw [hU]; exact hS.2.1 b hbl hbA), by omega⟩⟩ rfl rfl hls rfl (lv_room hw) hdg ⟨hcz, hsz⟩) hS (fun H1 locs1 h1 h2 _ => kk H1 locs1 h1 h2)
  obtain ⟨q0, ⟨qR, qK⟩, qX, qb⟩ := q
  exact ⟨q0, ⟨qR, qK.same rfl rfl⟩, qX.moved (Vm.Alike.refl U.vm), qb⟩
def f_L_law_L38 (n : Nat) (q1 : Nat) (q7 : Nat) (z : Nat) (L : Nat) (xs : Nat → Int32) : Nat → Int32 → MS → Option (Int32 × MS)
  | 0, _, _ => none
  | k + 1, x15, S16 => jn (f_L_law_L38 n q1 q7 z L xs k) fun rec38_14 => (if ((Int32.ofNat L) - (6 : Int32)) < x15 then some ((1 : Int32), S16) else ck (inb x15 L) (bd ((xs x15.toNatClampNeg) &&& (31 : Int32)) fun x18 => jn (fun (S21 : MS) => rec38_14 (x15 + (6 : Int32)) S21) fun j1161_20 => (if x18 = (0 : Int32) then ck (inb (x15 + (1 : Int32)) L) (ck (inb (x15 + (2 : Int32)) L) (cl (f_X10_bone n q1 (xs (x15 + (1 : Int32)).toNatClampNeg) (xs (x15 + (2 : Int32)).toNatClampNeg) S16) fun x27 S24 => ck (inb (x15 + (1 : Int32)) L) (ck (inb (x15 + (2 : Int32)) L) (cl (f_X11_bone n q7 (xs (x15 + (1 : Int32)).toNatClampNeg) (xs (x15 + (2 : Int32)).toNatClampNeg) S24) fun x33 S30 => (if x27 = x33 then j1161_20 S30 else some ((0 : Int32), S30)))))) else (if x18 = (1 : Int32) then ck (inb (x15 + (1 : Int32)) L) (ck (inb (x15 + (2 : Int32)) L) (cl (f_X10_stake n q1 (xs (x15 + (1 : Int32)).toNatClampNeg) (xs (x15 + (2 : Int32)).toNatClampNeg) S16) fun x39 S36 => ck (inb (x15 + (1 : Int32)) L) (ck (inb (x15 + (2 : Int32)) L) (cl (f_X11_stake n q7 (xs (x15 + (1 : Int32)).toNatClampNeg) (xs (x15 + (2 : Int32)).toNatClampNeg) S36) fun x45 S42 => (if x39 = x45 then j1161_20 S42 else some ((0 : Int32), S42)))))) else (if x18 = (2 : Int32) then ck (inb (x15 + (1 : Int32)) L) (ck (inb (x15 + (2 : Int32)) L) (jn (fun (q50 : Nat) (x51 : Int32) (x52 : Int32) (S53 : MS) => cl (f_X10_well n q50 x51 x52 S53) fun x57 S54 => ck (inb (x15 + (1 : Int32)) L) (ck (inb (x15 + (2 : Int32)) L) (jn (fun (x62 : Int32) (q63 : Nat) (x64 : Int32) (x65 : Int32) (S66 : MS) => cl (f_X11_well n q63 x64 x65 S66) fun x70 S67 => (if x62 = x70 then j1161_20 S67 else some ((0 : Int32), S67))) fun j299_61 => (if (xs (x15 + (2 : Int32)).toNatClampNeg) = 0 then j299_61 x57 q7 (xs (x15 + (1 : Int32)).toNatClampNeg) (0 : Int32) S54 else j299_61 x57 q7 (xs (x15 + (1 : Int32)).toNatClampNeg) (1 : Int32) S54)))) fun j277_49 => (if (xs (x15 + (2 : Int32)).toNatClampNeg) = 0 then j277_49 q1 (xs (x15 + (1 : Int32)).toNatClampNeg) (0 : Int32) S16 else j277_49 q1 (xs (x15 + (1 : Int32)).toNatClampNeg) (1 : Int32) S16))) else (if x18 = (3 : Int32) then ck (inb (x15 + (1 : Int32)) L) (ck (inb (x15 + (2 : Int32)) L) (ck (inb (x15 + (3 : Int32)) L) (ck (inb (x15 + (4 : Int32)) L) (cl (f_X10_wind n q1 (xs (x15 + (1 : Int32)).toNatClampNeg) (xs (x15 + (2 : Int32)).toNatClampNeg) (xs (x15 + (3 : Int32)).toNatClampNeg) (xs (x15 + (4 : Int32)).toNatClampNeg) S16) fun x87 S84 => ck (inb (x15 + (1 : Int32)) L) (ck (inb (x15 + (2 : Int32)) L) (ck (inb (x15 + (3 : Int32)) L) (ck (inb (x15 + (4 : Int32)) L) (cl (f_X11_wind n q7 (xs (x15 + (1 : Int32)).toNatClampNeg) (xs (x15 + (2 : Int32)).toNatClampNeg) (xs (x15 + (3 : Int32)).toNatClampNeg) (xs (x15 + (4 : Int32)).toNatClampNeg) S84) fun x95 S92 => (if x87 = x95 then j1161_20 S92 else some ((0 : Int32), S92)))))))))) else (if x18 = (4 : Int32) then ck (inb (x15 + (1 : Int32)) L) (ck (inb (x15 + (2 : Int32)) L) (cl (f_X10_plan n q1 (xs (x15 + (1 : Int32)).toNatClampNeg) (xs (x15 + (2 : Int32)).toNatClampNeg) S16) fun x101 S98 => ck (inb (x15 + (1 : Int32)) L) (ck (inb (x15 + (2 : Int32)) L) (cl (f_X11_plan n q7 (xs (x15 + (1 : Int32)).toNatClampNeg) (xs (x15 + (2 : Int32)).toNatClampNeg) S98) fun x107 S104 => (if x101 = x107 then j1161_20 S104 else some ((0 : Int32), S104)))))) else (if x18 = (5 : Int32) then ck (inb (x15 + (1 : Int32)) L) (ck (inb (x15 + (2 : Int32)) L) (ck (inb (x15 + (3 : Int32)) L) (ck (inb (x15 + (4 : Int32)) L) (ck (inb (x15 + (5 : Int32)) L) (cl (f_X10_feed n q1 (xs (x15 + (1 : Int32)).toNatClampNeg) (xs (x15 + (2 : Int32)).toNatClampNeg) (xs (x15 + (3 : Int32)).toNatClampNeg) (xs (x15 + (4 : Int32)).toNatClampNeg) (xs (x15 + (5 : Int32)).toNatClampNeg) S16) fun x116 S113 => ck (inb (x15 + (1 : Int32)) L) (ck (inb (x15 + (2 : Int32)) L) (ck (inb (x15 + (3 : Int32)) L) (ck (inb (x15 + (4 : Int32)) L) (ck (inb (x15 + (5 : Int32)) L) (cl (f_X11_feed n q7 (xs (x15 + (1 : Int32)).toNatClampNeg) (xs (x15 + (2 : Int32)).toNatClampNeg) (xs (x15 + (3 : Int32)).toNatClampNeg) (xs (x15 + (4 : Int32)).toNatClampNeg) (xs (x15 + (5 : Int32)).toNatClampNeg) S113) fun x125 S122 => (if x116 = x125 then j1161_20 S122 else some ((0 : Int32), S122)))))))))))) else (if x18 = (6 : Int32) then ck (inb (x15 + (1 : Int32)) L) (cl (f_X10_end n q1 (xs (x15 + (1 : Int32)).toNatClampNeg) S16) fun x130 S127 => ck (inb (x15 + (1 : Int32)) L) (cl (f_X11_end n q7 (xs (x15 + (1 : Int32)).toNatClampNeg) S127) fun x135 S132 => (if x130 = x135 then j1161_20 S132 else some ((0 : Int32), S132)))) else (if x18 = (7 : Int32) then cl (f_X10_text n z q1 S16) fun x139 S136 => cl (f_X11_text n q7 S136) fun x143 S140 => (if x139 = x143 then j1161_20 S140 else some ((0 : Int32), S140)) else (if x18 = (8 : Int32) then ck (inb (x15 + (1 : Int32)) L) (cl (f_X10_fault n q1 (xs (x15 + (1 : Int32)).toNatClampNeg) S16) fun x148 S145 => ck (inb (x15 + (1 : Int32)) L) (cl (f_X11_fault n q7 (xs (x15 + (1 : Int32)).toNatClampNeg) S145) fun x153 S150 => (if x148 = x153 then j1161_20 S150 else some ((0 : Int32), S150)))) else (if x18 = (9 : Int32) then ck (inb (x15 + (1 : Int32)) L) (cl (f_X10_by n q1 (xs (x15 + (1 : Int32)).toNatClampNeg) S16) fun x158 S155 => ck (inb (x15 + (1 : Int32)) L) (cl (f_X11_by n q7 (xs (x15 + (1 : Int32)).toNatClampNeg) S155) fun x163 S160 => (if x158 = x163 then j1161_20 S160 else some ((0 : Int32), S160)))) else (if x18 = (10 : Int32) then ck (inb (x15 + (1 : Int32)) L) (cl (f_X10_draw n q1 (xs (x15 + (1 : Int32)).toNatClampNeg) S16) fun x168 S165 => ck (inb (x15 + (1 : Int32)) L) (cl (f_X11_draw n q7 (xs (x15 + (1 : Int32)).toNatClampNeg) S165) fun x173 S170 => (if x168 = x173 then j1161_20 S170 else some ((0 : Int32), S170)))) else (if x18 = (11 : Int32) then ck (inb (x15 + (1 : Int32)) L) (ck (inb (x15 + (2 : Int32)) L) (cl (f_X10_of n q1 (xs (x15 + (1 : Int32)).toNatClampNeg) (xs (x15 + (2 : Int32)).toNatClampNeg) S16) fun x179 S176 => ck (inb (x15 + (1 : Int32)) L) (ck (inb (x15 + (2 : Int32)) L) (cl (f_X11_of n q7 (xs (x15 + (1 : Int32)).toNatClampNeg) (xs (x15 + (2 : Int32)).toNatClampNeg) S176) fun x185 S182 => (if x179 = x185 then j1161_20 S182 else some ((0 : Int32), S182)))))) else (if x18 = (12 : Int32) then ck (inb (x15 + (1 : Int32)) L) (ck (inb (x15 + (2 : Int32)) L) (cl (f_X10_cell n q1 (xs (x15 + (1 : Int32)).toNatClampNeg) (xs (x15 + (2 : Int32)).toNatClampNeg) S16) fun x191 S188 => ck (inb (x15 + (1 : Int32)) L) (ck (inb (x15 + (2 : Int32)) L) (cl (f_X11_cell n q7 (xs (x15 + (1 : Int32)).toNatClampNeg) (xs (x15 + (2 : Int32)).toNatClampNeg) S188) fun x197 S194 => (if x191 = x197 then j1161_20 S194 else some ((0 : Int32), S194)))))) else (if x18 = (13 : Int32) then ck (inb (x15 + (1 : Int32)) L) (ck (inb (x15 + (2 : Int32)) L) (cl (f_X10_farmer n q1 (xs (x15 + (1 : Int32)).toNatClampNeg) (xs (x15 + (2 : Int32)).toNatClampNeg) S16) fun x203 S200 => ck (inb (x15 + (1 : Int32)) L) (ck (inb (x15 + (2 : Int32)) L) (cl (f_X11_farmer n q7 (xs (x15 + (1 : Int32)).toNatClampNeg) (xs (x15 + (2 : Int32)).toNatClampNeg) S200) fun x209 S206 => (if x203 = x209 then j1161_20 S206 else some ((0 : Int32), S206)))))) else (if x18 = (14 : Int32) then ck (inb (x15 + (1 : Int32)) L) (cl (f_X10_hour n q1 (xs (x15 + (1 : Int32)).toNatClampNeg) S16) fun x214 S211 => ck (inb (x15 + (1 : Int32)) L) (cl (f_X11_hour n q7 (xs (x15 + (1 : Int32)).toNatClampNeg) S211) fun x219 S216 => (if x214 = x219 then j1161_20 S216 else some ((0 : Int32), S216)))) else (if x18 = (15 : Int32) then ck (inb (x15 + (1 : Int32)) L) (ck (inb (x15 + (2 : Int32)) L) (cl (f_X10_sow n q1 (xs (x15 + (1 : Int32)).toNatClampNeg) (xs (x15 + (2 : Int32)).toNatClampNeg) S16) fun x225 S222 => ck (inb (x15 + (1 : Int32)) L) (ck (inb (x15 + (2 : Int32)) L) (cl (f_X11_sow n q7 (xs (x15 + (1 : Int32)).toNatClampNeg) (xs (x15 + (2 : Int32)).toNatClampNeg) S222) fun x231 S228 => (if x225 = x231 then j1161_20 S228 else some ((0 : Int32), S228)))))) else (if x18 = (16 : Int32) then ck (inb (x15 + (1 : Int32)) L) (cl (f_X10_reap n q1 (xs (x15 + (1 : Int32)).toNatClampNeg) S16) fun x236 S233 => ck (inb (x15 + (1 : Int32)) L) (cl (f_X11_reap n q7 (xs (x15 + (1 : Int32)).toNatClampNeg) S233) fun x241 S238 => (if x236 = x241 then j1161_20 S238 else some ((0 : Int32), S238)))) else (if x18 = (17 : Int32) then ck (inb (x15 + (1 : Int32)) L) (ck (inb (x15 + (2 : Int32)) L) (ck (inb (x15 + (3 : Int32)) L) (cl (f_X10_night n q1 (xs (x15 + (1 : Int32)).toNatClampNeg) (xs (x15 + (2 : Int32)).toNatClampNeg) (xs (x15 + (3 : Int32)).toNatClampNeg) S16) fun x248 S245 => ck (inb (x15 + (1 : Int32)) L) (ck (inb (x15 + (2 : Int32)) L) (ck (inb (x15 + (3 : Int32)) L) (cl (f_X11_night n q7 (xs (x15 + (1 : Int32)).toNatClampNeg) (xs (x15 + (2 : Int32)).toNatClampNeg) (xs (x15 + (3 : Int32)).toNatClampNeg) S245) fun x255 S252 => (if x248 = x255 then j1161_20 S252 else some ((0 : Int32), S252)))))))) else (if x18 = (18 : Int32) then ck (inb (x15 + (1 : Int32)) L) (ck (inb (x15 + (2 : Int32)) L) (ck (inb (x15 + (3 : Int32)) L) (cl (f_X10_odds n q1 (xs (x15 + (1 : Int32)).toNatClampNeg) (xs (x15 + (2 : Int32)).toNatClampNeg) (xs (x15 + (3 : Int32)).toNatClampNeg) S16) fun x262 S259 => ck (inb (x15 + (1 : Int32)) L) (ck (inb (x15 + (2 : Int32)) L) (ck (inb (x15 + (3 : Int32)) L) (cl (f_X11_odds n q7 (xs (x15 + (1 : Int32)).toNatClampNeg) (xs (x15 + (2 : Int32)).toNatClampNeg) (xs (x15 + (3 : Int32)).toNatClampNeg) S259) fun x269 S266 => (if x262 = x269 then j1161_20 S266 else some ((0 : Int32), S266)))))))) else (if x18 = (19 : Int32) then ck (inb (x15 + (1 : Int32)) L) (ck (inb (x15 + (2 : Int32)) L) (cl (f_X10_mean n q1 (xs (x15 + (1 : Int32)).toNatClampNeg) (xs (x15 + (2 : Int32)).toNatClampNeg) S16) fun x275 S272 => ck (inb (x15 + (1 : Int32)) L) (ck (inb (x15 + (2 : Int32)) L) (cl (f_X11_mean n q7 (xs (x15 + (1 : Int32)).toNatClampNeg) (xs (x15 + (2 : Int32)).toNatClampNeg) S272) fun x281 S278 => (if x275 = x281 then j1161_20 S278 else some ((0 : Int32), S278)))))) else (if x18 = (20 : Int32) then ck (inb (x15 + (1 : Int32)) L) (ck (inb (x15 + (2 : Int32)) L) (ck (inb (x15 + (3 : Int32)) L) (cl (f_X10_best n q1 (xs (x15 + (1 : Int32)).toNatClampNeg) (xs (x15 + (2 : Int32)).toNatClampNeg) (xs (x15 + (3 : Int32)).toNatClampNeg) S16) fun x288 S285 => ck (inb (x15 + (1 : Int32)) L) (ck (inb (x15 + (2 : Int32)) L) (ck (inb (x15 + (3 : Int32)) L) (cl (f_X11_best n q7 (xs (x15 + (1 : Int32)).toNatClampNeg) (xs (x15 + (2 : Int32)).toNatClampNeg) (xs (x15 + (3 : Int32)).toNatClampNeg) S285) fun x295 S292 => (if x288 = x295 then j1161_20 S292 else some ((0 : Int32), S292)))))))) else (if x18 = (21 : Int32) then ck (inb (x15 + (1 : Int32)) L) (ck (inb (x15 + (2 : Int32)) L) (ck (inb (x15 + (3 : Int32)) L) (cl (f_X10_time n q1 (xs (x15 + (1 : Int32)).toNatClampNeg) (xs (x15 + (2 : Int32)).toNatClampNeg) (xs (x15 + (3 : Int32)).toNatClampNeg) S16) fun x302 S299 => ck (inb (x15 + (1 : Int32)) L) (ck (inb (x15 + (2 : Int32)) L) (ck (inb (x15 + (3 : Int32)) L) (cl (f_X11_time n q7 (xs (x15 + (1 : Int32)).toNatClampNeg) (xs (x15 + (2 : Int32)).toNatClampNeg) (xs (x15 + (3 : Int32)).toNatClampNeg) S299) fun x309 S306 => (if x302 = x309 then j1161_20 S306 else some ((0 : Int32), S306)))))))) else (if x18 = (22 : Int32) then ck (inb (x15 + (1 : Int32)) L) (ck (inb (x15 + (2 : Int32)) L) (ck (inb (x15 + (3 : Int32)) L) (ck (inb (x15 + (4 : Int32)) L) (cl (f_X10_keeps n q1 (xs (x15 + (1 : Int32)).toNatClampNeg) (xs (x15 + (2 : Int32)).toNatClampNeg) (xs (x15 + (3 : Int32)).toNatClampNeg) (xs (x15 + (4 : Int32)).toNatClampNeg) S16) fun x317 S314 => ck (inb (x15 + (1 : Int32)) L) (ck (inb (x15 + (2 : Int32)) L) (ck (inb (x15 + (3 : Int32)) L) (ck (inb (x15 + (4 : Int32)) L) (cl (f_X11_keeps n q7 (xs (x15 + (1 : Int32)).toNatClampNeg) (xs (x15 + (2 : Int32)).toNatClampNeg) (xs (x15 + (3 : Int32)).toNatClampNeg) (xs (x15 + (4 : Int32)).toNatClampNeg) S314) fun x325 S322 => (if x317 = x325 then j1161_20 S322 else some ((0 : Int32), S322)))))))))) else (if x18 = (23 : Int32) then cl (f_X10_calm n q1 S16) fun x329 S326 => cl (f_X11_calm n q7 S326) fun x333 S330 => (if x329 = x333 then j1161_20 S330 else some ((0 : Int32), S330)) else (if x18 = (24 : Int32) then ck (inb (x15 + (1 : Int32)) L) (cl (f_X10_disputes n q1 (xs (x15 + (1 : Int32)).toNatClampNeg) S16) fun x338 S335 => ck (inb (x15 + (1 : Int32)) L) (cl (f_X11_disputes n q7 (xs (x15 + (1 : Int32)).toNatClampNeg) S335) fun x343 S340 => (if x338 = x343 then j1161_20 S340 else some ((0 : Int32), S340)))) else (if x18 = (25 : Int32) then ck (inb (x15 + (1 : Int32)) L) (ck (inb (x15 + (2 : Int32)) L) (cl (f_X10_map n q1 (xs (x15 + (1 : Int32)).toNatClampNeg) (xs (x15 + (2 : Int32)).toNatClampNeg) S16) fun x349 S346 => ck (inb (x15 + (1 : Int32)) L) (ck (inb (x15 + (2 : Int32)) L) (cl (f_X11_map n q7 (xs (x15 + (1 : Int32)).toNatClampNeg) (xs (x15 + (2 : Int32)).toNatClampNeg) S346) fun x355 S352 => (if x349 = x355 then j1161_20 S352 else some ((0 : Int32), S352)))))) else (if x18 = (26 : Int32) then cl (f_X10_made n q1 S16) fun x359 S356 => cl (f_X11_made n q7 S356) fun x363 S360 => (if x359 = x363 then j1161_20 S360 else some ((0 : Int32), S360)) else (if x18 = (27 : Int32) then ck (inb (x15 + (1 : Int32)) L) (ck (inb (x15 + (2 : Int32)) L) (cl (f_X10_hours n q1 (xs (x15 + (1 : Int32)).toNatClampNeg) (xs (x15 + (2 : Int32)).toNatClampNeg) S16) fun x369 S366 => ck (inb (x15 + (1 : Int32)) L) (ck (inb (x15 + (2 : Int32)) L) (cl (f_X11_hours n q7 (xs (x15 + (1 : Int32)).toNatClampNeg) (xs (x15 + (2 : Int32)).toNatClampNeg) S366) fun x375 S372 => (if x369 = x375 then j1161_20 S372 else some ((0 : Int32), S372)))))) else (if x18 = (28 : Int32) then cl (f_X10_image n q1 S16) fun x379 S376 => cl (f_X11_image n q7 S376) fun x383 S380 => (if x379 = x383 then j1161_20 S380 else some ((0 : Int32), S380)) else (if x18 = (29 : Int32) then cl (f_X10_back n q1 S16) fun x387 S384 => cl (f_X11_back n q7 S384) fun x391 S388 => (if x387 = x391 then j1161_20 S388 else some ((0 : Int32), S388)) else (if x18 = (30 : Int32) then ck (inb (x15 + (1 : Int32)) L) (cl (f_X10_about n q1 (xs (x15 + (1 : Int32)).toNatClampNeg) S16) fun x396 S393 => ck (inb (x15 + (1 : Int32)) L) (cl (f_X11_about n q7 (xs (x15 + (1 : Int32)).toNatClampNeg) S393) fun x401 S398 => (if x396 = x401 then j1161_20 S398 else some ((0 : Int32), S398)))) else j1161_20 S16)))))))))))))))))))))))))))))))))
def f_L_law (n z L : Nat) (xs : Nat → Int32) (S : MS) : Option (Int32 × MS) :=
  jn (z + (mL S).length) fun q1 => bd (nw S q1 10 0) fun S2 => cv (f_X10_init n z q1 (lcell L xs (0 : Int32)) (lcell L xs (1 : Int32)) S2) fun S4 => jn (z + (mL S4).length) fun q7 => bd (nw S4 q7 11 0) fun S8 => cv (f_X11_init n z q7 (lcell L xs (0 : Int32)) (lcell L xs (1 : Int32)) S8) fun S10 => f_L_law_L38 n q1 q7 z L xs n (2 : Int32) S10
set_option maxRecDepth 100000 in
set_option maxHeartbeats 8000000 in
theorem w_law {p : Program} {e : Env} {s : State} {m : MethodId} {below : List Frame} {meth : Method} {c : Code} (l : Launch) {b L : Nat} {xs : Nat → Int32} (hL : L ≤ 3074) (G : Gx) (n : Nat) (S So : MS) (hC : Cx G RL cL_law 4 (some .boolean) p s m #[Value.ref b] meth c) (hX : va_X b L xs s s.heap) (hbl : b < s.heap.size) (hz : G.2.2 = s.heap.size) (hR : Rp G S s.heap) (hf : f_L_law n G.2.2 L xs S = some ((1 : Int32), So)) (ls : Array Slot) (hl : lv_has ls 4 [(0, .ref b)]) : W p l e room_1 s m #[Value.ref b] below meth c s.heap [] 0 0 (lw_Z below #[Value.ref b] s) (F0 m 0 ls []) := by
  have hx := hC.x
  have hb := hC.b
  have hbA : ¬ gA G b := by show ¬ G.2.2 ≤ b; omega
  have hS : va_S (gA G) s.heap s.heap [] := va_S.rf
  have hE : Ex S S := Ex.rf S
  unfold f_L_law at hf
  obtain ⟨q1, eq1, hf⟩ := jn_of hf
  refine r_new (ci := 10) rfl (by decide) inlX10 rfl (by decide +kernel) (by decide +kernel) (bg1 _ (List.mem_of_getElem? (i := 0) rfl)) (bg1 _ (List.mem_of_getElem? (i := 1) rfl)) (bg1 _ (List.mem_of_getElem? (i := 2) rfl)) hC hR hS (Nat.le_of_ble_eq_true rfl) (Nat.le_of_ble_eq_true rfl) dL_law_0 eq1 hf (fun S2 H hf hR hS hE3 ok_q1 => ?_)
  have hE := hE.tr hE3
  refine lv_dup hx hb dL_law_3 rfl ?_
  refine lv_aload_n hx hb dL_law_4 rfl (lv_at hl 0 rfl) ?_
  refine lv_iconst (v := 0) hx hb dL_law_5 (by decide) ?_
  refine r_cellX (rest := [.ref q1, .ref q1]) hC hR hS hX hbl hz hL (by decide) (by decide) hl.1 (Nat.le_of_ble_eq_true rfl) dL_law_6 (Nat.le_of_ble_eq_true rfl) (Nat.le_of_ble_eq_true rfl) ⟨Nat.le_of_ble_eq_true rfl, Nat.le_of_ble_eq_true rfl⟩ (fun H locs hR hS => ?_)
  refine lv_aload_n hx hb dL_law_9 rfl (lv_at hl 0 rfl) ?_
  refine lv_iconst (v := 1) hx hb dL_law_10 (by decide) ?_
  refine r_cellX (rest := [.int (lcell L xs (0 : Int32)), .ref q1, .ref q1]) hC hR hS hX hbl hz hL (by decide) (by decide) hl.1 (Nat.le_of_ble_eq_true rfl) dL_law_11 (Nat.le_of_ble_eq_true rfl) (Nat.le_of_ble_eq_true rfl) ⟨Nat.le_of_ble_eq_true rfl, Nat.le_of_ble_eq_true rfl⟩ (fun H locs hR hS => ?_)
  obtain ⟨S4, hc5, hf⟩ := cv_of hf
  refine cl_RL_15 (As := [.int (lcell L xs (0 : Int32)), .int (lcell L xs (1 : Int32))]) (rest := [.ref q1]) hC hR hS (c_X10_init l G n q1 (lcell L xs (0 : Int32)) (lcell L xs (1 : Int32)) S2 S4 hc5 ok_q1) rfl ⟨Nat.le_of_ble_eq_true rfl, Nat.le_of_ble_eq_true rfl⟩ hl.1 rfl (Nat.le_of_ble_eq_true rfl) dL_law_14 (Nat.le_of_ble_eq_true rfl) (Nat.le_of_ble_eq_true rfl) (fun H locs hR hS hE6 => ?_)
  have ok_q1 := hE6 _ _ ok_q1
  have hE := hE.tr hE6
  refine lv_astore_n (lv' := [(1, .ref q1), (0, .ref b)]) hx hb dL_law_17 rfl hl (by decide) rfl (fun ls hl => ?_)
  obtain ⟨q7, eq7, hf⟩ := jn_of hf
  refine r_new (ci := 11) rfl (by decide) inlX11 rfl (by decide +kernel) (by decide +kernel) (bg1 _ (List.mem_of_getElem? (i := 3) rfl)) (bg1 _ (List.mem_of_getElem? (i := 4) rfl)) (bg1 _ (List.mem_of_getElem? (i := 5) rfl)) hC hR hS (Nat.le_of_ble_eq_true rfl) (Nat.le_of_ble_eq_true rfl) dL_law_18 eq7 hf (fun S8 H hf hR hS hE9 ok_q7 => ?_)
  have ok_q1 := hE9 _ _ ok_q1
  have hE := hE.tr hE9
  refine lv_dup hx hb dL_law_21 rfl ?_
  refine lv_aload_n hx hb dL_law_22 rfl (lv_at hl 1 rfl) ?_
  refine lv_iconst (v := 0) hx hb dL_law_23 (by decide) ?_
  refine r_cellX (rest := [.ref q7, .ref q7]) hC hR hS hX hbl hz hL (by decide) (by decide) hl.1 (Nat.le_of_ble_eq_true rfl) dL_law_24 (Nat.le_of_ble_eq_true rfl) (Nat.le_of_ble_eq_true rfl) ⟨Nat.le_of_ble_eq_true rfl, Nat.le_of_ble_eq_true rfl⟩ (fun H locs hR hS => ?_)
  refine lv_aload_n hx hb dL_law_27 rfl (lv_at hl 1 rfl) ?_
  refine lv_iconst (v := 1) hx hb dL_law_28 (by decide) ?_
  refine r_cellX (rest := [.int (lcell L xs (0 : Int32)), .ref q7, .ref q7]) hC hR hS hX hbl hz hL (by decide) (by decide) hl.1 (Nat.le_of_ble_eq_true rfl) dL_law_29 (Nat.le_of_ble_eq_true rfl) (Nat.le_of_ble_eq_true rfl) ⟨Nat.le_of_ble_eq_true rfl, Nat.le_of_ble_eq_true rfl⟩ (fun H locs hR hS => ?_)
  obtain ⟨S10, hc11, hf⟩ := cv_of hf
  refine cl_RL_20 (As := [.int (lcell L xs (0 : Int32)), .int (lcell L xs (1 : Int32))]) (rest := [.ref q7]) hC hR hS (c_X11_init l G n q7 (lcell L xs (0 : Int32)) (lcell L xs (1 : Int32)) S8 S10 hc11 ok_q7) rfl ⟨Nat.le_of_ble_eq_true rfl, Nat.le_of_ble_eq_true rfl⟩ hl.1 rfl (Nat.le_of_ble_eq_true rfl) dL_law_32 (Nat.le_of_ble_eq_true rfl) (Nat.le_of_ble_eq_true rfl) (fun H locs hR hS hE12 => ?_)
  have ok_q1 := hE12 _ _ ok_q1
  have ok_q7 := hE12 _ _ ok_q7
  have hE := hE.tr hE12
  refine lv_astore_n (lv' := [(2, .ref q7), (1, .ref q1), (0, .ref b)]) hx hb dL_law_35 rfl hl (by decide) rfl (fun ls hl => ?_)
  refine lv_iconst (v := 2) hx hb dL_law_36 (by decide) ?_
  refine lv_istore_n (lv' := [(3, .int (2 : Int32)), (2, .ref q7), (1, .ref q1), (0, .ref b)]) hx hb dL_law_37 rfl hl (by decide) rfl (fun ls hl => ?_)
  have hh403 : ∀ k : Nat, ∀ (x15 : Int32) (j : Nat) (S16 : MS) (H : Heap) (locs : List Loc) (ls : Array Slot), (x15 = nI (2 + 6 * j) ∧ 6 * j ≤ 3074) → f_L_law_L38 n q1 q7 G.2.2 L xs k x15 S16 = some ((1 : Int32), So) → Rp G S16 H → va_S (gA G) s.heap H locs → Ex S S16 → Ok S16 q1 10 → Ok S16 q7 11 → lv_has ls 4 [(0, .ref b), (1, .ref q1), (2, .ref q7), (3, .int x15)] → W p l e room_1 s m #[Value.ref b] below meth c H locs (97 + 6 * j) (9627 + 390 * j) (lw_Z below #[Value.ref b] s) (F0 m 38 ls []) := by
    intro k
    induction k with
    | zero =>
      intro x15 j S16 H locs ls hij hf hR hS hE ok_q1 ok_q7 hl
      exact absurd hf (by rw [f_L_law_L38]; exact fun h => by cases h)
    | succ k ih =>
      intro x15 j S16 H locs ls hij hf hR hS hE ok_q1 ok_q7 hl
      rw [f_L_law_L38] at hf
      obtain ⟨rec38_14, erec38_14, hf⟩ := jn_of2 hf
      have hL38_13 : ∀ (x15 : Int32) (j : Nat) (S16 : MS) (H : Heap) (locs : List Loc) (ls : Array Slot), (x15 = nI (2 + 6 * j) ∧ 6 * j ≤ 3074) → rec38_14 x15 S16 = some ((1 : Int32), So) → Rp G S16 H → va_S (gA G) s.heap H locs → Ex S S16 → Ok S16 q1 10 → Ok S16 q7 11 → lv_has ls 4 [(0, .ref b), (1, .ref q1), (2, .ref q7), (3, .int x15)] → W p l e room_1 s m #[Value.ref b] below meth c H locs (97 + 6 * j) (9627 + 390 * j) (lw_Z below #[Value.ref b] s) (F0 m 38 ls []) := by
        intro x15 j S16 H locs ls hij hf hR hS hE ok_q1 ok_q7 hl
        rw [erec38_14] at hf
        exact ih x15 j S16 _ _ _ hij hf hR hS hE ok_q1 ok_q7 hl
      refine lv_iload_n hx hb dL_law_38 rfl (lv_at hl 3 rfl) ?_
      refine lv_aload_n hx hb dL_law_39 rfl (lv_at hl 0 rfl) ?_
      refine va_slen hx hb hX hbl hbA hS dL_law_40 ?_
      refine lv_bipush (v := 6) hx hb dL_law_41 (by decide) ?_
      refine lv_isub hx hb dL_law_43 ?_
      refine lv_icmp_gt (tgt := 1167) hx hb dL_law_44 (by decide) (fun hc => ?_) (fun hc => ?_)
      · replace hf := if_t hf hc
        refine lv_iconst (v := 1) hx hb dL_law_1167 (by decide) ?_
        refine va_forget (fun q hq => by rw [← hz]; exact hS.2.2 q hq) ?_
        refine W.widen (k := 600000) (n := 7302250) (by have := hij.2; omega) (by have := hij.2; omega) ?_
        exact lw_ret hx hb hC.r hC.lk dL_law_1168
      · replace hf := if_f hf hc
        have hcb := law_b hL hij hc
        refine lv_aload_n hx hb dL_law_47 rfl (lv_at hl 0 rfl) ?_
        refine lv_iload_n hx hb dL_law_48 rfl (lv_at hl 3 rfl) ?_
        obtain ⟨hi17, hf⟩ := ck_of hf
        refine va_sld hx hb hX hbl hbA hS (inb_in hi17) dL_law_49 ?_
        refine lv_bipush (v := 31) hx hb dL_law_50 (by decide) ?_
        refine lv_iand hx hb dL_law_52 ?_
        refine bdi hf (fun x18 hf => ?_)
        obtain ⟨j1161_20, ej1161_20, hf⟩ := jn_of1 hf
        have hj1161_19 : ∀ (S21 : MS) (H : Heap) (locs : List Loc) (ls : Array Slot), j1161_20 S21 = some ((1 : Int32), So) → Rp G S21 H → va_S (gA G) s.heap H locs → Ex S S21 → Ok S21 q1 10 → Ok S21 q7 11 → lv_has ls 4 [(0, .ref b), (1, .ref q1), (2, .ref q7), (3, .int x15)] → W p l e room_1 s m #[Value.ref b] below meth c H locs (97 + 6 * (j + 1)) (9627 + 390 * (j + 1)) (lw_Z below #[Value.ref b] s) (F0 m 1161 ls []) := by
          intro S21 H locs ls hf hR hS hE ok_q1 ok_q7 hl
          rw [ej1161_20] at hf
          refine lv_iinc (v := (x15 + (6 : Int32))) (lv' := [(3, .int (x15 + (6 : Int32))), (0, .ref b), (1, .ref q1), (2, .ref q7)]) hx hb dL_law_1161 hl (k := 3) rfl rfl (by decide) rfl (fun ls hl => ?_)
          refine lv_goto (tgt := 38) hx hb dL_law_1164 (by decide) ?_
          exact hL38_13 (x15 + (6 : Int32)) (j + 1) S21 _ _ _ (nI_six hij hcb.2.2) hf hR hS hE ok_q1 ok_q7 (lv_sub hl [1, 2, 3, 0] rfl)
        by_cases hc0 : x18 = (0 : Int32)
        · replace hf := if_t hf hc0
          rw [hc0]
          refine lv_tableIn (tgt := 192) hx hb dL_law_53 (by decide) (by decide) rfl (by decide) ?_
          refine lv_aload_n hx hb dL_law_192 rfl (lv_at hl 1 rfl) ?_
          refine lv_aload_n hx hb dL_law_193 rfl (lv_at hl 0 rfl) ?_
          refine lv_iload_n hx hb dL_law_194 rfl (lv_at hl 3 rfl) ?_
          refine lv_iconst (v := 1) hx hb dL_law_195 (by decide) ?_
          refine lv_iadd hx hb dL_law_196 ?_
          obtain ⟨hi22, hf⟩ := ck_of hf
          refine va_sld hx hb hX hbl hbA hS (inb_in hi22) dL_law_197 ?_
          refine lv_aload_n hx hb dL_law_198 rfl (lv_at hl 0 rfl) ?_
          refine lv_iload_n hx hb dL_law_199 rfl (lv_at hl 3 rfl) ?_
          refine lv_iconst (v := 2) hx hb dL_law_200 (by decide) ?_
          refine lv_iadd hx hb dL_law_201 ?_
          obtain ⟨hi23, hf⟩ := ck_of hf
          refine va_sld hx hb hX hbl hbA hS (inb_in hi23) dL_law_202 ?_
          obtain ⟨x27, S24, hc25, hf⟩ := cl_of hf
          refine cl_RL_21 (As := [.int (xs (x15 + (1 : Int32)).toNatClampNeg), .int (xs (x15 + (2 : Int32)).toNatClampNeg)]) (rest := []) hC hR hS (c_X10_bone l G n q1 (xs (x15 + (1 : Int32)).toNatClampNeg) (xs (x15 + (2 : Int32)).toNatClampNeg) S16 x27 S24 hc25 ok_q1) ok_q1 rfl ⟨Nat.le_of_ble_eq_true rfl, Nat.le_of_ble_eq_true rfl⟩ hl.1 rfl (Nat.le_of_ble_eq_true rfl) dL_law_203 (by first | exact Nat.le_trans (Nat.le_add_right _ 6) hcb.1 | exact hcb.1) (by first | exact Nat.le_trans (Nat.le_add_right _ 390) hcb.2.1 | exact hcb.2.1) (fun H locs hR hS hE26 => ?_)
          have ok_q1 := hE26 _ _ ok_q1
          have ok_q7 := hE26 _ _ ok_q7
          have hE := hE.tr hE26
          refine lv_aload_n hx hb dL_law_206 rfl (lv_at hl 2 rfl) ?_
          refine lv_aload_n hx hb dL_law_207 rfl (lv_at hl 0 rfl) ?_
          refine lv_iload_n hx hb dL_law_208 rfl (lv_at hl 3 rfl) ?_
          refine lv_iconst (v := 1) hx hb dL_law_209 (by decide) ?_
          refine lv_iadd hx hb dL_law_210 ?_
          obtain ⟨hi28, hf⟩ := ck_of hf
          refine va_sld hx hb hX hbl hbA hS (inb_in hi28) dL_law_211 ?_
          refine lv_aload_n hx hb dL_law_212 rfl (lv_at hl 0 rfl) ?_
          refine lv_iload_n hx hb dL_law_213 rfl (lv_at hl 3 rfl) ?_
          refine lv_iconst (v := 2) hx hb dL_law_214 (by decide) ?_
          refine lv_iadd hx hb dL_law_215 ?_
          obtain ⟨hi29, hf⟩ := ck_of hf
          refine va_sld hx hb hX hbl hbA hS (inb_in hi29) dL_law_216 ?_
          obtain ⟨x33, S30, hc31, hf⟩ := cl_of hf
          refine cl_RL_25 (As := [.int (xs (x15 + (1 : Int32)).toNatClampNeg), .int (xs (x15 + (2 : Int32)).toNatClampNeg)]) (rest := [.int x27]) hC hR hS (c_X11_bone l G n q7 (xs (x15 + (1 : Int32)).toNatClampNeg) (xs (x15 + (2 : Int32)).toNatClampNeg) S24 x33 S30 hc31 ok_q7) ok_q7 rfl ⟨Nat.le_of_ble_eq_true rfl, Nat.le_of_ble_eq_true rfl⟩ hl.1 rfl (Nat.le_of_ble_eq_true rfl) dL_law_217 (by first | exact Nat.le_trans (Nat.le_add_right _ 6) hcb.1 | exact hcb.1) (by first | exact Nat.le_trans (Nat.le_add_right _ 390) hcb.2.1 | exact hcb.2.1) (fun H locs hR hS hE32 => ?_)
          have ok_q1 := hE32 _ _ ok_q1
          have ok_q7 := hE32 _ _ ok_q7
          have hE := hE.tr hE32
          refine lv_icmp_eq (tgt := 1161) hx hb dL_law_220 (by decide) (fun hc => ?_) (fun hc => ?_)
          · replace hf := if_t hf hc
            refine W.widen (k := (97 + 6 * (j + 1))) (n := (9627 + 390 * (j + 1))) (by first | exact Nat.le_trans (Nat.le_add_right _ 6) (show 97 + 6 * j + 6 ≤ 97 + 6 * (j + 1) by omega) | exact (show 97 + 6 * j + 6 ≤ 97 + 6 * (j + 1) by omega)) (by first | exact Nat.le_trans (Nat.le_add_right _ 390) (show 9627 + 390 * j + 390 ≤ 9627 + 390 * (j + 1) by omega) | exact (show 9627 + 390 * j + 390 ≤ 9627 + 390 * (j + 1) by omega)) ?_
            exact hj1161_19 S30 _ _ _ hf hR hS hE ok_q1 ok_q7 (lv_sub hl [0, 1, 2, 3] rfl)
          · replace hf := if_f hf hc
            refine lv_iconst (v := 0) hx hb dL_law_223 (by decide) ?_
            exact absurd hf no_zero
        · replace hf := if_f hf hc0
          by_cases hc1 : x18 = (1 : Int32)
          · replace hf := if_t hf hc1
            rw [hc1]
            refine lv_tableIn (tgt := 225) hx hb dL_law_53 (by decide) (by decide) rfl (by decide) ?_
            refine lv_aload_n hx hb dL_law_225 rfl (lv_at hl 1 rfl) ?_
            refine lv_aload_n hx hb dL_law_226 rfl (lv_at hl 0 rfl) ?_
            refine lv_iload_n hx hb dL_law_227 rfl (lv_at hl 3 rfl) ?_
            refine lv_iconst (v := 1) hx hb dL_law_228 (by decide) ?_
            refine lv_iadd hx hb dL_law_229 ?_
            obtain ⟨hi34, hf⟩ := ck_of hf
            refine va_sld hx hb hX hbl hbA hS (inb_in hi34) dL_law_230 ?_
            refine lv_aload_n hx hb dL_law_231 rfl (lv_at hl 0 rfl) ?_
            refine lv_iload_n hx hb dL_law_232 rfl (lv_at hl 3 rfl) ?_
            refine lv_iconst (v := 2) hx hb dL_law_233 (by decide) ?_
            refine lv_iadd hx hb dL_law_234 ?_
            obtain ⟨hi35, hf⟩ := ck_of hf
            refine va_sld hx hb hX hbl hbA hS (inb_in hi35) dL_law_235 ?_
            obtain ⟨x39, S36, hc37, hf⟩ := cl_of hf
            refine cl_RL_26 (As := [.int (xs (x15 + (1 : Int32)).toNatClampNeg), .int (xs (x15 + (2 : Int32)).toNatClampNeg)]) (rest := []) hC hR hS (c_X10_stake l G n q1 (xs (x15 + (1 : Int32)).toNatClampNeg) (xs (x15 + (2 : Int32)).toNatClampNeg) S16 x39 S36 hc37 ok_q1) ok_q1 rfl ⟨Nat.le_of_ble_eq_true rfl, Nat.le_of_ble_eq_true rfl⟩ hl.1 rfl (Nat.le_of_ble_eq_true rfl) dL_law_236 (by first | exact Nat.le_trans (Nat.le_add_right _ 6) hcb.1 | exact hcb.1) (by first | exact Nat.le_trans (Nat.le_add_right _ 390) hcb.2.1 | exact hcb.2.1) (fun H locs hR hS hE38 => ?_)
            have ok_q1 := hE38 _ _ ok_q1
            have ok_q7 := hE38 _ _ ok_q7
            have hE := hE.tr hE38
            refine lv_aload_n hx hb dL_law_239 rfl (lv_at hl 2 rfl) ?_
            refine lv_aload_n hx hb dL_law_240 rfl (lv_at hl 0 rfl) ?_
            refine lv_iload_n hx hb dL_law_241 rfl (lv_at hl 3 rfl) ?_
            refine lv_iconst (v := 1) hx hb dL_law_242 (by decide) ?_
            refine lv_iadd hx hb dL_law_243 ?_
            obtain ⟨hi40, hf⟩ := ck_of hf
            refine va_sld hx hb hX hbl hbA hS (inb_in hi40) dL_law_244 ?_
            refine lv_aload_n hx hb dL_law_245 rfl (lv_at hl 0 rfl) ?_
            refine lv_iload_n hx hb dL_law_246 rfl (lv_at hl 3 rfl) ?_
            refine lv_iconst (v := 2) hx hb dL_law_247 (by decide) ?_
            refine lv_iadd hx hb dL_law_248 ?_
            obtain ⟨hi41, hf⟩ := ck_of hf
            refine va_sld hx hb hX hbl hbA hS (inb_in hi41) dL_law_249 ?_
            obtain ⟨x45, S42, hc43, hf⟩ := cl_of hf
            refine cl_RL_30 (As := [.int (xs (x15 + (1 : Int32)).toNatClampNeg), .int (xs (x15 + (2 : Int32)).toNatClampNeg)]) (rest := [.int x39]) hC hR hS (c_X11_stake l G n q7 (xs (x15 + (1 : Int32)).toNatClampNeg) (xs (x15 + (2 : Int32)).toNatClampNeg) S36 x45 S42 hc43 ok_q7) ok_q7 rfl ⟨Nat.le_of_ble_eq_true rfl, Nat.le_of_ble_eq_true rfl⟩ hl.1 rfl (Nat.le_of_ble_eq_true rfl) dL_law_250 (by first | exact Nat.le_trans (Nat.le_add_right _ 6) hcb.1 | exact hcb.1) (by first | exact Nat.le_trans (Nat.le_add_right _ 390) hcb.2.1 | exact hcb.2.1) (fun H locs hR hS hE44 => ?_)
            have ok_q1 := hE44 _ _ ok_q1
            have ok_q7 := hE44 _ _ ok_q7
            have hE := hE.tr hE44
            refine lv_icmp_eq (tgt := 1161) hx hb dL_law_253 (by decide) (fun hc => ?_) (fun hc => ?_)
            · replace hf := if_t hf hc
              refine W.widen (k := (97 + 6 * (j + 1))) (n := (9627 + 390 * (j + 1))) (by first | exact Nat.le_trans (Nat.le_add_right _ 6) (show 97 + 6 * j + 6 ≤ 97 + 6 * (j + 1) by omega) | exact (show 97 + 6 * j + 6 ≤ 97 + 6 * (j + 1) by omega)) (by first | exact Nat.le_trans (Nat.le_add_right _ 390) (show 9627 + 390 * j + 390 ≤ 9627 + 390 * (j + 1) by omega) | exact (show 9627 + 390 * j + 390 ≤ 9627 + 390 * (j + 1) by omega)) ?_
              exact hj1161_19 S42 _ _ _ hf hR hS hE ok_q1 ok_q7 (lv_sub hl [0, 1, 2, 3] rfl)
            · replace hf := if_f hf hc
              refine lv_iconst (v := 0) hx hb dL_law_256 (by decide) ?_
              exact absurd hf no_zero
          · replace hf := if_f hf hc1
            by_cases hc2 : x18 = (2 : Int32)
            · replace hf := if_t hf hc2
              rw [hc2]
              refine lv_tableIn (tgt := 258) hx hb dL_law_53 (by decide) (by decide) rfl (by decide) ?_
              refine lv_aload_n hx hb dL_law_258 rfl (lv_at hl 1 rfl) ?_
              refine lv_aload_n hx hb dL_law_259 rfl (lv_at hl 0 rfl) ?_
              refine lv_iload_n hx hb dL_law_260 rfl (lv_at hl 3 rfl) ?_
              refine lv_iconst (v := 1) hx hb dL_law_261 (by decide) ?_
              refine lv_iadd hx hb dL_law_262 ?_
              obtain ⟨hi46, hf⟩ := ck_of hf
              refine va_sld hx hb hX hbl hbA hS (inb_in hi46) dL_law_263 ?_
              refine lv_aload_n hx hb dL_law_264 rfl (lv_at hl 0 rfl) ?_
              refine lv_iload_n hx hb dL_law_265 rfl (lv_at hl 3 rfl) ?_
              refine lv_iconst (v := 2) hx hb dL_law_266 (by decide) ?_
              refine lv_iadd hx hb dL_law_267 ?_
              obtain ⟨hi47, hf⟩ := ck_of hf
              refine va_sld hx hb hX hbl hbA hS (inb_in hi47) dL_law_268 ?_
              obtain ⟨j277_49, ej277_49, hf⟩ := jn_of4 hf
              have hj277_48 : ∀ (q50 : Nat) (x51 : Int32) (x52 : Int32) (S53 : MS) (H : Heap) (locs : List Loc) (ls : Array Slot), j277_49 q50 x51 x52 S53 = some ((1 : Int32), So) → Rp G S53 H → va_S (gA G) s.heap H locs → Ex S S53 → Ok S53 q1 10 → Ok S53 q7 11 → Ok S53 q50 10 → lv_has ls 4 [(0, .ref b), (1, .ref q1), (2, .ref q7), (3, .int x15)] → W p l e room_1 s m #[Value.ref b] below meth c H locs (97 + 6 * j) (9627 + 390 * j) (lw_Z below #[Value.ref b] s) (F0 m 277 ls [.int x52, .int x51, .ref q50]) := by
                intro q50 x51 x52 S53 H locs ls hf hR hS hE ok_q1 ok_q7 ok_q50 hl
                rw [ej277_49] at hf
                obtain ⟨x57, S54, hc55, hf⟩ := cl_of hf
                refine cl_RL_31 (As := [.int x51, .int x52]) (rest := []) hC hR hS (c_X10_well l G n q50 x51 x52 S53 x57 S54 hc55 ok_q50) ok_q50 rfl ⟨Nat.le_of_ble_eq_true rfl, Nat.le_of_ble_eq_true rfl⟩ hl.1 rfl (Nat.le_of_ble_eq_true rfl) dL_law_277 (by first | exact Nat.le_trans (Nat.le_add_right _ 6) hcb.1 | exact hcb.1) (by first | exact Nat.le_trans (Nat.le_add_right _ 390) hcb.2.1 | exact hcb.2.1) (fun H locs hR hS hE56 => ?_)
                have ok_q1 := hE56 _ _ ok_q1
                have ok_q7 := hE56 _ _ ok_q7
                have ok_q50 := hE56 _ _ ok_q50
                have hE := hE.tr hE56
                refine lv_aload_n hx hb dL_law_280 rfl (lv_at hl 2 rfl) ?_
                refine lv_aload_n hx hb dL_law_281 rfl (lv_at hl 0 rfl) ?_
                refine lv_iload_n hx hb dL_law_282 rfl (lv_at hl 3 rfl) ?_
                refine lv_iconst (v := 1) hx hb dL_law_283 (by decide) ?_
                refine lv_iadd hx hb dL_law_284 ?_
                obtain ⟨hi58, hf⟩ := ck_of hf
                refine va_sld hx hb hX hbl hbA hS (inb_in hi58) dL_law_285 ?_
                refine lv_aload_n hx hb dL_law_286 rfl (lv_at hl 0 rfl) ?_
                refine lv_iload_n hx hb dL_law_287 rfl (lv_at hl 3 rfl) ?_
                refine lv_iconst (v := 2) hx hb dL_law_288 (by decide) ?_
                refine lv_iadd hx hb dL_law_289 ?_
                obtain ⟨hi59, hf⟩ := ck_of hf
                refine va_sld hx hb hX hbl hbA hS (inb_in hi59) dL_law_290 ?_
                obtain ⟨j299_61, ej299_61, hf⟩ := jn_of5 hf
                have hj299_60 : ∀ (x62 : Int32) (q63 : Nat) (x64 : Int32) (x65 : Int32) (S66 : MS) (H : Heap) (locs : List Loc) (ls : Array Slot), j299_61 x62 q63 x64 x65 S66 = some ((1 : Int32), So) → Rp G S66 H → va_S (gA G) s.heap H locs → Ex S S66 → Ok S66 q1 10 → Ok S66 q7 11 → Ok S66 q63 11 → lv_has ls 4 [(0, .ref b), (1, .ref q1), (2, .ref q7), (3, .int x15)] → W p l e room_1 s m #[Value.ref b] below meth c H locs (97 + 6 * j) (9627 + 390 * j) (lw_Z below #[Value.ref b] s) (F0 m 299 ls [.int x65, .int x64, .ref q63, .int x62]) := by
                  intro x62 q63 x64 x65 S66 H locs ls hf hR hS hE ok_q1 ok_q7 ok_q63 hl
                  rw [ej299_61] at hf
                  obtain ⟨x70, S67, hc68, hf⟩ := cl_of hf
                  refine cl_RL_35 (As := [.int x64, .int x65]) (rest := [.int x62]) hC hR hS (c_X11_well l G n q63 x64 x65 S66 x70 S67 hc68 ok_q63) ok_q63 rfl ⟨Nat.le_of_ble_eq_true rfl, Nat.le_of_ble_eq_true rfl⟩ hl.1 rfl (Nat.le_of_ble_eq_true rfl) dL_law_299 (by first | exact Nat.le_trans (Nat.le_add_right _ 6) hcb.1 | exact hcb.1) (by first | exact Nat.le_trans (Nat.le_add_right _ 390) hcb.2.1 | exact hcb.2.1) (fun H locs hR hS hE69 => ?_)
                  have ok_q1 := hE69 _ _ ok_q1
                  have ok_q7 := hE69 _ _ ok_q7
                  have ok_q63 := hE69 _ _ ok_q63
                  have hE := hE.tr hE69
                  refine lv_icmp_eq (tgt := 1161) hx hb dL_law_302 (by decide) (fun hc => ?_) (fun hc => ?_)
                  · replace hf := if_t hf hc
                    refine W.widen (k := (97 + 6 * (j + 1))) (n := (9627 + 390 * (j + 1))) (by first | exact Nat.le_trans (Nat.le_add_right _ 6) (show 97 + 6 * j + 6 ≤ 97 + 6 * (j + 1) by omega) | exact (show 97 + 6 * j + 6 ≤ 97 + 6 * (j + 1) by omega)) (by first | exact Nat.le_trans (Nat.le_add_right _ 390) (show 9627 + 390 * j + 390 ≤ 9627 + 390 * (j + 1) by omega) | exact (show 9627 + 390 * j + 390 ≤ 9627 + 390 * (j + 1) by omega)) ?_
                    exact hj1161_19 S67 _ _ _ hf hR hS hE ok_q1 ok_q7 (lv_sub hl [0, 1, 2, 3] rfl)
                  · replace hf := if_f hf hc
                    refine lv_iconst (v := 0) hx hb dL_law_305 (by decide) ?_
                    exact absurd hf no_zero
                refine lv_if_eq (tgt := 298) hx hb dL_law_291 (by decide) (fun hc => ?_) (fun hc => ?_)
                · replace hf := if_t hf hc
                  refine lv_iconst (v := 0) hx hb dL_law_298 (by decide) ?_
                  exact hj299_60 x57 q7 (xs (x15 + (1 : Int32)).toNatClampNeg) (0 : Int32) S54 _ _ _ hf hR hS hE ok_q1 ok_q7 ok_q7 (lv_sub hl [0, 1, 2, 3] rfl)
                · replace hf := if_f hf hc
                  refine lv_iconst (v := 1) hx hb dL_law_294 (by decide) ?_
                  refine lv_goto (tgt := 299) hx hb dL_law_295 (by decide) ?_
                  exact hj299_60 x57 q7 (xs (x15 + (1 : Int32)).toNatClampNeg) (1 : Int32) S54 _ _ _ hf hR hS hE ok_q1 ok_q7 ok_q7 (lv_sub hl [0, 1, 2, 3] rfl)
              refine lv_if_eq (tgt := 276) hx hb dL_law_269 (by decide) (fun hc => ?_) (fun hc => ?_)
              · replace hf := if_t hf hc
                refine lv_iconst (v := 0) hx hb dL_law_276 (by decide) ?_
                exact hj277_48 q1 (xs (x15 + (1 : Int32)).toNatClampNeg) (0 : Int32) S16 _ _ _ hf hR hS hE ok_q1 ok_q7 ok_q1 (lv_sub hl [0, 1, 2, 3] rfl)
              · replace hf := if_f hf hc
                refine lv_iconst (v := 1) hx hb dL_law_272 (by decide) ?_
                refine lv_goto (tgt := 277) hx hb dL_law_273 (by decide) ?_
                exact hj277_48 q1 (xs (x15 + (1 : Int32)).toNatClampNeg) (1 : Int32) S16 _ _ _ hf hR hS hE ok_q1 ok_q7 ok_q1 (lv_sub hl [0, 1, 2, 3] rfl)
            · replace hf := if_f hf hc2
              by_cases hc3 : x18 = (3 : Int32)
              · replace hf := if_t hf hc3
                rw [hc3]
                refine lv_tableIn (tgt := 307) hx hb dL_law_53 (by decide) (by decide) rfl (by decide) ?_
                refine lv_aload_n hx hb dL_law_307 rfl (lv_at hl 1 rfl) ?_
                refine lv_aload_n hx hb dL_law_308 rfl (lv_at hl 0 rfl) ?_
                refine lv_iload_n hx hb dL_law_309 rfl (lv_at hl 3 rfl) ?_
                refine lv_iconst (v := 1) hx hb dL_law_310 (by decide) ?_
                refine lv_iadd hx hb dL_law_311 ?_
                obtain ⟨hi80, hf⟩ := ck_of hf
                refine va_sld hx hb hX hbl hbA hS (inb_in hi80) dL_law_312 ?_
                refine lv_aload_n hx hb dL_law_313 rfl (lv_at hl 0 rfl) ?_
                refine lv_iload_n hx hb dL_law_314 rfl (lv_at hl 3 rfl) ?_
                refine lv_iconst (v := 2) hx hb dL_law_315 (by decide) ?_
                refine lv_iadd hx hb dL_law_316 ?_
                obtain ⟨hi81, hf⟩ := ck_of hf
                refine va_sld hx hb hX hbl hbA hS (inb_in hi81) dL_law_317 ?_
                refine lv_aload_n hx hb dL_law_318 rfl (lv_at hl 0 rfl) ?_
                refine lv_iload_n hx hb dL_law_319 rfl (lv_at hl 3 rfl) ?_
                refine lv_iconst (v := 3) hx hb dL_law_320 (by decide) ?_
                refine lv_iadd hx hb dL_law_321 ?_
                obtain ⟨hi82, hf⟩ := ck_of hf
                refine va_sld hx hb hX hbl hbA hS (inb_in hi82) dL_law_322 ?_
                refine lv_aload_n hx hb dL_law_323 rfl (lv_at hl 0 rfl) ?_
                refine lv_iload_n hx hb dL_law_324 rfl (lv_at hl 3 rfl) ?_
                refine lv_iconst (v := 4) hx hb dL_law_325 (by decide) ?_
                refine lv_iadd hx hb dL_law_326 ?_
                obtain ⟨hi83, hf⟩ := ck_of hf
                refine va_sld hx hb hX hbl hbA hS (inb_in hi83) dL_law_327 ?_
                obtain ⟨x87, S84, hc85, hf⟩ := cl_of hf
                refine cl_RL_36 (As := [.int (xs (x15 + (1 : Int32)).toNatClampNeg), .int (xs (x15 + (2 : Int32)).toNatClampNeg), .int (xs (x15 + (3 : Int32)).toNatClampNeg), .int (xs (x15 + (4 : Int32)).toNatClampNeg)]) (rest := []) hC hR hS (c_X10_wind l G n q1 (xs (x15 + (1 : Int32)).toNatClampNeg) (xs (x15 + (2 : Int32)).toNatClampNeg) (xs (x15 + (3 : Int32)).toNatClampNeg) (xs (x15 + (4 : Int32)).toNatClampNeg) S16 x87 S84 hc85 ok_q1) ok_q1 rfl ⟨Nat.le_of_ble_eq_true rfl, Nat.le_of_ble_eq_true rfl⟩ hl.1 rfl (Nat.le_of_ble_eq_true rfl) dL_law_328 (by first | exact Nat.le_trans (Nat.le_add_right _ 6) hcb.1 | exact hcb.1) (by first | exact Nat.le_trans (Nat.le_add_right _ 390) hcb.2.1 | exact hcb.2.1) (fun H locs hR hS hE86 => ?_)
                have ok_q1 := hE86 _ _ ok_q1
                have ok_q7 := hE86 _ _ ok_q7
                have hE := hE.tr hE86
                refine lv_aload_n hx hb dL_law_331 rfl (lv_at hl 2 rfl) ?_
                refine lv_aload_n hx hb dL_law_332 rfl (lv_at hl 0 rfl) ?_
                refine lv_iload_n hx hb dL_law_333 rfl (lv_at hl 3 rfl) ?_
                refine lv_iconst (v := 1) hx hb dL_law_334 (by decide) ?_
                refine lv_iadd hx hb dL_law_335 ?_
                obtain ⟨hi88, hf⟩ := ck_of hf
                refine va_sld hx hb hX hbl hbA hS (inb_in hi88) dL_law_336 ?_
                refine lv_aload_n hx hb dL_law_337 rfl (lv_at hl 0 rfl) ?_
                refine lv_iload_n hx hb dL_law_338 rfl (lv_at hl 3 rfl) ?_
                refine lv_iconst (v := 2) hx hb dL_law_339 (by decide) ?_
                refine lv_iadd hx hb dL_law_340 ?_
                obtain ⟨hi89, hf⟩ := ck_of hf
                refine va_sld hx hb hX hbl hbA hS (inb_in hi89) dL_law_341 ?_
                refine lv_aload_n hx hb dL_law_342 rfl (lv_at hl 0 rfl) ?_
                refine lv_iload_n hx hb dL_law_343 rfl (lv_at hl 3 rfl) ?_
                refine lv_iconst (v := 3) hx hb dL_law_344 (by decide) ?_
                refine lv_iadd hx hb dL_law_345 ?_
                obtain ⟨hi90, hf⟩ := ck_of hf
                refine va_sld hx hb hX hbl hbA hS (inb_in hi90) dL_law_346 ?_
                refine lv_aload_n hx hb dL_law_347 rfl (lv_at hl 0 rfl) ?_
                refine lv_iload_n hx hb dL_law_348 rfl (lv_at hl 3 rfl) ?_
                refine lv_iconst (v := 4) hx hb dL_law_349 (by decide) ?_
                refine lv_iadd hx hb dL_law_350 ?_
                obtain ⟨hi91, hf⟩ := ck_of hf
                refine va_sld hx hb hX hbl hbA hS (inb_in hi91) dL_law_351 ?_
                obtain ⟨x95, S92, hc93, hf⟩ := cl_of hf
                refine cl_RL_40 (As := [.int (xs (x15 + (1 : Int32)).toNatClampNeg), .int (xs (x15 + (2 : Int32)).toNatClampNeg), .int (xs (x15 + (3 : Int32)).toNatClampNeg), .int (xs (x15 + (4 : Int32)).toNatClampNeg)]) (rest := [.int x87]) hC hR hS (c_X11_wind l G n q7 (xs (x15 + (1 : Int32)).toNatClampNeg) (xs (x15 + (2 : Int32)).toNatClampNeg) (xs (x15 + (3 : Int32)).toNatClampNeg) (xs (x15 + (4 : Int32)).toNatClampNeg) S84 x95 S92 hc93 ok_q7) ok_q7 rfl ⟨Nat.le_of_ble_eq_true rfl, Nat.le_of_ble_eq_true rfl⟩ hl.1 rfl (Nat.le_of_ble_eq_true rfl) dL_law_352 (by first | exact Nat.le_trans (Nat.le_add_right _ 6) hcb.1 | exact hcb.1) (by first | exact Nat.le_trans (Nat.le_add_right _ 390) hcb.2.1 | exact hcb.2.1) (fun H locs hR hS hE94 => ?_)
                have ok_q1 := hE94 _ _ ok_q1
                have ok_q7 := hE94 _ _ ok_q7
                have hE := hE.tr hE94
                refine lv_icmp_eq (tgt := 1161) hx hb dL_law_355 (by decide) (fun hc => ?_) (fun hc => ?_)
                · replace hf := if_t hf hc
                  refine W.widen (k := (97 + 6 * (j + 1))) (n := (9627 + 390 * (j + 1))) (by first | exact Nat.le_trans (Nat.le_add_right _ 6) (show 97 + 6 * j + 6 ≤ 97 + 6 * (j + 1) by omega) | exact (show 97 + 6 * j + 6 ≤ 97 + 6 * (j + 1) by omega)) (by first | exact Nat.le_trans (Nat.le_add_right _ 390) (show 9627 + 390 * j + 390 ≤ 9627 + 390 * (j + 1) by omega) | exact (show 9627 + 390 * j + 390 ≤ 9627 + 390 * (j + 1) by omega)) ?_
                  exact hj1161_19 S92 _ _ _ hf hR hS hE ok_q1 ok_q7 (lv_sub hl [0, 1, 2, 3] rfl)
                · replace hf := if_f hf hc
                  refine lv_iconst (v := 0) hx hb dL_law_358 (by decide) ?_
                  exact absurd hf no_zero
              · replace hf := if_f hf hc3
                by_cases hc4 : x18 = (4 : Int32)
                · replace hf := if_t hf hc4
                  rw [hc4]
                  refine lv_tableIn (tgt := 360) hx hb dL_law_53 (by decide) (by decide) rfl (by decide) ?_
                  refine lv_aload_n hx hb dL_law_360 rfl (lv_at hl 1 rfl) ?_
                  refine lv_aload_n hx hb dL_law_361 rfl (lv_at hl 0 rfl) ?_
                  refine lv_iload_n hx hb dL_law_362 rfl (lv_at hl 3 rfl) ?_
                  refine lv_iconst (v := 1) hx hb dL_law_363 (by decide) ?_
                  refine lv_iadd hx hb dL_law_364 ?_
                  obtain ⟨hi96, hf⟩ := ck_of hf
                  refine va_sld hx hb hX hbl hbA hS (inb_in hi96) dL_law_365 ?_
                  refine lv_aload_n hx hb dL_law_366 rfl (lv_at hl 0 rfl) ?_
                  refine lv_iload_n hx hb dL_law_367 rfl (lv_at hl 3 rfl) ?_
                  refine lv_iconst (v := 2) hx hb dL_law_368 (by decide) ?_
                  refine lv_iadd hx hb dL_law_369 ?_
                  obtain ⟨hi97, hf⟩ := ck_of hf
                  refine va_sld hx hb hX hbl hbA hS (inb_in hi97) dL_law_370 ?_
                  obtain ⟨x101, S98, hc99, hf⟩ := cl_of hf
                  refine cl_RL_41 (As := [.int (xs (x15 + (1 : Int32)).toNatClampNeg), .int (xs (x15 + (2 : Int32)).toNatClampNeg)]) (rest := []) hC hR hS (c_X10_plan l G n q1 (xs (x15 + (1 : Int32)).toNatClampNeg) (xs (x15 + (2 : Int32)).toNatClampNeg) S16 x101 S98 hc99 ok_q1) ok_q1 rfl ⟨Nat.le_of_ble_eq_true rfl, Nat.le_of_ble_eq_true rfl⟩ hl.1 rfl (Nat.le_of_ble_eq_true rfl) dL_law_371 (by first | exact Nat.le_trans (Nat.le_add_right _ 6) hcb.1 | exact hcb.1) (by first | exact Nat.le_trans (Nat.le_add_right _ 390) hcb.2.1 | exact hcb.2.1) (fun H locs hR hS hE100 => ?_)
                  have ok_q1 := hE100 _ _ ok_q1
                  have ok_q7 := hE100 _ _ ok_q7
                  have hE := hE.tr hE100
                  refine lv_aload_n hx hb dL_law_374 rfl (lv_at hl 2 rfl) ?_
                  refine lv_aload_n hx hb dL_law_375 rfl (lv_at hl 0 rfl) ?_
                  refine lv_iload_n hx hb dL_law_376 rfl (lv_at hl 3 rfl) ?_
                  refine lv_iconst (v := 1) hx hb dL_law_377 (by decide) ?_
                  refine lv_iadd hx hb dL_law_378 ?_
                  obtain ⟨hi102, hf⟩ := ck_of hf
                  refine va_sld hx hb hX hbl hbA hS (inb_in hi102) dL_law_379 ?_
                  refine lv_aload_n hx hb dL_law_380 rfl (lv_at hl 0 rfl) ?_
                  refine lv_iload_n hx hb dL_law_381 rfl (lv_at hl 3 rfl) ?_
                  refine lv_iconst (v := 2) hx hb dL_law_382 (by decide) ?_
                  refine lv_iadd hx hb dL_law_383 ?_
                  obtain ⟨hi103, hf⟩ := ck_of hf
                  refine va_sld hx hb hX hbl hbA hS (inb_in hi103) dL_law_384 ?_
                  obtain ⟨x107, S104, hc105, hf⟩ := cl_of hf
                  refine cl_RL_44 (As := [.int (xs (x15 + (1 : Int32)).toNatClampNeg), .int (xs (x15 + (2 : Int32)).toNatClampNeg)]) (rest := [.int x101]) hC hR hS (c_X11_plan l G n q7 (xs (x15 + (1 : Int32)).toNatClampNeg) (xs (x15 + (2 : Int32)).toNatClampNeg) S98 x107 S104 hc105 ok_q7) ok_q7 rfl ⟨Nat.le_of_ble_eq_true rfl, Nat.le_of_ble_eq_true rfl⟩ hl.1 rfl (Nat.le_of_ble_eq_true rfl) dL_law_385 (by first | exact Nat.le_trans (Nat.le_add_right _ 6) hcb.1 | exact hcb.1) (by first | exact Nat.le_trans (Nat.le_add_right _ 390) hcb.2.1 | exact hcb.2.1) (fun H locs hR hS hE106 => ?_)
                  have ok_q1 := hE106 _ _ ok_q1
                  have ok_q7 := hE106 _ _ ok_q7
                  have hE := hE.tr hE106
                  refine lv_icmp_eq (tgt := 1161) hx hb dL_law_388 (by decide) (fun hc => ?_) (fun hc => ?_)
                  · replace hf := if_t hf hc
                    refine W.widen (k := (97 + 6 * (j + 1))) (n := (9627 + 390 * (j + 1))) (by first | exact Nat.le_trans (Nat.le_add_right _ 6) (show 97 + 6 * j + 6 ≤ 97 + 6 * (j + 1) by omega) | exact (show 97 + 6 * j + 6 ≤ 97 + 6 * (j + 1) by omega)) (by first | exact Nat.le_trans (Nat.le_add_right _ 390) (show 9627 + 390 * j + 390 ≤ 9627 + 390 * (j + 1) by omega) | exact (show 9627 + 390 * j + 390 ≤ 9627 + 390 * (j + 1) by omega)) ?_
                    exact hj1161_19 S104 _ _ _ hf hR hS hE ok_q1 ok_q7 (lv_sub hl [0, 1, 2, 3] rfl)
                  · replace hf := if_f hf hc
                    refine lv_iconst (v := 0) hx hb dL_law_391 (by decide) ?_
                    exact absurd hf no_zero
                · replace hf := if_f hf hc4
                  by_cases hc5 : x18 = (5 : Int32)
                  · replace hf := if_t hf hc5
                    rw [hc5]
                    refine lv_tableIn (tgt := 393) hx hb dL_law_53 (by decide) (by decide) rfl (by decide) ?_
                    refine lv_aload_n hx hb dL_law_393 rfl (lv_at hl 1 rfl) ?_
                    refine lv_aload_n hx hb dL_law_394 rfl (lv_at hl 0 rfl) ?_
                    refine lv_iload_n hx hb dL_law_395 rfl (lv_at hl 3 rfl) ?_
                    refine lv_iconst (v := 1) hx hb dL_law_396 (by decide) ?_
                    refine lv_iadd hx hb dL_law_397 ?_
                    obtain ⟨hi108, hf⟩ := ck_of hf
                    refine va_sld hx hb hX hbl hbA hS (inb_in hi108) dL_law_398 ?_
                    refine lv_aload_n hx hb dL_law_399 rfl (lv_at hl 0 rfl) ?_
                    refine lv_iload_n hx hb dL_law_400 rfl (lv_at hl 3 rfl) ?_
                    refine lv_iconst (v := 2) hx hb dL_law_401 (by decide) ?_
                    refine lv_iadd hx hb dL_law_402 ?_
                    obtain ⟨hi109, hf⟩ := ck_of hf
                    refine va_sld hx hb hX hbl hbA hS (inb_in hi109) dL_law_403 ?_
                    refine lv_aload_n hx hb dL_law_404 rfl (lv_at hl 0 rfl) ?_
                    refine lv_iload_n hx hb dL_law_405 rfl (lv_at hl 3 rfl) ?_
                    refine lv_iconst (v := 3) hx hb dL_law_406 (by decide) ?_
                    refine lv_iadd hx hb dL_law_407 ?_
                    obtain ⟨hi110, hf⟩ := ck_of hf
                    refine va_sld hx hb hX hbl hbA hS (inb_in hi110) dL_law_408 ?_
                    refine lv_aload_n hx hb dL_law_409 rfl (lv_at hl 0 rfl) ?_
                    refine lv_iload_n hx hb dL_law_410 rfl (lv_at hl 3 rfl) ?_
                    refine lv_iconst (v := 4) hx hb dL_law_411 (by decide) ?_
                    refine lv_iadd hx hb dL_law_412 ?_
                    obtain ⟨hi111, hf⟩ := ck_of hf
                    refine va_sld hx hb hX hbl hbA hS (inb_in hi111) dL_law_413 ?_
                    refine lv_aload_n hx hb dL_law_414 rfl (lv_at hl 0 rfl) ?_
                    refine lv_iload_n hx hb dL_law_415 rfl (lv_at hl 3 rfl) ?_
                    refine lv_iconst (v := 5) hx hb dL_law_416 (by decide) ?_
                    refine lv_iadd hx hb dL_law_417 ?_
                    obtain ⟨hi112, hf⟩ := ck_of hf
                    refine va_sld hx hb hX hbl hbA hS (inb_in hi112) dL_law_418 ?_
                    obtain ⟨x116, S113, hc114, hf⟩ := cl_of hf
                    refine cl_RL_45 (As := [.int (xs (x15 + (1 : Int32)).toNatClampNeg), .int (xs (x15 + (2 : Int32)).toNatClampNeg), .int (xs (x15 + (3 : Int32)).toNatClampNeg), .int (xs (x15 + (4 : Int32)).toNatClampNeg), .int (xs (x15 + (5 : Int32)).toNatClampNeg)]) (rest := []) hC hR hS (c_X10_feed l G n q1 (xs (x15 + (1 : Int32)).toNatClampNeg) (xs (x15 + (2 : Int32)).toNatClampNeg) (xs (x15 + (3 : Int32)).toNatClampNeg) (xs (x15 + (4 : Int32)).toNatClampNeg) (xs (x15 + (5 : Int32)).toNatClampNeg) S16 x116 S113 hc114 ok_q1) ok_q1 rfl ⟨Nat.le_of_ble_eq_true rfl, Nat.le_of_ble_eq_true rfl⟩ hl.1 rfl (Nat.le_of_ble_eq_true rfl) dL_law_419 (by first | exact Nat.le_trans (Nat.le_add_right _ 6) hcb.1 | exact hcb.1) (by first | exact Nat.le_trans (Nat.le_add_right _ 390) hcb.2.1 | exact hcb.2.1) (fun H locs hR hS hE115 => ?_)
                    have ok_q1 := hE115 _ _ ok_q1
                    have ok_q7 := hE115 _ _ ok_q7
                    have hE := hE.tr hE115
                    refine lv_aload_n hx hb dL_law_422 rfl (lv_at hl 2 rfl) ?_
                    refine lv_aload_n hx hb dL_law_423 rfl (lv_at hl 0 rfl) ?_
                    refine lv_iload_n hx hb dL_law_424 rfl (lv_at hl 3 rfl) ?_
                    refine lv_iconst (v := 1) hx hb dL_law_425 (by decide) ?_
                    refine lv_iadd hx hb dL_law_426 ?_
                    obtain ⟨hi117, hf⟩ := ck_of hf
                    refine va_sld hx hb hX hbl hbA hS (inb_in hi117) dL_law_427 ?_
                    refine lv_aload_n hx hb dL_law_428 rfl (lv_at hl 0 rfl) ?_
                    refine lv_iload_n hx hb dL_law_429 rfl (lv_at hl 3 rfl) ?_
                    refine lv_iconst (v := 2) hx hb dL_law_430 (by decide) ?_
                    refine lv_iadd hx hb dL_law_431 ?_
                    obtain ⟨hi118, hf⟩ := ck_of hf
                    refine va_sld hx hb hX hbl hbA hS (inb_in hi118) dL_law_432 ?_
                    refine lv_aload_n hx hb dL_law_433 rfl (lv_at hl 0 rfl) ?_
                    refine lv_iload_n hx hb dL_law_434 rfl (lv_at hl 3 rfl) ?_
                    refine lv_iconst (v := 3) hx hb dL_law_435 (by decide) ?_
                    refine lv_iadd hx hb dL_law_436 ?_
                    obtain ⟨hi119, hf⟩ := ck_of hf
                    refine va_sld hx hb hX hbl hbA hS (inb_in hi119) dL_law_437 ?_
                    refine lv_aload_n hx hb dL_law_438 rfl (lv_at hl 0 rfl) ?_
                    refine lv_iload_n hx hb dL_law_439 rfl (lv_at hl 3 rfl) ?_
                    refine lv_iconst (v := 4) hx hb dL_law_440 (by decide) ?_
                    refine lv_iadd hx hb dL_law_441 ?_
                    obtain ⟨hi120, hf⟩ := ck_of hf
                    refine va_sld hx hb hX hbl hbA hS (inb_in hi120) dL_law_442 ?_
                    refine lv_aload_n hx hb dL_law_443 rfl (lv_at hl 0 rfl) ?_
                    refine lv_iload_n hx hb dL_law_444 rfl (lv_at hl 3 rfl) ?_
                    refine lv_iconst (v := 5) hx hb dL_law_445 (by decide) ?_
                    refine lv_iadd hx hb dL_law_446 ?_
                    obtain ⟨hi121, hf⟩ := ck_of hf
                    refine va_sld hx hb hX hbl hbA hS (inb_in hi121) dL_law_447 ?_
                    obtain ⟨x125, S122, hc123, hf⟩ := cl_of hf
                    refine cl_RL_49 (As := [.int (xs (x15 + (1 : Int32)).toNatClampNeg), .int (xs (x15 + (2 : Int32)).toNatClampNeg), .int (xs (x15 + (3 : Int32)).toNatClampNeg), .int (xs (x15 + (4 : Int32)).toNatClampNeg), .int (xs (x15 + (5 : Int32)).toNatClampNeg)]) (rest := [.int x116]) hC hR hS (c_X11_feed l G n q7 (xs (x15 + (1 : Int32)).toNatClampNeg) (xs (x15 + (2 : Int32)).toNatClampNeg) (xs (x15 + (3 : Int32)).toNatClampNeg) (xs (x15 + (4 : Int32)).toNatClampNeg) (xs (x15 + (5 : Int32)).toNatClampNeg) S113 x125 S122 hc123 ok_q7) ok_q7 rfl ⟨Nat.le_of_ble_eq_true rfl, Nat.le_of_ble_eq_true rfl⟩ hl.1 rfl (Nat.le_of_ble_eq_true rfl) dL_law_448 (by first | exact Nat.le_trans (Nat.le_add_right _ 6) hcb.1 | exact hcb.1) (by first | exact Nat.le_trans (Nat.le_add_right _ 390) hcb.2.1 | exact hcb.2.1) (fun H locs hR hS hE124 => ?_)
                    have ok_q1 := hE124 _ _ ok_q1
                    have ok_q7 := hE124 _ _ ok_q7
                    have hE := hE.tr hE124
                    refine lv_icmp_eq (tgt := 1161) hx hb dL_law_451 (by decide) (fun hc => ?_) (fun hc => ?_)
                    · replace hf := if_t hf hc
                      refine W.widen (k := (97 + 6 * (j + 1))) (n := (9627 + 390 * (j + 1))) (by first | exact Nat.le_trans (Nat.le_add_right _ 6) (show 97 + 6 * j + 6 ≤ 97 + 6 * (j + 1) by omega) | exact (show 97 + 6 * j + 6 ≤ 97 + 6 * (j + 1) by omega)) (by first | exact Nat.le_trans (Nat.le_add_right _ 390) (show 9627 + 390 * j + 390 ≤ 9627 + 390 * (j + 1) by omega) | exact (show 9627 + 390 * j + 390 ≤ 9627 + 390 * (j + 1) by omega)) ?_
                      exact hj1161_19 S122 _ _ _ hf hR hS hE ok_q1 ok_q7 (lv_sub hl [0, 1, 2, 3] rfl)
                    · replace hf := if_f hf hc
                      refine lv_iconst (v := 0) hx hb dL_law_454 (by decide) ?_
                      exact absurd hf no_zero
                  · replace hf := if_f hf hc5
                    by_cases hc6 : x18 = (6 : Int32)
                    · replace hf := if_t hf hc6
                      rw [hc6]
                      refine lv_tableIn (tgt := 456) hx hb dL_law_53 (by decide) (by decide) rfl (by decide) ?_
                      refine lv_aload_n hx hb dL_law_456 rfl (lv_at hl 1 rfl) ?_
                      refine lv_aload_n hx hb dL_law_457 rfl (lv_at hl 0 rfl) ?_
                      refine lv_iload_n hx hb dL_law_458 rfl (lv_at hl 3 rfl) ?_
                      refine lv_iconst (v := 1) hx hb dL_law_459 (by decide) ?_
                      refine lv_iadd hx hb dL_law_460 ?_
                      obtain ⟨hi126, hf⟩ := ck_of hf
                      refine va_sld hx hb hX hbl hbA hS (inb_in hi126) dL_law_461 ?_
                      obtain ⟨x130, S127, hc128, hf⟩ := cl_of hf
                      refine cl_RL_50 (As := [.int (xs (x15 + (1 : Int32)).toNatClampNeg)]) (rest := []) hC hR hS (c_X10_end l G n q1 (xs (x15 + (1 : Int32)).toNatClampNeg) S16 x130 S127 hc128 ok_q1) ok_q1 rfl ⟨Nat.le_of_ble_eq_true rfl, Nat.le_of_ble_eq_true rfl⟩ hl.1 rfl (Nat.le_of_ble_eq_true rfl) dL_law_462 (by first | exact Nat.le_trans (Nat.le_add_right _ 6) hcb.1 | exact hcb.1) (by first | exact Nat.le_trans (Nat.le_add_right _ 390) hcb.2.1 | exact hcb.2.1) (fun H locs hR hS hE129 => ?_)
                      have ok_q1 := hE129 _ _ ok_q1
                      have ok_q7 := hE129 _ _ ok_q7
                      have hE := hE.tr hE129
                      refine lv_aload_n hx hb dL_law_465 rfl (lv_at hl 2 rfl) ?_
                      refine lv_aload_n hx hb dL_law_466 rfl (lv_at hl 0 rfl) ?_
                      refine lv_iload_n hx hb dL_law_467 rfl (lv_at hl 3 rfl) ?_
                      refine lv_iconst (v := 1) hx hb dL_law_468 (by decide) ?_
                      refine lv_iadd hx hb dL_law_469 ?_
                      obtain ⟨hi131, hf⟩ := ck_of hf
                      refine va_sld hx hb hX hbl hbA hS (inb_in hi131) dL_law_470 ?_
                      obtain ⟨x135, S132, hc133, hf⟩ := cl_of hf
                      refine cl_RL_54 (As := [.int (xs (x15 + (1 : Int32)).toNatClampNeg)]) (rest := [.int x130]) hC hR hS (c_X11_end l G n q7 (xs (x15 + (1 : Int32)).toNatClampNeg) S127 x135 S132 hc133 ok_q7) ok_q7 rfl ⟨Nat.le_of_ble_eq_true rfl, Nat.le_of_ble_eq_true rfl⟩ hl.1 rfl (Nat.le_of_ble_eq_true rfl) dL_law_471 (by first | exact Nat.le_trans (Nat.le_add_right _ 6) hcb.1 | exact hcb.1) (by first | exact Nat.le_trans (Nat.le_add_right _ 390) hcb.2.1 | exact hcb.2.1) (fun H locs hR hS hE134 => ?_)
                      have ok_q1 := hE134 _ _ ok_q1
                      have ok_q7 := hE134 _ _ ok_q7
                      have hE := hE.tr hE134
                      refine lv_icmp_eq (tgt := 1161) hx hb dL_law_474 (by decide) (fun hc => ?_) (fun hc => ?_)
                      · replace hf := if_t hf hc
                        refine W.widen (k := (97 + 6 * (j + 1))) (n := (9627 + 390 * (j + 1))) (by first | exact Nat.le_trans (Nat.le_add_right _ 6) (show 97 + 6 * j + 6 ≤ 97 + 6 * (j + 1) by omega) | exact (show 97 + 6 * j + 6 ≤ 97 + 6 * (j + 1) by omega)) (by first | exact Nat.le_trans (Nat.le_add_right _ 390) (show 9627 + 390 * j + 390 ≤ 9627 + 390 * (j + 1) by omega) | exact (show 9627 + 390 * j + 390 ≤ 9627 + 390 * (j + 1) by omega)) ?_
                        exact hj1161_19 S132 _ _ _ hf hR hS hE ok_q1 ok_q7 (lv_sub hl [0, 1, 2, 3] rfl)
                      · replace hf := if_f hf hc
                        refine lv_iconst (v := 0) hx hb dL_law_477 (by decide) ?_
                        exact absurd hf no_zero
                    · replace hf := if_f hf hc6
                      by_cases hc7 : x18 = (7 : Int32)
                      · replace hf := if_t hf hc7
                        rw [hc7]
                        refine lv_tableIn (tgt := 479) hx hb dL_law_53 (by decide) (by decide) rfl (by decide) ?_
                        refine lv_aload_n hx hb dL_law_479 rfl (lv_at hl 1 rfl) ?_
                        obtain ⟨x139, S136, hc137, hf⟩ := cl_of hf
                        refine cl_RL_55 (As := []) (rest := []) hC hR hS (c_X10_text l G n q1 S16 x139 S136 hc137 ok_q1) ok_q1 rfl ⟨Nat.le_of_ble_eq_true rfl, Nat.le_of_ble_eq_true rfl⟩ hl.1 rfl (Nat.le_of_ble_eq_true rfl) dL_law_480 (by first | exact Nat.le_trans (Nat.le_add_right _ 6) hcb.1 | exact hcb.1) (by first | exact Nat.le_trans (Nat.le_add_right _ 390) hcb.2.1 | exact hcb.2.1) (fun H locs hR hS hE138 => ?_)
                        have ok_q1 := hE138 _ _ ok_q1
                        have ok_q7 := hE138 _ _ ok_q7
                        have hE := hE.tr hE138
                        refine lv_aload_n hx hb dL_law_483 rfl (lv_at hl 2 rfl) ?_
                        obtain ⟨x143, S140, hc141, hf⟩ := cl_of hf
                        refine cl_RL_59 (As := []) (rest := [.int x139]) hC hR hS (c_X11_text l G n q7 S136 x143 S140 hc141 ok_q7) ok_q7 rfl ⟨Nat.le_of_ble_eq_true rfl, Nat.le_of_ble_eq_true rfl⟩ hl.1 rfl (Nat.le_of_ble_eq_true rfl) dL_law_484 (by first | exact Nat.le_trans (Nat.le_add_right _ 6) hcb.1 | exact hcb.1) (by first | exact Nat.le_trans (Nat.le_add_right _ 390) hcb.2.1 | exact hcb.2.1) (fun H locs hR hS hE142 => ?_)
                        have ok_q1 := hE142 _ _ ok_q1
                        have ok_q7 := hE142 _ _ ok_q7
                        have hE := hE.tr hE142
                        refine lv_icmp_eq (tgt := 1161) hx hb dL_law_487 (by decide) (fun hc => ?_) (fun hc => ?_)
                        · replace hf := if_t hf hc
                          refine W.widen (k := (97 + 6 * (j + 1))) (n := (9627 + 390 * (j + 1))) (by first | exact Nat.le_trans (Nat.le_add_right _ 6) (show 97 + 6 * j + 6 ≤ 97 + 6 * (j + 1) by omega) | exact (show 97 + 6 * j + 6 ≤ 97 + 6 * (j + 1) by omega)) (by first | exact Nat.le_trans (Nat.le_add_right _ 390) (show 9627 + 390 * j + 390 ≤ 9627 + 390 * (j + 1) by omega) | exact (show 9627 + 390 * j + 390 ≤ 9627 + 390 * (j + 1) by omega)) ?_
                          exact hj1161_19 S140 _ _ _ hf hR hS hE ok_q1 ok_q7 (lv_sub hl [0, 1, 2, 3] rfl)
                        · replace hf := if_f hf hc
                          refine lv_iconst (v := 0) hx hb dL_law_490 (by decide) ?_
                          exact absurd hf no_zero
                      · replace hf := if_f hf hc7
                        by_cases hc8 : x18 = (8 : Int32)
                        · replace hf := if_t hf hc8
                          rw [hc8]
                          refine lv_tableIn (tgt := 492) hx hb dL_law_53 (by decide) (by decide) rfl (by decide) ?_
                          refine lv_aload_n hx hb dL_law_492 rfl (lv_at hl 1 rfl) ?_
                          refine lv_aload_n hx hb dL_law_493 rfl (lv_at hl 0 rfl) ?_
                          refine lv_iload_n hx hb dL_law_494 rfl (lv_at hl 3 rfl) ?_
                          refine lv_iconst (v := 1) hx hb dL_law_495 (by decide) ?_
                          refine lv_iadd hx hb dL_law_496 ?_
                          obtain ⟨hi144, hf⟩ := ck_of hf
                          refine va_sld hx hb hX hbl hbA hS (inb_in hi144) dL_law_497 ?_
                          obtain ⟨x148, S145, hc146, hf⟩ := cl_of hf
                          refine cl_RL_60 (As := [.int (xs (x15 + (1 : Int32)).toNatClampNeg)]) (rest := []) hC hR hS (c_X10_fault l G n q1 (xs (x15 + (1 : Int32)).toNatClampNeg) S16 x148 S145 hc146 ok_q1) ok_q1 rfl ⟨Nat.le_of_ble_eq_true rfl, Nat.le_of_ble_eq_true rfl⟩ hl.1 rfl (Nat.le_of_ble_eq_true rfl) dL_law_498 (by first | exact Nat.le_trans (Nat.le_add_right _ 6) hcb.1 | exact hcb.1) (by first | exact Nat.le_trans (Nat.le_add_right _ 390) hcb.2.1 | exact hcb.2.1) (fun H locs hR hS hE147 => ?_)
                          have ok_q1 := hE147 _ _ ok_q1
                          have ok_q7 := hE147 _ _ ok_q7
                          have hE := hE.tr hE147
                          refine lv_aload_n hx hb dL_law_501 rfl (lv_at hl 2 rfl) ?_
                          refine lv_aload_n hx hb dL_law_502 rfl (lv_at hl 0 rfl) ?_
                          refine lv_iload_n hx hb dL_law_503 rfl (lv_at hl 3 rfl) ?_
                          refine lv_iconst (v := 1) hx hb dL_law_504 (by decide) ?_
                          refine lv_iadd hx hb dL_law_505 ?_
                          obtain ⟨hi149, hf⟩ := ck_of hf
                          refine va_sld hx hb hX hbl hbA hS (inb_in hi149) dL_law_506 ?_
                          obtain ⟨x153, S150, hc151, hf⟩ := cl_of hf
                          refine cl_RL_63 (As := [.int (xs (x15 + (1 : Int32)).toNatClampNeg)]) (rest := [.int x148]) hC hR hS (c_X11_fault l G n q7 (xs (x15 + (1 : Int32)).toNatClampNeg) S145 x153 S150 hc151 ok_q7) ok_q7 rfl ⟨Nat.le_of_ble_eq_true rfl, Nat.le_of_ble_eq_true rfl⟩ hl.1 rfl (Nat.le_of_ble_eq_true rfl) dL_law_507 (by first | exact Nat.le_trans (Nat.le_add_right _ 6) hcb.1 | exact hcb.1) (by first | exact Nat.le_trans (Nat.le_add_right _ 390) hcb.2.1 | exact hcb.2.1) (fun H locs hR hS hE152 => ?_)
                          have ok_q1 := hE152 _ _ ok_q1
                          have ok_q7 := hE152 _ _ ok_q7
                          have hE := hE.tr hE152
                          refine lv_icmp_eq (tgt := 1161) hx hb dL_law_510 (by decide) (fun hc => ?_) (fun hc => ?_)
                          · replace hf := if_t hf hc
                            refine W.widen (k := (97 + 6 * (j + 1))) (n := (9627 + 390 * (j + 1))) (by first | exact Nat.le_trans (Nat.le_add_right _ 6) (show 97 + 6 * j + 6 ≤ 97 + 6 * (j + 1) by omega) | exact (show 97 + 6 * j + 6 ≤ 97 + 6 * (j + 1) by omega)) (by first | exact Nat.le_trans (Nat.le_add_right _ 390) (show 9627 + 390 * j + 390 ≤ 9627 + 390 * (j + 1) by omega) | exact (show 9627 + 390 * j + 390 ≤ 9627 + 390 * (j + 1) by omega)) ?_
                            exact hj1161_19 S150 _ _ _ hf hR hS hE ok_q1 ok_q7 (lv_sub hl [0, 1, 2, 3] rfl)
                          · replace hf := if_f hf hc
                            refine lv_iconst (v := 0) hx hb dL_law_513 (by decide) ?_
                            exact absurd hf no_zero
                        · replace hf := if_f hf hc8
                          by_cases hc9 : x18 = (9 : Int32)
                          · replace hf := if_t hf hc9
                            rw [hc9]
                            refine lv_tableIn (tgt := 515) hx hb dL_law_53 (by decide) (by decide) rfl (by decide) ?_
                            refine lv_aload_n hx hb dL_law_515 rfl (lv_at hl 1 rfl) ?_
                            refine lv_aload_n hx hb dL_law_516 rfl (lv_at hl 0 rfl) ?_
                            refine lv_iload_n hx hb dL_law_517 rfl (lv_at hl 3 rfl) ?_
                            refine lv_iconst (v := 1) hx hb dL_law_518 (by decide) ?_
                            refine lv_iadd hx hb dL_law_519 ?_
                            obtain ⟨hi154, hf⟩ := ck_of hf
                            refine va_sld hx hb hX hbl hbA hS (inb_in hi154) dL_law_520 ?_
                            obtain ⟨x158, S155, hc156, hf⟩ := cl_of hf
                            refine cl_RL_64 (As := [.int (xs (x15 + (1 : Int32)).toNatClampNeg)]) (rest := []) hC hR hS (c_X10_by l G n q1 (xs (x15 + (1 : Int32)).toNatClampNeg) S16 x158 S155 hc156 ok_q1) ok_q1 rfl ⟨Nat.le_of_ble_eq_true rfl, Nat.le_of_ble_eq_true rfl⟩ hl.1 rfl (Nat.le_of_ble_eq_true rfl) dL_law_521 (by first | exact Nat.le_trans (Nat.le_add_right _ 6) hcb.1 | exact hcb.1) (by first | exact Nat.le_trans (Nat.le_add_right _ 390) hcb.2.1 | exact hcb.2.1) (fun H locs hR hS hE157 => ?_)
                            have ok_q1 := hE157 _ _ ok_q1
                            have ok_q7 := hE157 _ _ ok_q7
                            have hE := hE.tr hE157
                            refine lv_aload_n hx hb dL_law_524 rfl (lv_at hl 2 rfl) ?_
                            refine lv_aload_n hx hb dL_law_525 rfl (lv_at hl 0 rfl) ?_
                            refine lv_iload_n hx hb dL_law_526 rfl (lv_at hl 3 rfl) ?_
                            refine lv_iconst (v := 1) hx hb dL_law_527 (by decide) ?_
                            refine lv_iadd hx hb dL_law_528 ?_
                            obtain ⟨hi159, hf⟩ := ck_of hf
                            refine va_sld hx hb hX hbl hbA hS (inb_in hi159) dL_law_529 ?_
                            obtain ⟨x163, S160, hc161, hf⟩ := cl_of hf
                            refine cl_RL_68 (As := [.int (xs (x15 + (1 : Int32)).toNatClampNeg)]) (rest := [.int x158]) hC hR hS (c_X11_by l G n q7 (xs (x15 + (1 : Int32)).toNatClampNeg) S155 x163 S160 hc161 ok_q7) ok_q7 rfl ⟨Nat.le_of_ble_eq_true rfl, Nat.le_of_ble_eq_true rfl⟩ hl.1 rfl (Nat.le_of_ble_eq_true rfl) dL_law_530 (by first | exact Nat.le_trans (Nat.le_add_right _ 6) hcb.1 | exact hcb.1) (by first | exact Nat.le_trans (Nat.le_add_right _ 390) hcb.2.1 | exact hcb.2.1) (fun H locs hR hS hE162 => ?_)
                            have ok_q1 := hE162 _ _ ok_q1
                            have ok_q7 := hE162 _ _ ok_q7
                            have hE := hE.tr hE162
                            refine lv_icmp_eq (tgt := 1161) hx hb dL_law_533 (by decide) (fun hc => ?_) (fun hc => ?_)
                            · replace hf := if_t hf hc
                              refine W.widen (k := (97 + 6 * (j + 1))) (n := (9627 + 390 * (j + 1))) (by first | exact Nat.le_trans (Nat.le_add_right _ 6) (show 97 + 6 * j + 6 ≤ 97 + 6 * (j + 1) by omega) | exact (show 97 + 6 * j + 6 ≤ 97 + 6 * (j + 1) by omega)) (by first | exact Nat.le_trans (Nat.le_add_right _ 390) (show 9627 + 390 * j + 390 ≤ 9627 + 390 * (j + 1) by omega) | exact (show 9627 + 390 * j + 390 ≤ 9627 + 390 * (j + 1) by omega)) ?_
                              exact hj1161_19 S160 _ _ _ hf hR hS hE ok_q1 ok_q7 (lv_sub hl [0, 1, 2, 3] rfl)
                            · replace hf := if_f hf hc
                              refine lv_iconst (v := 0) hx hb dL_law_536 (by decide) ?_
                              exact absurd hf no_zero
                          · replace hf := if_f hf hc9
                            by_cases hc10 : x18 = (10 : Int32)
                            · replace hf := if_t hf hc10
                              rw [hc10]
                              refine lv_tableIn (tgt := 538) hx hb dL_law_53 (by decide) (by decide) rfl (by decide) ?_
                              refine lv_aload_n hx hb dL_law_538 rfl (lv_at hl 1 rfl) ?_
                              refine lv_aload_n hx hb dL_law_539 rfl (lv_at hl 0 rfl) ?_
                              refine lv_iload_n hx hb dL_law_540 rfl (lv_at hl 3 rfl) ?_
                              refine lv_iconst (v := 1) hx hb dL_law_541 (by decide) ?_
                              refine lv_iadd hx hb dL_law_542 ?_
                              obtain ⟨hi164, hf⟩ := ck_of hf
                              refine va_sld hx hb hX hbl hbA hS (inb_in hi164) dL_law_543 ?_
                              obtain ⟨x168, S165, hc166, hf⟩ := cl_of hf
                              refine cl_RL_69 (As := [.int (xs (x15 + (1 : Int32)).toNatClampNeg)]) (rest := []) hC hR hS (c_X10_draw l G n q1 (xs (x15 + (1 : Int32)).toNatClampNeg) S16 x168 S165 hc166 ok_q1) ok_q1 rfl ⟨Nat.le_of_ble_eq_true rfl, Nat.le_of_ble_eq_true rfl⟩ hl.1 rfl (Nat.le_of_ble_eq_true rfl) dL_law_544 (by first | exact Nat.le_trans (Nat.le_add_right _ 6) hcb.1 | exact hcb.1) (by first | exact Nat.le_trans (Nat.le_add_right _ 390) hcb.2.1 | exact hcb.2.1) (fun H locs hR hS hE167 => ?_)
                              have ok_q1 := hE167 _ _ ok_q1
                              have ok_q7 := hE167 _ _ ok_q7
                              have hE := hE.tr hE167
                              refine lv_aload_n hx hb dL_law_547 rfl (lv_at hl 2 rfl) ?_
                              refine lv_aload_n hx hb dL_law_548 rfl (lv_at hl 0 rfl) ?_
                              refine lv_iload_n hx hb dL_law_549 rfl (lv_at hl 3 rfl) ?_
                              refine lv_iconst (v := 1) hx hb dL_law_550 (by decide) ?_
                              refine lv_iadd hx hb dL_law_551 ?_
                              obtain ⟨hi169, hf⟩ := ck_of hf
                              refine va_sld hx hb hX hbl hbA hS (inb_in hi169) dL_law_552 ?_
                              obtain ⟨x173, S170, hc171, hf⟩ := cl_of hf
                              refine cl_RL_72 (As := [.int (xs (x15 + (1 : Int32)).toNatClampNeg)]) (rest := [.int x168]) hC hR hS (c_X11_draw l G n q7 (xs (x15 + (1 : Int32)).toNatClampNeg) S165 x173 S170 hc171 ok_q7) ok_q7 rfl ⟨Nat.le_of_ble_eq_true rfl, Nat.le_of_ble_eq_true rfl⟩ hl.1 rfl (Nat.le_of_ble_eq_true rfl) dL_law_553 (by first | exact Nat.le_trans (Nat.le_add_right _ 6) hcb.1 | exact hcb.1) (by first | exact Nat.le_trans (Nat.le_add_right _ 390) hcb.2.1 | exact hcb.2.1) (fun H locs hR hS hE172 => ?_)
                              have ok_q1 := hE172 _ _ ok_q1
                              have ok_q7 := hE172 _ _ ok_q7
                              have hE := hE.tr hE172
                              refine lv_icmp_eq (tgt := 1161) hx hb dL_law_556 (by decide) (fun hc => ?_) (fun hc => ?_)
                              · replace hf := if_t hf hc
                                refine W.widen (k := (97 + 6 * (j + 1))) (n := (9627 + 390 * (j + 1))) (by first | exact Nat.le_trans (Nat.le_add_right _ 6) (show 97 + 6 * j + 6 ≤ 97 + 6 * (j + 1) by omega) | exact (show 97 + 6 * j + 6 ≤ 97 + 6 * (j + 1) by omega)) (by first | exact Nat.le_trans (Nat.le_add_right _ 390) (show 9627 + 390 * j + 390 ≤ 9627 + 390 * (j + 1) by omega) | exact (show 9627 + 390 * j + 390 ≤ 9627 + 390 * (j + 1) by omega)) ?_
                                exact hj1161_19 S170 _ _ _ hf hR hS hE ok_q1 ok_q7 (lv_sub hl [0, 1, 2, 3] rfl)
                              · replace hf := if_f hf hc
                                refine lv_iconst (v := 0) hx hb dL_law_559 (by decide) ?_
                                exact absurd hf no_zero
                            · replace hf := if_f hf hc10
                              by_cases hc11 : x18 = (11 : Int32)
                              · replace hf := if_t hf hc11
                                rw [hc11]
                                refine lv_tableIn (tgt := 561) hx hb dL_law_53 (by decide) (by decide) rfl (by decide) ?_
                                refine lv_aload_n hx hb dL_law_561 rfl (lv_at hl 1 rfl) ?_
                                refine lv_aload_n hx hb dL_law_562 rfl (lv_at hl 0 rfl) ?_
                                refine lv_iload_n hx hb dL_law_563 rfl (lv_at hl 3 rfl) ?_
                                refine lv_iconst (v := 1) hx hb dL_law_564 (by decide) ?_
                                refine lv_iadd hx hb dL_law_565 ?_
                                obtain ⟨hi174, hf⟩ := ck_of hf
                                refine va_sld hx hb hX hbl hbA hS (inb_in hi174) dL_law_566 ?_
                                refine lv_aload_n hx hb dL_law_567 rfl (lv_at hl 0 rfl) ?_
                                refine lv_iload_n hx hb dL_law_568 rfl (lv_at hl 3 rfl) ?_
                                refine lv_iconst (v := 2) hx hb dL_law_569 (by decide) ?_
                                refine lv_iadd hx hb dL_law_570 ?_
                                obtain ⟨hi175, hf⟩ := ck_of hf
                                refine va_sld hx hb hX hbl hbA hS (inb_in hi175) dL_law_571 ?_
                                obtain ⟨x179, S176, hc177, hf⟩ := cl_of hf
                                refine cl_RL_73 (As := [.int (xs (x15 + (1 : Int32)).toNatClampNeg), .int (xs (x15 + (2 : Int32)).toNatClampNeg)]) (rest := []) hC hR hS (c_X10_of l G n q1 (xs (x15 + (1 : Int32)).toNatClampNeg) (xs (x15 + (2 : Int32)).toNatClampNeg) S16 x179 S176 hc177 ok_q1) ok_q1 rfl ⟨Nat.le_of_ble_eq_true rfl, Nat.le_of_ble_eq_true rfl⟩ hl.1 rfl (Nat.le_of_ble_eq_true rfl) dL_law_572 (by first | exact Nat.le_trans (Nat.le_add_right _ 6) hcb.1 | exact hcb.1) (by first | exact Nat.le_trans (Nat.le_add_right _ 390) hcb.2.1 | exact hcb.2.1) (fun H locs hR hS hE178 => ?_)
                                have ok_q1 := hE178 _ _ ok_q1
                                have ok_q7 := hE178 _ _ ok_q7
                                have hE := hE.tr hE178
                                refine lv_aload_n hx hb dL_law_575 rfl (lv_at hl 2 rfl) ?_
                                refine lv_aload_n hx hb dL_law_576 rfl (lv_at hl 0 rfl) ?_
                                refine lv_iload_n hx hb dL_law_577 rfl (lv_at hl 3 rfl) ?_
                                refine lv_iconst (v := 1) hx hb dL_law_578 (by decide) ?_
                                refine lv_iadd hx hb dL_law_579 ?_
                                obtain ⟨hi180, hf⟩ := ck_of hf
                                refine va_sld hx hb hX hbl hbA hS (inb_in hi180) dL_law_580 ?_
                                refine lv_aload_n hx hb dL_law_581 rfl (lv_at hl 0 rfl) ?_
                                refine lv_iload_n hx hb dL_law_582 rfl (lv_at hl 3 rfl) ?_
                                refine lv_iconst (v := 2) hx hb dL_law_583 (by decide) ?_
                                refine lv_iadd hx hb dL_law_584 ?_
                                obtain ⟨hi181, hf⟩ := ck_of hf
                                refine va_sld hx hb hX hbl hbA hS (inb_in hi181) dL_law_585 ?_
                                obtain ⟨x185, S182, hc183, hf⟩ := cl_of hf
                                refine cl_RL_76 (As := [.int (xs (x15 + (1 : Int32)).toNatClampNeg), .int (xs (x15 + (2 : Int32)).toNatClampNeg)]) (rest := [.int x179]) hC hR hS (c_X11_of l G n q7 (xs (x15 + (1 : Int32)).toNatClampNeg) (xs (x15 + (2 : Int32)).toNatClampNeg) S176 x185 S182 hc183 ok_q7) ok_q7 rfl ⟨Nat.le_of_ble_eq_true rfl, Nat.le_of_ble_eq_true rfl⟩ hl.1 rfl (Nat.le_of_ble_eq_true rfl) dL_law_586 (by first | exact Nat.le_trans (Nat.le_add_right _ 6) hcb.1 | exact hcb.1) (by first | exact Nat.le_trans (Nat.le_add_right _ 390) hcb.2.1 | exact hcb.2.1) (fun H locs hR hS hE184 => ?_)
                                have ok_q1 := hE184 _ _ ok_q1
                                have ok_q7 := hE184 _ _ ok_q7
                                have hE := hE.tr hE184
                                refine lv_icmp_eq (tgt := 1161) hx hb dL_law_589 (by decide) (fun hc => ?_) (fun hc => ?_)
                                · replace hf := if_t hf hc
                                  refine W.widen (k := (97 + 6 * (j + 1))) (n := (9627 + 390 * (j + 1))) (by first | exact Nat.le_trans (Nat.le_add_right _ 6) (show 97 + 6 * j + 6 ≤ 97 + 6 * (j + 1) by omega) | exact (show 97 + 6 * j + 6 ≤ 97 + 6 * (j + 1) by omega)) (by first | exact Nat.le_trans (Nat.le_add_right _ 390) (show 9627 + 390 * j + 390 ≤ 9627 + 390 * (j + 1) by omega) | exact (show 9627 + 390 * j + 390 ≤ 9627 + 390 * (j + 1) by omega)) ?_
                                  exact hj1161_19 S182 _ _ _ hf hR hS hE ok_q1 ok_q7 (lv_sub hl [0, 1, 2, 3] rfl)
                                · replace hf := if_f hf hc
                                  refine lv_iconst (v := 0) hx hb dL_law_592 (by decide) ?_
                                  exact absurd hf no_zero
                              · replace hf := if_f hf hc11
                                by_cases hc12 : x18 = (12 : Int32)
                                · replace hf := if_t hf hc12
                                  rw [hc12]
                                  refine lv_tableIn (tgt := 594) hx hb dL_law_53 (by decide) (by decide) rfl (by decide) ?_
                                  refine lv_aload_n hx hb dL_law_594 rfl (lv_at hl 1 rfl) ?_
                                  refine lv_aload_n hx hb dL_law_595 rfl (lv_at hl 0 rfl) ?_
                                  refine lv_iload_n hx hb dL_law_596 rfl (lv_at hl 3 rfl) ?_
                                  refine lv_iconst (v := 1) hx hb dL_law_597 (by decide) ?_
                                  refine lv_iadd hx hb dL_law_598 ?_
                                  obtain ⟨hi186, hf⟩ := ck_of hf
                                  refine va_sld hx hb hX hbl hbA hS (inb_in hi186) dL_law_599 ?_
                                  refine lv_aload_n hx hb dL_law_600 rfl (lv_at hl 0 rfl) ?_
                                  refine lv_iload_n hx hb dL_law_601 rfl (lv_at hl 3 rfl) ?_
                                  refine lv_iconst (v := 2) hx hb dL_law_602 (by decide) ?_
                                  refine lv_iadd hx hb dL_law_603 ?_
                                  obtain ⟨hi187, hf⟩ := ck_of hf
                                  refine va_sld hx hb hX hbl hbA hS (inb_in hi187) dL_law_604 ?_
                                  obtain ⟨x191, S188, hc189, hf⟩ := cl_of hf
                                  refine cl_RL_77 (As := [.int (xs (x15 + (1 : Int32)).toNatClampNeg), .int (xs (x15 + (2 : Int32)).toNatClampNeg)]) (rest := []) hC hR hS (c_X10_cell l G n q1 (xs (x15 + (1 : Int32)).toNatClampNeg) (xs (x15 + (2 : Int32)).toNatClampNeg) S16 x191 S188 hc189 ok_q1) ok_q1 rfl ⟨Nat.le_of_ble_eq_true rfl, Nat.le_of_ble_eq_true rfl⟩ hl.1 rfl (Nat.le_of_ble_eq_true rfl) dL_law_605 (by first | exact Nat.le_trans (Nat.le_add_right _ 6) hcb.1 | exact hcb.1) (by first | exact Nat.le_trans (Nat.le_add_right _ 390) hcb.2.1 | exact hcb.2.1) (fun H locs hR hS hE190 => ?_)
                                  have ok_q1 := hE190 _ _ ok_q1
                                  have ok_q7 := hE190 _ _ ok_q7
                                  have hE := hE.tr hE190
                                  refine lv_aload_n hx hb dL_law_608 rfl (lv_at hl 2 rfl) ?_
                                  refine lv_aload_n hx hb dL_law_609 rfl (lv_at hl 0 rfl) ?_
                                  refine lv_iload_n hx hb dL_law_610 rfl (lv_at hl 3 rfl) ?_
                                  refine lv_iconst (v := 1) hx hb dL_law_611 (by decide) ?_
                                  refine lv_iadd hx hb dL_law_612 ?_
                                  obtain ⟨hi192, hf⟩ := ck_of hf
                                  refine va_sld hx hb hX hbl hbA hS (inb_in hi192) dL_law_613 ?_
                                  refine lv_aload_n hx hb dL_law_614 rfl (lv_at hl 0 rfl) ?_
                                  refine lv_iload_n hx hb dL_law_615 rfl (lv_at hl 3 rfl) ?_
                                  refine lv_iconst (v := 2) hx hb dL_law_616 (by decide) ?_
                                  refine lv_iadd hx hb dL_law_617 ?_
                                  obtain ⟨hi193, hf⟩ := ck_of hf
                                  refine va_sld hx hb hX hbl hbA hS (inb_in hi193) dL_law_618 ?_
                                  obtain ⟨x197, S194, hc195, hf⟩ := cl_of hf
                                  refine cl_RL_79 (As := [.int (xs (x15 + (1 : Int32)).toNatClampNeg), .int (xs (x15 + (2 : Int32)).toNatClampNeg)]) (rest := [.int x191]) hC hR hS (c_X11_cell l G n q7 (xs (x15 + (1 : Int32)).toNatClampNeg) (xs (x15 + (2 : Int32)).toNatClampNeg) S188 x197 S194 hc195 ok_q7) ok_q7 rfl ⟨Nat.le_of_ble_eq_true rfl, Nat.le_of_ble_eq_true rfl⟩ hl.1 rfl (Nat.le_of_ble_eq_true rfl) dL_law_619 (by first | exact Nat.le_trans (Nat.le_add_right _ 6) hcb.1 | exact hcb.1) (by first | exact Nat.le_trans (Nat.le_add_right _ 390) hcb.2.1 | exact hcb.2.1) (fun H locs hR hS hE196 => ?_)
                                  have ok_q1 := hE196 _ _ ok_q1
                                  have ok_q7 := hE196 _ _ ok_q7
                                  have hE := hE.tr hE196
                                  refine lv_icmp_eq (tgt := 1161) hx hb dL_law_622 (by decide) (fun hc => ?_) (fun hc => ?_)
                                  · replace hf := if_t hf hc
                                    refine W.widen (k := (97 + 6 * (j + 1))) (n := (9627 + 390 * (j + 1))) (by first | exact Nat.le_trans (Nat.le_add_right _ 6) (show 97 + 6 * j + 6 ≤ 97 + 6 * (j + 1) by omega) | exact (show 97 + 6 * j + 6 ≤ 97 + 6 * (j + 1) by omega)) (by first | exact Nat.le_trans (Nat.le_add_right _ 390) (show 9627 + 390 * j + 390 ≤ 9627 + 390 * (j + 1) by omega) | exact (show 9627 + 390 * j + 390 ≤ 9627 + 390 * (j + 1) by omega)) ?_
                                    exact hj1161_19 S194 _ _ _ hf hR hS hE ok_q1 ok_q7 (lv_sub hl [0, 1, 2, 3] rfl)
                                  · replace hf := if_f hf hc
                                    refine lv_iconst (v := 0) hx hb dL_law_625 (by decide) ?_
                                    exact absurd hf no_zero
                                · replace hf := if_f hf hc12
                                  by_cases hc13 : x18 = (13 : Int32)
                                  · replace hf := if_t hf hc13
                                    rw [hc13]
                                    refine lv_tableIn (tgt := 627) hx hb dL_law_53 (by decide) (by decide) rfl (by decide) ?_
                                    refine lv_aload_n hx hb dL_law_627 rfl (lv_at hl 1 rfl) ?_
                                    refine lv_aload_n hx hb dL_law_628 rfl (lv_at hl 0 rfl) ?_
                                    refine lv_iload_n hx hb dL_law_629 rfl (lv_at hl 3 rfl) ?_
                                    refine lv_iconst (v := 1) hx hb dL_law_630 (by decide) ?_
                                    refine lv_iadd hx hb dL_law_631 ?_
                                    obtain ⟨hi198, hf⟩ := ck_of hf
                                    refine va_sld hx hb hX hbl hbA hS (inb_in hi198) dL_law_632 ?_
                                    refine lv_aload_n hx hb dL_law_633 rfl (lv_at hl 0 rfl) ?_
                                    refine lv_iload_n hx hb dL_law_634 rfl (lv_at hl 3 rfl) ?_
                                    refine lv_iconst (v := 2) hx hb dL_law_635 (by decide) ?_
                                    refine lv_iadd hx hb dL_law_636 ?_
                                    obtain ⟨hi199, hf⟩ := ck_of hf
                                    refine va_sld hx hb hX hbl hbA hS (inb_in hi199) dL_law_637 ?_
                                    obtain ⟨x203, S200, hc201, hf⟩ := cl_of hf
                                    refine cl_RL_80 (As := [.int (xs (x15 + (1 : Int32)).toNatClampNeg), .int (xs (x15 + (2 : Int32)).toNatClampNeg)]) (rest := []) hC hR hS (c_X10_farmer l G n q1 (xs (x15 + (1 : Int32)).toNatClampNeg) (xs (x15 + (2 : Int32)).toNatClampNeg) S16 x203 S200 hc201 ok_q1) ok_q1 rfl ⟨Nat.le_of_ble_eq_true rfl, Nat.le_of_ble_eq_true rfl⟩ hl.1 rfl (Nat.le_of_ble_eq_true rfl) dL_law_638 (by first | exact Nat.le_trans (Nat.le_add_right _ 6) hcb.1 | exact hcb.1) (by first | exact Nat.le_trans (Nat.le_add_right _ 390) hcb.2.1 | exact hcb.2.1) (fun H locs hR hS hE202 => ?_)
                                    have ok_q1 := hE202 _ _ ok_q1
                                    have ok_q7 := hE202 _ _ ok_q7
                                    have hE := hE.tr hE202
                                    refine lv_aload_n hx hb dL_law_641 rfl (lv_at hl 2 rfl) ?_
                                    refine lv_aload_n hx hb dL_law_642 rfl (lv_at hl 0 rfl) ?_
                                    refine lv_iload_n hx hb dL_law_643 rfl (lv_at hl 3 rfl) ?_
                                    refine lv_iconst (v := 1) hx hb dL_law_644 (by decide) ?_
                                    refine lv_iadd hx hb dL_law_645 ?_
                                    obtain ⟨hi204, hf⟩ := ck_of hf
                                    refine va_sld hx hb hX hbl hbA hS (inb_in hi204) dL_law_646 ?_
                                    refine lv_aload_n hx hb dL_law_647 rfl (lv_at hl 0 rfl) ?_
                                    refine lv_iload_n hx hb dL_law_648 rfl (lv_at hl 3 rfl) ?_
                                    refine lv_iconst (v := 2) hx hb dL_law_649 (by decide) ?_
                                    refine lv_iadd hx hb dL_law_650 ?_
                                    obtain ⟨hi205, hf⟩ := ck_of hf
                                    refine va_sld hx hb hX hbl hbA hS (inb_in hi205) dL_law_651 ?_
                                    obtain ⟨x209, S206, hc207, hf⟩ := cl_of hf
                                    refine cl_RL_83 (As := [.int (xs (x15 + (1 : Int32)).toNatClampNeg), .int (xs (x15 + (2 : Int32)).toNatClampNeg)]) (rest := [.int x203]) hC hR hS (c_X11_farmer l G n q7 (xs (x15 + (1 : Int32)).toNatClampNeg) (xs (x15 + (2 : Int32)).toNatClampNeg) S200 x209 S206 hc207 ok_q7) ok_q7 rfl ⟨Nat.le_of_ble_eq_true rfl, Nat.le_of_ble_eq_true rfl⟩ hl.1 rfl (Nat.le_of_ble_eq_true rfl) dL_law_652 (by first | exact Nat.le_trans (Nat.le_add_right _ 6) hcb.1 | exact hcb.1) (by first | exact Nat.le_trans (Nat.le_add_right _ 390) hcb.2.1 | exact hcb.2.1) (fun H locs hR hS hE208 => ?_)
                                    have ok_q1 := hE208 _ _ ok_q1
                                    have ok_q7 := hE208 _ _ ok_q7
                                    have hE := hE.tr hE208
                                    refine lv_icmp_eq (tgt := 1161) hx hb dL_law_655 (by decide) (fun hc => ?_) (fun hc => ?_)
                                    · replace hf := if_t hf hc
                                      refine W.widen (k := (97 + 6 * (j + 1))) (n := (9627 + 390 * (j + 1))) (by first | exact Nat.le_trans (Nat.le_add_right _ 6) (show 97 + 6 * j + 6 ≤ 97 + 6 * (j + 1) by omega) | exact (show 97 + 6 * j + 6 ≤ 97 + 6 * (j + 1) by omega)) (by first | exact Nat.le_trans (Nat.le_add_right _ 390) (show 9627 + 390 * j + 390 ≤ 9627 + 390 * (j + 1) by omega) | exact (show 9627 + 390 * j + 390 ≤ 9627 + 390 * (j + 1) by omega)) ?_
                                      exact hj1161_19 S206 _ _ _ hf hR hS hE ok_q1 ok_q7 (lv_sub hl [0, 1, 2, 3] rfl)
                                    · replace hf := if_f hf hc
                                      refine lv_iconst (v := 0) hx hb dL_law_658 (by decide) ?_
                                      exact absurd hf no_zero
                                  · replace hf := if_f hf hc13
                                    by_cases hc14 : x18 = (14 : Int32)
                                    · replace hf := if_t hf hc14
                                      rw [hc14]
                                      refine lv_tableIn (tgt := 660) hx hb dL_law_53 (by decide) (by decide) rfl (by decide) ?_
                                      refine lv_aload_n hx hb dL_law_660 rfl (lv_at hl 1 rfl) ?_
                                      refine lv_aload_n hx hb dL_law_661 rfl (lv_at hl 0 rfl) ?_
                                      refine lv_iload_n hx hb dL_law_662 rfl (lv_at hl 3 rfl) ?_
                                      refine lv_iconst (v := 1) hx hb dL_law_663 (by decide) ?_
                                      refine lv_iadd hx hb dL_law_664 ?_
                                      obtain ⟨hi210, hf⟩ := ck_of hf
                                      refine va_sld hx hb hX hbl hbA hS (inb_in hi210) dL_law_665 ?_
                                      obtain ⟨x214, S211, hc212, hf⟩ := cl_of hf
                                      refine cl_RL_84 (As := [.int (xs (x15 + (1 : Int32)).toNatClampNeg)]) (rest := []) hC hR hS (c_X10_hour l G n q1 (xs (x15 + (1 : Int32)).toNatClampNeg) S16 x214 S211 hc212 ok_q1) ok_q1 rfl ⟨Nat.le_of_ble_eq_true rfl, Nat.le_of_ble_eq_true rfl⟩ hl.1 rfl (Nat.le_of_ble_eq_true rfl) dL_law_666 (by first | exact Nat.le_trans (Nat.le_add_right _ 6) hcb.1 | exact hcb.1) (by first | exact Nat.le_trans (Nat.le_add_right _ 390) hcb.2.1 | exact hcb.2.1) (fun H locs hR hS hE213 => ?_)
                                      have ok_q1 := hE213 _ _ ok_q1
                                      have ok_q7 := hE213 _ _ ok_q7
                                      have hE := hE.tr hE213
                                      refine lv_aload_n hx hb dL_law_669 rfl (lv_at hl 2 rfl) ?_
                                      refine lv_aload_n hx hb dL_law_670 rfl (lv_at hl 0 rfl) ?_
                                      refine lv_iload_n hx hb dL_law_671 rfl (lv_at hl 3 rfl) ?_
                                      refine lv_iconst (v := 1) hx hb dL_law_672 (by decide) ?_
                                      refine lv_iadd hx hb dL_law_673 ?_
                                      obtain ⟨hi215, hf⟩ := ck_of hf
                                      refine va_sld hx hb hX hbl hbA hS (inb_in hi215) dL_law_674 ?_
                                      obtain ⟨x219, S216, hc217, hf⟩ := cl_of hf
                                      refine cl_RL_87 (As := [.int (xs (x15 + (1 : Int32)).toNatClampNeg)]) (rest := [.int x214]) hC hR hS (c_X11_hour l G n q7 (xs (x15 + (1 : Int32)).toNatClampNeg) S211 x219 S216 hc217 ok_q7) ok_q7 rfl ⟨Nat.le_of_ble_eq_true rfl, Nat.le_of_ble_eq_true rfl⟩ hl.1 rfl (Nat.le_of_ble_eq_true rfl) dL_law_675 (by first | exact Nat.le_trans (Nat.le_add_right _ 6) hcb.1 | exact hcb.1) (by first | exact Nat.le_trans (Nat.le_add_right _ 390) hcb.2.1 | exact hcb.2.1) (fun H locs hR hS hE218 => ?_)
                                      have ok_q1 := hE218 _ _ ok_q1
                                      have ok_q7 := hE218 _ _ ok_q7
                                      have hE := hE.tr hE218
                                      refine lv_icmp_eq (tgt := 1161) hx hb dL_law_678 (by decide) (fun hc => ?_) (fun hc => ?_)
                                      · replace hf := if_t hf hc
                                        refine W.widen (k := (97 + 6 * (j + 1))) (n := (9627 + 390 * (j + 1))) (by first | exact Nat.le_trans (Nat.le_add_right _ 6) (show 97 + 6 * j + 6 ≤ 97 + 6 * (j + 1) by omega) | exact (show 97 + 6 * j + 6 ≤ 97 + 6 * (j + 1) by omega)) (by first | exact Nat.le_trans (Nat.le_add_right _ 390) (show 9627 + 390 * j + 390 ≤ 9627 + 390 * (j + 1) by omega) | exact (show 9627 + 390 * j + 390 ≤ 9627 + 390 * (j + 1) by omega)) ?_
                                        exact hj1161_19 S216 _ _ _ hf hR hS hE ok_q1 ok_q7 (lv_sub hl [0, 1, 2, 3] rfl)
                                      · replace hf := if_f hf hc
                                        refine lv_iconst (v := 0) hx hb dL_law_681 (by decide) ?_
                                        exact absurd hf no_zero
                                    · replace hf := if_f hf hc14
                                      by_cases hc15 : x18 = (15 : Int32)
                                      · replace hf := if_t hf hc15
                                        rw [hc15]
                                        refine lv_tableIn (tgt := 683) hx hb dL_law_53 (by decide) (by decide) rfl (by decide) ?_
                                        refine lv_aload_n hx hb dL_law_683 rfl (lv_at hl 1 rfl) ?_
                                        refine lv_aload_n hx hb dL_law_684 rfl (lv_at hl 0 rfl) ?_
                                        refine lv_iload_n hx hb dL_law_685 rfl (lv_at hl 3 rfl) ?_
                                        refine lv_iconst (v := 1) hx hb dL_law_686 (by decide) ?_
                                        refine lv_iadd hx hb dL_law_687 ?_
                                        obtain ⟨hi220, hf⟩ := ck_of hf
                                        refine va_sld hx hb hX hbl hbA hS (inb_in hi220) dL_law_688 ?_
                                        refine lv_aload_n hx hb dL_law_689 rfl (lv_at hl 0 rfl) ?_
                                        refine lv_iload_n hx hb dL_law_690 rfl (lv_at hl 3 rfl) ?_
                                        refine lv_iconst (v := 2) hx hb dL_law_691 (by decide) ?_
                                        refine lv_iadd hx hb dL_law_692 ?_
                                        obtain ⟨hi221, hf⟩ := ck_of hf
                                        refine va_sld hx hb hX hbl hbA hS (inb_in hi221) dL_law_693 ?_
                                        obtain ⟨x225, S222, hc223, hf⟩ := cl_of hf
                                        refine cl_RL_88 (As := [.int (xs (x15 + (1 : Int32)).toNatClampNeg), .int (xs (x15 + (2 : Int32)).toNatClampNeg)]) (rest := []) hC hR hS (c_X10_sow l G n q1 (xs (x15 + (1 : Int32)).toNatClampNeg) (xs (x15 + (2 : Int32)).toNatClampNeg) S16 x225 S222 hc223 ok_q1) ok_q1 rfl ⟨Nat.le_of_ble_eq_true rfl, Nat.le_of_ble_eq_true rfl⟩ hl.1 rfl (Nat.le_of_ble_eq_true rfl) dL_law_694 (by first | exact Nat.le_trans (Nat.le_add_right _ 6) hcb.1 | exact hcb.1) (by first | exact Nat.le_trans (Nat.le_add_right _ 390) hcb.2.1 | exact hcb.2.1) (fun H locs hR hS hE224 => ?_)
                                        have ok_q1 := hE224 _ _ ok_q1
                                        have ok_q7 := hE224 _ _ ok_q7
                                        have hE := hE.tr hE224
                                        refine lv_aload_n hx hb dL_law_697 rfl (lv_at hl 2 rfl) ?_
                                        refine lv_aload_n hx hb dL_law_698 rfl (lv_at hl 0 rfl) ?_
                                        refine lv_iload_n hx hb dL_law_699 rfl (lv_at hl 3 rfl) ?_
                                        refine lv_iconst (v := 1) hx hb dL_law_700 (by decide) ?_
                                        refine lv_iadd hx hb dL_law_701 ?_
                                        obtain ⟨hi226, hf⟩ := ck_of hf
                                        refine va_sld hx hb hX hbl hbA hS (inb_in hi226) dL_law_702 ?_
                                        refine lv_aload_n hx hb dL_law_703 rfl (lv_at hl 0 rfl) ?_
                                        refine lv_iload_n hx hb dL_law_704 rfl (lv_at hl 3 rfl) ?_
                                        refine lv_iconst (v := 2) hx hb dL_law_705 (by decide) ?_
                                        refine lv_iadd hx hb dL_law_706 ?_
                                        obtain ⟨hi227, hf⟩ := ck_of hf
                                        refine va_sld hx hb hX hbl hbA hS (inb_in hi227) dL_law_707 ?_
                                        obtain ⟨x231, S228, hc229, hf⟩ := cl_of hf
                                        refine cl_RL_91 (As := [.int (xs (x15 + (1 : Int32)).toNatClampNeg), .int (xs (x15 + (2 : Int32)).toNatClampNeg)]) (rest := [.int x225]) hC hR hS (c_X11_sow l G n q7 (xs (x15 + (1 : Int32)).toNatClampNeg) (xs (x15 + (2 : Int32)).toNatClampNeg) S222 x231 S228 hc229 ok_q7) ok_q7 rfl ⟨Nat.le_of_ble_eq_true rfl, Nat.le_of_ble_eq_true rfl⟩ hl.1 rfl (Nat.le_of_ble_eq_true rfl) dL_law_708 (by first | exact Nat.le_trans (Nat.le_add_right _ 6) hcb.1 | exact hcb.1) (by first | exact Nat.le_trans (Nat.le_add_right _ 390) hcb.2.1 | exact hcb.2.1) (fun H locs hR hS hE230 => ?_)
                                        have ok_q1 := hE230 _ _ ok_q1
                                        have ok_q7 := hE230 _ _ ok_q7
                                        have hE := hE.tr hE230
                                        refine lv_icmp_eq (tgt := 1161) hx hb dL_law_711 (by decide) (fun hc => ?_) (fun hc => ?_)
                                        · replace hf := if_t hf hc
                                          refine W.widen (k := (97 + 6 * (j + 1))) (n := (9627 + 390 * (j + 1))) (by first | exact Nat.le_trans (Nat.le_add_right _ 6) (show 97 + 6 * j + 6 ≤ 97 + 6 * (j + 1) by omega) | exact (show 97 + 6 * j + 6 ≤ 97 + 6 * (j + 1) by omega)) (by first | exact Nat.le_trans (Nat.le_add_right _ 390) (show 9627 + 390 * j + 390 ≤ 9627 + 390 * (j + 1) by omega) | exact (show 9627 + 390 * j + 390 ≤ 9627 + 390 * (j + 1) by omega)) ?_
                                          exact hj1161_19 S228 _ _ _ hf hR hS hE ok_q1 ok_q7 (lv_sub hl [0, 1, 2, 3] rfl)
                                        · replace hf := if_f hf hc
                                          refine lv_iconst (v := 0) hx hb dL_law_714 (by decide) ?_
                                          exact absurd hf no_zero
                                      · replace hf := if_f hf hc15
                                        by_cases hc16 : x18 = (16 : Int32)
                                        · replace hf := if_t hf hc16
                                          rw [hc16]
                                          refine lv_tableIn (tgt := 716) hx hb dL_law_53 (by decide) (by decide) rfl (by decide) ?_
                                          refine lv_aload_n hx hb dL_law_716 rfl (lv_at hl 1 rfl) ?_
                                          refine lv_aload_n hx hb dL_law_717 rfl (lv_at hl 0 rfl) ?_
                                          refine lv_iload_n hx hb dL_law_718 rfl (lv_at hl 3 rfl) ?_
                                          refine lv_iconst (v := 1) hx hb dL_law_719 (by decide) ?_
                                          refine lv_iadd hx hb dL_law_720 ?_
                                          obtain ⟨hi232, hf⟩ := ck_of hf
                                          refine va_sld hx hb hX hbl hbA hS (inb_in hi232) dL_law_721 ?_
                                          obtain ⟨x236, S233, hc234, hf⟩ := cl_of hf
                                          refine cl_RL_92 (As := [.int (xs (x15 + (1 : Int32)).toNatClampNeg)]) (rest := []) hC hR hS (c_X10_reap l G n q1 (xs (x15 + (1 : Int32)).toNatClampNeg) S16 x236 S233 hc234 ok_q1) ok_q1 rfl ⟨Nat.le_of_ble_eq_true rfl, Nat.le_of_ble_eq_true rfl⟩ hl.1 rfl (Nat.le_of_ble_eq_true rfl) dL_law_722 (by first | exact Nat.le_trans (Nat.le_add_right _ 6) hcb.1 | exact hcb.1) (by first | exact Nat.le_trans (Nat.le_add_right _ 390) hcb.2.1 | exact hcb.2.1) (fun H locs hR hS hE235 => ?_)
                                          have ok_q1 := hE235 _ _ ok_q1
                                          have ok_q7 := hE235 _ _ ok_q7
                                          have hE := hE.tr hE235
                                          refine lv_aload_n hx hb dL_law_725 rfl (lv_at hl 2 rfl) ?_
                                          refine lv_aload_n hx hb dL_law_726 rfl (lv_at hl 0 rfl) ?_
                                          refine lv_iload_n hx hb dL_law_727 rfl (lv_at hl 3 rfl) ?_
                                          refine lv_iconst (v := 1) hx hb dL_law_728 (by decide) ?_
                                          refine lv_iadd hx hb dL_law_729 ?_
                                          obtain ⟨hi237, hf⟩ := ck_of hf
                                          refine va_sld hx hb hX hbl hbA hS (inb_in hi237) dL_law_730 ?_
                                          obtain ⟨x241, S238, hc239, hf⟩ := cl_of hf
                                          refine cl_RL_95 (As := [.int (xs (x15 + (1 : Int32)).toNatClampNeg)]) (rest := [.int x236]) hC hR hS (c_X11_reap l G n q7 (xs (x15 + (1 : Int32)).toNatClampNeg) S233 x241 S238 hc239 ok_q7) ok_q7 rfl ⟨Nat.le_of_ble_eq_true rfl, Nat.le_of_ble_eq_true rfl⟩ hl.1 rfl (Nat.le_of_ble_eq_true rfl) dL_law_731 (by first | exact Nat.le_trans (Nat.le_add_right _ 6) hcb.1 | exact hcb.1) (by first | exact Nat.le_trans (Nat.le_add_right _ 390) hcb.2.1 | exact hcb.2.1) (fun H locs hR hS hE240 => ?_)
                                          have ok_q1 := hE240 _ _ ok_q1
                                          have ok_q7 := hE240 _ _ ok_q7
                                          have hE := hE.tr hE240
                                          refine lv_icmp_eq (tgt := 1161) hx hb dL_law_734 (by decide) (fun hc => ?_) (fun hc => ?_)
                                          · replace hf := if_t hf hc
                                            refine W.widen (k := (97 + 6 * (j + 1))) (n := (9627 + 390 * (j + 1))) (by first | exact Nat.le_trans (Nat.le_add_right _ 6) (show 97 + 6 * j + 6 ≤ 97 + 6 * (j + 1) by omega) | exact (show 97 + 6 * j + 6 ≤ 97 + 6 * (j + 1) by omega)) (by first | exact Nat.le_trans (Nat.le_add_right _ 390) (show 9627 + 390 * j + 390 ≤ 9627 + 390 * (j + 1) by omega) | exact (show 9627 + 390 * j + 390 ≤ 9627 + 390 * (j + 1) by omega)) ?_
                                            exact hj1161_19 S238 _ _ _ hf hR hS hE ok_q1 ok_q7 (lv_sub hl [0, 1, 2, 3] rfl)
                                          · replace hf := if_f hf hc
                                            refine lv_iconst (v := 0) hx hb dL_law_737 (by decide) ?_
                                            exact absurd hf no_zero
                                        · replace hf := if_f hf hc16
                                          by_cases hc17 : x18 = (17 : Int32)
                                          · replace hf := if_t hf hc17
                                            rw [hc17]
                                            refine lv_tableIn (tgt := 739) hx hb dL_law_53 (by decide) (by decide) rfl (by decide) ?_
                                            refine lv_aload_n hx hb dL_law_739 rfl (lv_at hl 1 rfl) ?_
                                            refine lv_aload_n hx hb dL_law_740 rfl (lv_at hl 0 rfl) ?_
                                            refine lv_iload_n hx hb dL_law_741 rfl (lv_at hl 3 rfl) ?_
                                            refine lv_iconst (v := 1) hx hb dL_law_742 (by decide) ?_
                                            refine lv_iadd hx hb dL_law_743 ?_
                                            obtain ⟨hi242, hf⟩ := ck_of hf
                                            refine va_sld hx hb hX hbl hbA hS (inb_in hi242) dL_law_744 ?_
                                            refine lv_aload_n hx hb dL_law_745 rfl (lv_at hl 0 rfl) ?_
                                            refine lv_iload_n hx hb dL_law_746 rfl (lv_at hl 3 rfl) ?_
                                            refine lv_iconst (v := 2) hx hb dL_law_747 (by decide) ?_
                                            refine lv_iadd hx hb dL_law_748 ?_
                                            obtain ⟨hi243, hf⟩ := ck_of hf
                                            refine va_sld hx hb hX hbl hbA hS (inb_in hi243) dL_law_749 ?_
                                            refine lv_aload_n hx hb dL_law_750 rfl (lv_at hl 0 rfl) ?_
                                            refine lv_iload_n hx hb dL_law_751 rfl (lv_at hl 3 rfl) ?_
                                            refine lv_iconst (v := 3) hx hb dL_law_752 (by decide) ?_
                                            refine lv_iadd hx hb dL_law_753 ?_
                                            obtain ⟨hi244, hf⟩ := ck_of hf
                                            refine va_sld hx hb hX hbl hbA hS (inb_in hi244) dL_law_754 ?_
                                            obtain ⟨x248, S245, hc246, hf⟩ := cl_of hf
                                            refine cl_RL_96 (As := [.int (xs (x15 + (1 : Int32)).toNatClampNeg), .int (xs (x15 + (2 : Int32)).toNatClampNeg), .int (xs (x15 + (3 : Int32)).toNatClampNeg)]) (rest := []) hC hR hS (c_X10_night l G n q1 (xs (x15 + (1 : Int32)).toNatClampNeg) (xs (x15 + (2 : Int32)).toNatClampNeg) (xs (x15 + (3 : Int32)).toNatClampNeg) S16 x248 S245 hc246 ok_q1) ok_q1 rfl ⟨Nat.le_of_ble_eq_true rfl, Nat.le_of_ble_eq_true rfl⟩ hl.1 rfl (Nat.le_of_ble_eq_true rfl) dL_law_755 (by first | exact Nat.le_trans (Nat.le_add_right _ 6) hcb.1 | exact hcb.1) (by first | exact Nat.le_trans (Nat.le_add_right _ 390) hcb.2.1 | exact hcb.2.1) (fun H locs hR hS hE247 => ?_)
                                            have ok_q1 := hE247 _ _ ok_q1
                                            have ok_q7 := hE247 _ _ ok_q7
                                            have hE := hE.tr hE247
                                            refine lv_aload_n hx hb dL_law_758 rfl (lv_at hl 2 rfl) ?_
                                            refine lv_aload_n hx hb dL_law_759 rfl (lv_at hl 0 rfl) ?_
                                            refine lv_iload_n hx hb dL_law_760 rfl (lv_at hl 3 rfl) ?_
                                            refine lv_iconst (v := 1) hx hb dL_law_761 (by decide) ?_
                                            refine lv_iadd hx hb dL_law_762 ?_
                                            obtain ⟨hi249, hf⟩ := ck_of hf
                                            refine va_sld hx hb hX hbl hbA hS (inb_in hi249) dL_law_763 ?_
                                            refine lv_aload_n hx hb dL_law_764 rfl (lv_at hl 0 rfl) ?_
                                            refine lv_iload_n hx hb dL_law_765 rfl (lv_at hl 3 rfl) ?_
                                            refine lv_iconst (v := 2) hx hb dL_law_766 (by decide) ?_
                                            refine lv_iadd hx hb dL_law_767 ?_
                                            obtain ⟨hi250, hf⟩ := ck_of hf
                                            refine va_sld hx hb hX hbl hbA hS (inb_in hi250) dL_law_768 ?_
                                            refine lv_aload_n hx hb dL_law_769 rfl (lv_at hl 0 rfl) ?_
                                            refine lv_iload_n hx hb dL_law_770 rfl (lv_at hl 3 rfl) ?_
                                            refine lv_iconst (v := 3) hx hb dL_law_771 (by decide) ?_
                                            refine lv_iadd hx hb dL_law_772 ?_
                                            obtain ⟨hi251, hf⟩ := ck_of hf
                                            refine va_sld hx hb hX hbl hbA hS (inb_in hi251) dL_law_773 ?_
                                            obtain ⟨x255, S252, hc253, hf⟩ := cl_of hf
                                            refine cl_RL_100 (As := [.int (xs (x15 + (1 : Int32)).toNatClampNeg), .int (xs (x15 + (2 : Int32)).toNatClampNeg), .int (xs (x15 + (3 : Int32)).toNatClampNeg)]) (rest := [.int x248]) hC hR hS (c_X11_night l G n q7 (xs (x15 + (1 : Int32)).toNatClampNeg) (xs (x15 + (2 : Int32)).toNatClampNeg) (xs (x15 + (3 : Int32)).toNatClampNeg) S245 x255 S252 hc253 ok_q7) ok_q7 rfl ⟨Nat.le_of_ble_eq_true rfl, Nat.le_of_ble_eq_true rfl⟩ hl.1 rfl (Nat.le_of_ble_eq_true rfl) dL_law_774 (by first | exact Nat.le_trans (Nat.le_add_right _ 6) hcb.1 | exact hcb.1) (by first | exact Nat.le_trans (Nat.le_add_right _ 390) hcb.2.1 | exact hcb.2.1) (fun H locs hR hS hE254 => ?_)
                                            have ok_q1 := hE254 _ _ ok_q1
                                            have ok_q7 := hE254 _ _ ok_q7
                                            have hE := hE.tr hE254
                                            refine lv_icmp_eq (tgt := 1161) hx hb dL_law_777 (by decide) (fun hc => ?_) (fun hc => ?_)
                                            · replace hf := if_t hf hc
                                              refine W.widen (k := (97 + 6 * (j + 1))) (n := (9627 + 390 * (j + 1))) (by first | exact Nat.le_trans (Nat.le_add_right _ 6) (show 97 + 6 * j + 6 ≤ 97 + 6 * (j + 1) by omega) | exact (show 97 + 6 * j + 6 ≤ 97 + 6 * (j + 1) by omega)) (by first | exact Nat.le_trans (Nat.le_add_right _ 390) (show 9627 + 390 * j + 390 ≤ 9627 + 390 * (j + 1) by omega) | exact (show 9627 + 390 * j + 390 ≤ 9627 + 390 * (j + 1) by omega)) ?_
                                              exact hj1161_19 S252 _ _ _ hf hR hS hE ok_q1 ok_q7 (lv_sub hl [0, 1, 2, 3] rfl)
                                            · replace hf := if_f hf hc
                                              refine lv_iconst (v := 0) hx hb dL_law_780 (by decide) ?_
                                              exact absurd hf no_zero
                                          · replace hf := if_f hf hc17
                                            by_cases hc18 : x18 = (18 : Int32)
                                            · replace hf := if_t hf hc18
                                              rw [hc18]
                                              refine lv_tableIn (tgt := 782) hx hb dL_law_53 (by decide) (by decide) rfl (by decide) ?_
                                              refine lv_aload_n hx hb dL_law_782 rfl (lv_at hl 1 rfl) ?_
                                              refine lv_aload_n hx hb dL_law_783 rfl (lv_at hl 0 rfl) ?_
                                              refine lv_iload_n hx hb dL_law_784 rfl (lv_at hl 3 rfl) ?_
                                              refine lv_iconst (v := 1) hx hb dL_law_785 (by decide) ?_
                                              refine lv_iadd hx hb dL_law_786 ?_
                                              obtain ⟨hi256, hf⟩ := ck_of hf
                                              refine va_sld hx hb hX hbl hbA hS (inb_in hi256) dL_law_787 ?_
                                              refine lv_aload_n hx hb dL_law_788 rfl (lv_at hl 0 rfl) ?_
                                              refine lv_iload_n hx hb dL_law_789 rfl (lv_at hl 3 rfl) ?_
                                              refine lv_iconst (v := 2) hx hb dL_law_790 (by decide) ?_
                                              refine lv_iadd hx hb dL_law_791 ?_
                                              obtain ⟨hi257, hf⟩ := ck_of hf
                                              refine va_sld hx hb hX hbl hbA hS (inb_in hi257) dL_law_792 ?_
                                              refine lv_aload_n hx hb dL_law_793 rfl (lv_at hl 0 rfl) ?_
                                              refine lv_iload_n hx hb dL_law_794 rfl (lv_at hl 3 rfl) ?_
                                              refine lv_iconst (v := 3) hx hb dL_law_795 (by decide) ?_
                                              refine lv_iadd hx hb dL_law_796 ?_
                                              obtain ⟨hi258, hf⟩ := ck_of hf
                                              refine va_sld hx hb hX hbl hbA hS (inb_in hi258) dL_law_797 ?_
                                              obtain ⟨x262, S259, hc260, hf⟩ := cl_of hf
                                              refine cl_RL_101 (As := [.int (xs (x15 + (1 : Int32)).toNatClampNeg), .int (xs (x15 + (2 : Int32)).toNatClampNeg), .int (xs (x15 + (3 : Int32)).toNatClampNeg)]) (rest := []) hC hR hS (c_X10_odds l G n q1 (xs (x15 + (1 : Int32)).toNatClampNeg) (xs (x15 + (2 : Int32)).toNatClampNeg) (xs (x15 + (3 : Int32)).toNatClampNeg) S16 x262 S259 hc260 ok_q1) ok_q1 rfl ⟨Nat.le_of_ble_eq_true rfl, Nat.le_of_ble_eq_true rfl⟩ hl.1 rfl (Nat.le_of_ble_eq_true rfl) dL_law_798 (by first | exact Nat.le_trans (Nat.le_add_right _ 6) hcb.1 | exact hcb.1) (by first | exact Nat.le_trans (Nat.le_add_right _ 390) hcb.2.1 | exact hcb.2.1) (fun H locs hR hS hE261 => ?_)
                                              have ok_q1 := hE261 _ _ ok_q1
                                              have ok_q7 := hE261 _ _ ok_q7
                                              have hE := hE.tr hE261
                                              refine lv_aload_n hx hb dL_law_801 rfl (lv_at hl 2 rfl) ?_
                                              refine lv_aload_n hx hb dL_law_802 rfl (lv_at hl 0 rfl) ?_
                                              refine lv_iload_n hx hb dL_law_803 rfl (lv_at hl 3 rfl) ?_
                                              refine lv_iconst (v := 1) hx hb dL_law_804 (by decide) ?_
                                              refine lv_iadd hx hb dL_law_805 ?_
                                              obtain ⟨hi263, hf⟩ := ck_of hf
                                              refine va_sld hx hb hX hbl hbA hS (inb_in hi263) dL_law_806 ?_
                                              refine lv_aload_n hx hb dL_law_807 rfl (lv_at hl 0 rfl) ?_
                                              refine lv_iload_n hx hb dL_law_808 rfl (lv_at hl 3 rfl) ?_
                                              refine lv_iconst (v := 2) hx hb dL_law_809 (by decide) ?_
                                              refine lv_iadd hx hb dL_law_810 ?_
                                              obtain ⟨hi264, hf⟩ := ck_of hf
                                              refine va_sld hx hb hX hbl hbA hS (inb_in hi264) dL_law_811 ?_
                                              refine lv_aload_n hx hb dL_law_812 rfl (lv_at hl 0 rfl) ?_
                                              refine lv_iload_n hx hb dL_law_813 rfl (lv_at hl 3 rfl) ?_
                                              refine lv_iconst (v := 3) hx hb dL_law_814 (by decide) ?_
                                              refine lv_iadd hx hb dL_law_815 ?_
                                              obtain ⟨hi265, hf⟩ := ck_of hf
                                              refine va_sld hx hb hX hbl hbA hS (inb_in hi265) dL_law_816 ?_
                                              obtain ⟨x269, S266, hc267, hf⟩ := cl_of hf
                                              refine cl_RL_104 (As := [.int (xs (x15 + (1 : Int32)).toNatClampNeg), .int (xs (x15 + (2 : Int32)).toNatClampNeg), .int (xs (x15 + (3 : Int32)).toNatClampNeg)]) (rest := [.int x262]) hC hR hS (c_X11_odds l G n q7 (xs (x15 + (1 : Int32)).toNatClampNeg) (xs (x15 + (2 : Int32)).toNatClampNeg) (xs (x15 + (3 : Int32)).toNatClampNeg) S259 x269 S266 hc267 ok_q7) ok_q7 rfl ⟨Nat.le_of_ble_eq_true rfl, Nat.le_of_ble_eq_true rfl⟩ hl.1 rfl (Nat.le_of_ble_eq_true rfl) dL_law_817 (by first | exact Nat.le_trans (Nat.le_add_right _ 6) hcb.1 | exact hcb.1) (by first | exact Nat.le_trans (Nat.le_add_right _ 390) hcb.2.1 | exact hcb.2.1) (fun H locs hR hS hE268 => ?_)
                                              have ok_q1 := hE268 _ _ ok_q1
                                              have ok_q7 := hE268 _ _ ok_q7
                                              have hE := hE.tr hE268
                                              refine lv_icmp_eq (tgt := 1161) hx hb dL_law_820 (by decide) (fun hc => ?_) (fun hc => ?_)
                                              · replace hf := if_t hf hc
                                                refine W.widen (k := (97 + 6 * (j + 1))) (n := (9627 + 390 * (j + 1))) (by first | exact Nat.le_trans (Nat.le_add_right _ 6) (show 97 + 6 * j + 6 ≤ 97 + 6 * (j + 1) by omega) | exact (show 97 + 6 * j + 6 ≤ 97 + 6 * (j + 1) by omega)) (by first | exact Nat.le_trans (Nat.le_add_right _ 390) (show 9627 + 390 * j + 390 ≤ 9627 + 390 * (j + 1) by omega) | exact (show 9627 + 390 * j + 390 ≤ 9627 + 390 * (j + 1) by omega)) ?_
                                                exact hj1161_19 S266 _ _ _ hf hR hS hE ok_q1 ok_q7 (lv_sub hl [0, 1, 2, 3] rfl)
                                              · replace hf := if_f hf hc
                                                refine lv_iconst (v := 0) hx hb dL_law_823 (by decide) ?_
                                                exact absurd hf no_zero
                                            · replace hf := if_f hf hc18
                                              by_cases hc19 : x18 = (19 : Int32)
                                              · replace hf := if_t hf hc19
                                                rw [hc19]
                                                refine lv_tableIn (tgt := 825) hx hb dL_law_53 (by decide) (by decide) rfl (by decide) ?_
                                                refine lv_aload_n hx hb dL_law_825 rfl (lv_at hl 1 rfl) ?_
                                                refine lv_aload_n hx hb dL_law_826 rfl (lv_at hl 0 rfl) ?_
                                                refine lv_iload_n hx hb dL_law_827 rfl (lv_at hl 3 rfl) ?_
                                                refine lv_iconst (v := 1) hx hb dL_law_828 (by decide) ?_
                                                refine lv_iadd hx hb dL_law_829 ?_
                                                obtain ⟨hi270, hf⟩ := ck_of hf
                                                refine va_sld hx hb hX hbl hbA hS (inb_in hi270) dL_law_830 ?_
                                                refine lv_aload_n hx hb dL_law_831 rfl (lv_at hl 0 rfl) ?_
                                                refine lv_iload_n hx hb dL_law_832 rfl (lv_at hl 3 rfl) ?_
                                                refine lv_iconst (v := 2) hx hb dL_law_833 (by decide) ?_
                                                refine lv_iadd hx hb dL_law_834 ?_
                                                obtain ⟨hi271, hf⟩ := ck_of hf
                                                refine va_sld hx hb hX hbl hbA hS (inb_in hi271) dL_law_835 ?_
                                                obtain ⟨x275, S272, hc273, hf⟩ := cl_of hf
                                                refine cl_RL_105 (As := [.int (xs (x15 + (1 : Int32)).toNatClampNeg), .int (xs (x15 + (2 : Int32)).toNatClampNeg)]) (rest := []) hC hR hS (c_X10_mean l G n q1 (xs (x15 + (1 : Int32)).toNatClampNeg) (xs (x15 + (2 : Int32)).toNatClampNeg) S16 x275 S272 hc273 ok_q1) ok_q1 rfl ⟨Nat.le_of_ble_eq_true rfl, Nat.le_of_ble_eq_true rfl⟩ hl.1 rfl (Nat.le_of_ble_eq_true rfl) dL_law_836 (by first | exact Nat.le_trans (Nat.le_add_right _ 6) hcb.1 | exact hcb.1) (by first | exact Nat.le_trans (Nat.le_add_right _ 390) hcb.2.1 | exact hcb.2.1) (fun H locs hR hS hE274 => ?_)
                                                have ok_q1 := hE274 _ _ ok_q1
                                                have ok_q7 := hE274 _ _ ok_q7
                                                have hE := hE.tr hE274
                                                refine lv_aload_n hx hb dL_law_839 rfl (lv_at hl 2 rfl) ?_
                                                refine lv_aload_n hx hb dL_law_840 rfl (lv_at hl 0 rfl) ?_
                                                refine lv_iload_n hx hb dL_law_841 rfl (lv_at hl 3 rfl) ?_
                                                refine lv_iconst (v := 1) hx hb dL_law_842 (by decide) ?_
                                                refine lv_iadd hx hb dL_law_843 ?_
                                                obtain ⟨hi276, hf⟩ := ck_of hf
                                                refine va_sld hx hb hX hbl hbA hS (inb_in hi276) dL_law_844 ?_
                                                refine lv_aload_n hx hb dL_law_845 rfl (lv_at hl 0 rfl) ?_
                                                refine lv_iload_n hx hb dL_law_846 rfl (lv_at hl 3 rfl) ?_
                                                refine lv_iconst (v := 2) hx hb dL_law_847 (by decide) ?_
                                                refine lv_iadd hx hb dL_law_848 ?_
                                                obtain ⟨hi277, hf⟩ := ck_of hf
                                                refine va_sld hx hb hX hbl hbA hS (inb_in hi277) dL_law_849 ?_
                                                obtain ⟨x281, S278, hc279, hf⟩ := cl_of hf
                                                refine cl_RL_108 (As := [.int (xs (x15 + (1 : Int32)).toNatClampNeg), .int (xs (x15 + (2 : Int32)).toNatClampNeg)]) (rest := [.int x275]) hC hR hS (c_X11_mean l G n q7 (xs (x15 + (1 : Int32)).toNatClampNeg) (xs (x15 + (2 : Int32)).toNatClampNeg) S272 x281 S278 hc279 ok_q7) ok_q7 rfl ⟨Nat.le_of_ble_eq_true rfl, Nat.le_of_ble_eq_true rfl⟩ hl.1 rfl (Nat.le_of_ble_eq_true rfl) dL_law_850 (by first | exact Nat.le_trans (Nat.le_add_right _ 6) hcb.1 | exact hcb.1) (by first | exact Nat.le_trans (Nat.le_add_right _ 390) hcb.2.1 | exact hcb.2.1) (fun H locs hR hS hE280 => ?_)
                                                have ok_q1 := hE280 _ _ ok_q1
                                                have ok_q7 := hE280 _ _ ok_q7
                                                have hE := hE.tr hE280
                                                refine lv_icmp_eq (tgt := 1161) hx hb dL_law_853 (by decide) (fun hc => ?_) (fun hc => ?_)
                                                · replace hf := if_t hf hc
                                                  refine W.widen (k := (97 + 6 * (j + 1))) (n := (9627 + 390 * (j + 1))) (by first | exact Nat.le_trans (Nat.le_add_right _ 6) (show 97 + 6 * j + 6 ≤ 97 + 6 * (j + 1) by omega) | exact (show 97 + 6 * j + 6 ≤ 97 + 6 * (j + 1) by omega)) (by first | exact Nat.le_trans (Nat.le_add_right _ 390) (show 9627 + 390 * j + 390 ≤ 9627 + 390 * (j + 1) by omega) | exact (show 9627 + 390 * j + 390 ≤ 9627 + 390 * (j + 1) by omega)) ?_
                                                  exact hj1161_19 S278 _ _ _ hf hR hS hE ok_q1 ok_q7 (lv_sub hl [0, 1, 2, 3] rfl)
                                                · replace hf := if_f hf hc
                                                  refine lv_iconst (v := 0) hx hb dL_law_856 (by decide) ?_
                                                  exact absurd hf no_zero
                                              · replace hf := if_f hf hc19
                                                by_cases hc20 : x18 = (20 : Int32)
                                                · replace hf := if_t hf hc20
                                                  rw [hc20]
                                                  refine lv_tableIn (tgt := 858) hx hb dL_law_53 (by decide) (by decide) rfl (by decide) ?_
                                                  refine lv_aload_n hx hb dL_law_858 rfl (lv_at hl 1 rfl) ?_
                                                  refine lv_aload_n hx hb dL_law_859 rfl (lv_at hl 0 rfl) ?_
                                                  refine lv_iload_n hx hb dL_law_860 rfl (lv_at hl 3 rfl) ?_
                                                  refine lv_iconst (v := 1) hx hb dL_law_861 (by decide) ?_
                                                  refine lv_iadd hx hb dL_law_862 ?_
                                                  obtain ⟨hi282, hf⟩ := ck_of hf
                                                  refine va_sld hx hb hX hbl hbA hS (inb_in hi282) dL_law_863 ?_
                                                  refine lv_aload_n hx hb dL_law_864 rfl (lv_at hl 0 rfl) ?_
                                                  refine lv_iload_n hx hb dL_law_865 rfl (lv_at hl 3 rfl) ?_
                                                  refine lv_iconst (v := 2) hx hb dL_law_866 (by decide) ?_
                                                  refine lv_iadd hx hb dL_law_867 ?_
                                                  obtain ⟨hi283, hf⟩ := ck_of hf
                                                  refine va_sld hx hb hX hbl hbA hS (inb_in hi283) dL_law_868 ?_
                                                  refine lv_aload_n hx hb dL_law_869 rfl (lv_at hl 0 rfl) ?_
                                                  refine lv_iload_n hx hb dL_law_870 rfl (lv_at hl 3 rfl) ?_
                                                  refine lv_iconst (v := 3) hx hb dL_law_871 (by decide) ?_
                                                  refine lv_iadd hx hb dL_law_872 ?_
                                                  obtain ⟨hi284, hf⟩ := ck_of hf
                                                  refine va_sld hx hb hX hbl hbA hS (inb_in hi284) dL_law_873 ?_
                                                  obtain ⟨x288, S285, hc286, hf⟩ := cl_of hf
                                                  refine cl_RL_109 (As := [.int (xs (x15 + (1 : Int32)).toNatClampNeg), .int (xs (x15 + (2 : Int32)).toNatClampNeg), .int (xs (x15 + (3 : Int32)).toNatClampNeg)]) (rest := []) hC hR hS (c_X10_best l G n q1 (xs (x15 + (1 : Int32)).toNatClampNeg) (xs (x15 + (2 : Int32)).toNatClampNeg) (xs (x15 + (3 : Int32)).toNatClampNeg) S16 x288 S285 hc286 ok_q1) ok_q1 rfl ⟨Nat.le_of_ble_eq_true rfl, Nat.le_of_ble_eq_true rfl⟩ hl.1 rfl (Nat.le_of_ble_eq_true rfl) dL_law_874 (by first | exact Nat.le_trans (Nat.le_add_right _ 6) hcb.1 | exact hcb.1) (by first | exact Nat.le_trans (Nat.le_add_right _ 390) hcb.2.1 | exact hcb.2.1) (fun H locs hR hS hE287 => ?_)
                                                  have ok_q1 := hE287 _ _ ok_q1
                                                  have ok_q7 := hE287 _ _ ok_q7
                                                  have hE := hE.tr hE287
                                                  refine lv_aload_n hx hb dL_law_877 rfl (lv_at hl 2 rfl) ?_
                                                  refine lv_aload_n hx hb dL_law_878 rfl (lv_at hl 0 rfl) ?_
                                                  refine lv_iload_n hx hb dL_law_879 rfl (lv_at hl 3 rfl) ?_
                                                  refine lv_iconst (v := 1) hx hb dL_law_880 (by decide) ?_
                                                  refine lv_iadd hx hb dL_law_881 ?_
                                                  obtain ⟨hi289, hf⟩ := ck_of hf
                                                  refine va_sld hx hb hX hbl hbA hS (inb_in hi289) dL_law_882 ?_
                                                  refine lv_aload_n hx hb dL_law_883 rfl (lv_at hl 0 rfl) ?_
                                                  refine lv_iload_n hx hb dL_law_884 rfl (lv_at hl 3 rfl) ?_
                                                  refine lv_iconst (v := 2) hx hb dL_law_885 (by decide) ?_
                                                  refine lv_iadd hx hb dL_law_886 ?_
                                                  obtain ⟨hi290, hf⟩ := ck_of hf
                                                  refine va_sld hx hb hX hbl hbA hS (inb_in hi290) dL_law_887 ?_
                                                  refine lv_aload_n hx hb dL_law_888 rfl (lv_at hl 0 rfl) ?_
                                                  refine lv_iload_n hx hb dL_law_889 rfl (lv_at hl 3 rfl) ?_
                                                  refine lv_iconst (v := 3) hx hb dL_law_890 (by decide) ?_
                                                  refine lv_iadd hx hb dL_law_891 ?_
                                                  obtain ⟨hi291, hf⟩ := ck_of hf
                                                  refine va_sld hx hb hX hbl hbA hS (inb_in hi291) dL_law_892 ?_
                                                  obtain ⟨x295, S292, hc293, hf⟩ := cl_of hf
                                                  refine cl_RL_112 (As := [.int (xs (x15 + (1 : Int32)).toNatClampNeg), .int (xs (x15 + (2 : Int32)).toNatClampNeg), .int (xs (x15 + (3 : Int32)).toNatClampNeg)]) (rest := [.int x288]) hC hR hS (c_X11_best l G n q7 (xs (x15 + (1 : Int32)).toNatClampNeg) (xs (x15 + (2 : Int32)).toNatClampNeg) (xs (x15 + (3 : Int32)).toNatClampNeg) S285 x295 S292 hc293 ok_q7) ok_q7 rfl ⟨Nat.le_of_ble_eq_true rfl, Nat.le_of_ble_eq_true rfl⟩ hl.1 rfl (Nat.le_of_ble_eq_true rfl) dL_law_893 (by first | exact Nat.le_trans (Nat.le_add_right _ 6) hcb.1 | exact hcb.1) (by first | exact Nat.le_trans (Nat.le_add_right _ 390) hcb.2.1 | exact hcb.2.1) (fun H locs hR hS hE294 => ?_)
                                                  have ok_q1 := hE294 _ _ ok_q1
                                                  have ok_q7 := hE294 _ _ ok_q7
                                                  have hE := hE.tr hE294
                                                  refine lv_icmp_eq (tgt := 1161) hx hb dL_law_896 (by decide) (fun hc => ?_) (fun hc => ?_)
                                                  · replace hf := if_t hf hc
                                                    refine W.widen (k := (97 + 6 * (j + 1))) (n := (9627 + 390 * (j + 1))) (by first | exact Nat.le_trans (Nat.le_add_right _ 6) (show 97 + 6 * j + 6 ≤ 97 + 6 * (j + 1) by omega) | exact (show 97 + 6 * j + 6 ≤ 97 + 6 * (j + 1) by omega)) (by first | exact Nat.le_trans (Nat.le_add_right _ 390) (show 9627 + 390 * j + 390 ≤ 9627 + 390 * (j + 1) by omega) | exact (show 9627 + 390 * j + 390 ≤ 9627 + 390 * (j + 1) by omega)) ?_
                                                    exact hj1161_19 S292 _ _ _ hf hR hS hE ok_q1 ok_q7 (lv_sub hl [0, 1, 2, 3] rfl)
                                                  · replace hf := if_f hf hc
                                                    refine lv_iconst (v := 0) hx hb dL_law_899 (by decide) ?_
                                                    exact absurd hf no_zero
                                                · replace hf := if_f hf hc20
                                                  by_cases hc21 : x18 = (21 : Int32)
                                                  · replace hf := if_t hf hc21
                                                    rw [hc21]
                                                    refine lv_tableIn (tgt := 901) hx hb dL_law_53 (by decide) (by decide) rfl (by decide) ?_
                                                    refine lv_aload_n hx hb dL_law_901 rfl (lv_at hl 1 rfl) ?_
                                                    refine lv_aload_n hx hb dL_law_902 rfl (lv_at hl 0 rfl) ?_
                                                    refine lv_iload_n hx hb dL_law_903 rfl (lv_at hl 3 rfl) ?_
                                                    refine lv_iconst (v := 1) hx hb dL_law_904 (by decide) ?_
                                                    refine lv_iadd hx hb dL_law_905 ?_
                                                    obtain ⟨hi296, hf⟩ := ck_of hf
                                                    refine va_sld hx hb hX hbl hbA hS (inb_in hi296) dL_law_906 ?_
                                                    refine lv_aload_n hx hb dL_law_907 rfl (lv_at hl 0 rfl) ?_
                                                    refine lv_iload_n hx hb dL_law_908 rfl (lv_at hl 3 rfl) ?_
                                                    refine lv_iconst (v := 2) hx hb dL_law_909 (by decide) ?_
                                                    refine lv_iadd hx hb dL_law_910 ?_
                                                    obtain ⟨hi297, hf⟩ := ck_of hf
                                                    refine va_sld hx hb hX hbl hbA hS (inb_in hi297) dL_law_911 ?_
                                                    refine lv_aload_n hx hb dL_law_912 rfl (lv_at hl 0 rfl) ?_
                                                    refine lv_iload_n hx hb dL_law_913 rfl (lv_at hl 3 rfl) ?_
                                                    refine lv_iconst (v := 3) hx hb dL_law_914 (by decide) ?_
                                                    refine lv_iadd hx hb dL_law_915 ?_
                                                    obtain ⟨hi298, hf⟩ := ck_of hf
                                                    refine va_sld hx hb hX hbl hbA hS (inb_in hi298) dL_law_916 ?_
                                                    obtain ⟨x302, S299, hc300, hf⟩ := cl_of hf
                                                    refine cl_RL_113 (As := [.int (xs (x15 + (1 : Int32)).toNatClampNeg), .int (xs (x15 + (2 : Int32)).toNatClampNeg), .int (xs (x15 + (3 : Int32)).toNatClampNeg)]) (rest := []) hC hR hS (c_X10_time l G n q1 (xs (x15 + (1 : Int32)).toNatClampNeg) (xs (x15 + (2 : Int32)).toNatClampNeg) (xs (x15 + (3 : Int32)).toNatClampNeg) S16 x302 S299 hc300 ok_q1) ok_q1 rfl ⟨Nat.le_of_ble_eq_true rfl, Nat.le_of_ble_eq_true rfl⟩ hl.1 rfl (Nat.le_of_ble_eq_true rfl) dL_law_917 (by first | exact Nat.le_trans (Nat.le_add_right _ 6) hcb.1 | exact hcb.1) (by first | exact Nat.le_trans (Nat.le_add_right _ 390) hcb.2.1 | exact hcb.2.1) (fun H locs hR hS hE301 => ?_)
                                                    have ok_q1 := hE301 _ _ ok_q1
                                                    have ok_q7 := hE301 _ _ ok_q7
                                                    have hE := hE.tr hE301
                                                    refine lv_aload_n hx hb dL_law_920 rfl (lv_at hl 2 rfl) ?_
                                                    refine lv_aload_n hx hb dL_law_921 rfl (lv_at hl 0 rfl) ?_
                                                    refine lv_iload_n hx hb dL_law_922 rfl (lv_at hl 3 rfl) ?_
                                                    refine lv_iconst (v := 1) hx hb dL_law_923 (by decide) ?_
                                                    refine lv_iadd hx hb dL_law_924 ?_
                                                    obtain ⟨hi303, hf⟩ := ck_of hf
                                                    refine va_sld hx hb hX hbl hbA hS (inb_in hi303) dL_law_925 ?_
                                                    refine lv_aload_n hx hb dL_law_926 rfl (lv_at hl 0 rfl) ?_
                                                    refine lv_iload_n hx hb dL_law_927 rfl (lv_at hl 3 rfl) ?_
                                                    refine lv_iconst (v := 2) hx hb dL_law_928 (by decide) ?_
                                                    refine lv_iadd hx hb dL_law_929 ?_
                                                    obtain ⟨hi304, hf⟩ := ck_of hf
                                                    refine va_sld hx hb hX hbl hbA hS (inb_in hi304) dL_law_930 ?_
                                                    refine lv_aload_n hx hb dL_law_931 rfl (lv_at hl 0 rfl) ?_
                                                    refine lv_iload_n hx hb dL_law_932 rfl (lv_at hl 3 rfl) ?_
                                                    refine lv_iconst (v := 3) hx hb dL_law_933 (by decide) ?_
                                                    refine lv_iadd hx hb dL_law_934 ?_
                                                    obtain ⟨hi305, hf⟩ := ck_of hf
                                                    refine va_sld hx hb hX hbl hbA hS (inb_in hi305) dL_law_935 ?_
                                                    obtain ⟨x309, S306, hc307, hf⟩ := cl_of hf
                                                    refine cl_RL_116 (As := [.int (xs (x15 + (1 : Int32)).toNatClampNeg), .int (xs (x15 + (2 : Int32)).toNatClampNeg), .int (xs (x15 + (3 : Int32)).toNatClampNeg)]) (rest := [.int x302]) hC hR hS (c_X11_time l G n q7 (xs (x15 + (1 : Int32)).toNatClampNeg) (xs (x15 + (2 : Int32)).toNatClampNeg) (xs (x15 + (3 : Int32)).toNatClampNeg) S299 x309 S306 hc307 ok_q7) ok_q7 rfl ⟨Nat.le_of_ble_eq_true rfl, Nat.le_of_ble_eq_true rfl⟩ hl.1 rfl (Nat.le_of_ble_eq_true rfl) dL_law_936 (by first | exact Nat.le_trans (Nat.le_add_right _ 6) hcb.1 | exact hcb.1) (by first | exact Nat.le_trans (Nat.le_add_right _ 390) hcb.2.1 | exact hcb.2.1) (fun H locs hR hS hE308 => ?_)
                                                    have ok_q1 := hE308 _ _ ok_q1
                                                    have ok_q7 := hE308 _ _ ok_q7
                                                    have hE := hE.tr hE308
                                                    refine lv_icmp_eq (tgt := 1161) hx hb dL_law_939 (by decide) (fun hc => ?_) (fun hc => ?_)
                                                    · replace hf := if_t hf hc
                                                      refine W.widen (k := (97 + 6 * (j + 1))) (n := (9627 + 390 * (j + 1))) (by first | exact Nat.le_trans (Nat.le_add_right _ 6) (show 97 + 6 * j + 6 ≤ 97 + 6 * (j + 1) by omega) | exact (show 97 + 6 * j + 6 ≤ 97 + 6 * (j + 1) by omega)) (by first | exact Nat.le_trans (Nat.le_add_right _ 390) (show 9627 + 390 * j + 390 ≤ 9627 + 390 * (j + 1) by omega) | exact (show 9627 + 390 * j + 390 ≤ 9627 + 390 * (j + 1) by omega)) ?_
                                                      exact hj1161_19 S306 _ _ _ hf hR hS hE ok_q1 ok_q7 (lv_sub hl [0, 1, 2, 3] rfl)
                                                    · replace hf := if_f hf hc
                                                      refine lv_iconst (v := 0) hx hb dL_law_942 (by decide) ?_
                                                      exact absurd hf no_zero
                                                  · replace hf := if_f hf hc21
                                                    by_cases hc22 : x18 = (22 : Int32)
                                                    · replace hf := if_t hf hc22
                                                      rw [hc22]
                                                      refine lv_tableIn (tgt := 944) hx hb dL_law_53 (by decide) (by decide) rfl (by decide) ?_
                                                      refine lv_aload_n hx hb dL_law_944 rfl (lv_at hl 1 rfl) ?_
                                                      refine lv_aload_n hx hb dL_law_945 rfl (lv_at hl 0 rfl) ?_
                                                      refine lv_iload_n hx hb dL_law_946 rfl (lv_at hl 3 rfl) ?_
                                                      refine lv_iconst (v := 1) hx hb dL_law_947 (by decide) ?_
                                                      refine lv_iadd hx hb dL_law_948 ?_
                                                      obtain ⟨hi310, hf⟩ := ck_of hf
                                                      refine va_sld hx hb hX hbl hbA hS (inb_in hi310) dL_law_949 ?_
                                                      refine lv_aload_n hx hb dL_law_950 rfl (lv_at hl 0 rfl) ?_
                                                      refine lv_iload_n hx hb dL_law_951 rfl (lv_at hl 3 rfl) ?_
                                                      refine lv_iconst (v := 2) hx hb dL_law_952 (by decide) ?_
                                                      refine lv_iadd hx hb dL_law_953 ?_
                                                      obtain ⟨hi311, hf⟩ := ck_of hf
                                                      refine va_sld hx hb hX hbl hbA hS (inb_in hi311) dL_law_954 ?_
                                                      refine lv_aload_n hx hb dL_law_955 rfl (lv_at hl 0 rfl) ?_
                                                      refine lv_iload_n hx hb dL_law_956 rfl (lv_at hl 3 rfl) ?_
                                                      refine lv_iconst (v := 3) hx hb dL_law_957 (by decide) ?_
                                                      refine lv_iadd hx hb dL_law_958 ?_
                                                      obtain ⟨hi312, hf⟩ := ck_of hf
                                                      refine va_sld hx hb hX hbl hbA hS (inb_in hi312) dL_law_959 ?_
                                                      refine lv_aload_n hx hb dL_law_960 rfl (lv_at hl 0 rfl) ?_
                                                      refine lv_iload_n hx hb dL_law_961 rfl (lv_at hl 3 rfl) ?_
                                                      refine lv_iconst (v := 4) hx hb dL_law_962 (by decide) ?_
                                                      refine lv_iadd hx hb dL_law_963 ?_
                                                      obtain ⟨hi313, hf⟩ := ck_of hf
                                                      refine va_sld hx hb hX hbl hbA hS (inb_in hi313) dL_law_964 ?_
                                                      obtain ⟨x317, S314, hc315, hf⟩ := cl_of hf
                                                      refine cl_RL_117 (As := [.int (xs (x15 + (1 : Int32)).toNatClampNeg), .int (xs (x15 + (2 : Int32)).toNatClampNeg), .int (xs (x15 + (3 : Int32)).toNatClampNeg), .int (xs (x15 + (4 : Int32)).toNatClampNeg)]) (rest := []) hC hR hS (c_X10_keeps l G n q1 (xs (x15 + (1 : Int32)).toNatClampNeg) (xs (x15 + (2 : Int32)).toNatClampNeg) (xs (x15 + (3 : Int32)).toNatClampNeg) (xs (x15 + (4 : Int32)).toNatClampNeg) S16 x317 S314 hc315 ok_q1) ok_q1 rfl ⟨Nat.le_of_ble_eq_true rfl, Nat.le_of_ble_eq_true rfl⟩ hl.1 rfl (Nat.le_of_ble_eq_true rfl) dL_law_965 (by first | exact Nat.le_trans (Nat.le_add_right _ 6) hcb.1 | exact hcb.1) (by first | exact Nat.le_trans (Nat.le_add_right _ 390) hcb.2.1 | exact hcb.2.1) (fun H locs hR hS hE316 => ?_)
                                                      have ok_q1 := hE316 _ _ ok_q1
                                                      have ok_q7 := hE316 _ _ ok_q7
                                                      have hE := hE.tr hE316
                                                      refine lv_aload_n hx hb dL_law_968 rfl (lv_at hl 2 rfl) ?_
                                                      refine lv_aload_n hx hb dL_law_969 rfl (lv_at hl 0 rfl) ?_
                                                      refine lv_iload_n hx hb dL_law_970 rfl (lv_at hl 3 rfl) ?_
                                                      refine lv_iconst (v := 1) hx hb dL_law_971 (by decide) ?_
                                                      refine lv_iadd hx hb dL_law_972 ?_
                                                      obtain ⟨hi318, hf⟩ := ck_of hf
                                                      refine va_sld hx hb hX hbl hbA hS (inb_in hi318) dL_law_973 ?_
                                                      refine lv_aload_n hx hb dL_law_974 rfl (lv_at hl 0 rfl) ?_
                                                      refine lv_iload_n hx hb dL_law_975 rfl (lv_at hl 3 rfl) ?_
                                                      refine lv_iconst (v := 2) hx hb dL_law_976 (by decide) ?_
                                                      refine lv_iadd hx hb dL_law_977 ?_
                                                      obtain ⟨hi319, hf⟩ := ck_of hf
                                                      refine va_sld hx hb hX hbl hbA hS (inb_in hi319) dL_law_978 ?_
                                                      refine lv_aload_n hx hb dL_law_979 rfl (lv_at hl 0 rfl) ?_
                                                      refine lv_iload_n hx hb dL_law_980 rfl (lv_at hl 3 rfl) ?_
                                                      refine lv_iconst (v := 3) hx hb dL_law_981 (by decide) ?_
                                                      refine lv_iadd hx hb dL_law_982 ?_
                                                      obtain ⟨hi320, hf⟩ := ck_of hf
                                                      refine va_sld hx hb hX hbl hbA hS (inb_in hi320) dL_law_983 ?_
                                                      refine lv_aload_n hx hb dL_law_984 rfl (lv_at hl 0 rfl) ?_
                                                      refine lv_iload_n hx hb dL_law_985 rfl (lv_at hl 3 rfl) ?_
                                                      refine lv_iconst (v := 4) hx hb dL_law_986 (by decide) ?_
                                                      refine lv_iadd hx hb dL_law_987 ?_
                                                      obtain ⟨hi321, hf⟩ := ck_of hf
                                                      refine va_sld hx hb hX hbl hbA hS (inb_in hi321) dL_law_988 ?_
                                                      obtain ⟨x325, S322, hc323, hf⟩ := cl_of hf
                                                      refine cl_RL_120 (As := [.int (xs (x15 + (1 : Int32)).toNatClampNeg), .int (xs (x15 + (2 : Int32)).toNatClampNeg), .int (xs (x15 + (3 : Int32)).toNatClampNeg), .int (xs (x15 + (4 : Int32)).toNatClampNeg)]) (rest := [.int x317]) hC hR hS (c_X11_keeps l G n q7 (xs (x15 + (1 : Int32)).toNatClampNeg) (xs (x15 + (2 : Int32)).toNatClampNeg) (xs (x15 + (3 : Int32)).toNatClampNeg) (xs (x15 + (4 : Int32)).toNatClampNeg) S314 x325 S322 hc323 ok_q7) ok_q7 rfl ⟨Nat.le_of_ble_eq_true rfl, Nat.le_of_ble_eq_true rfl⟩ hl.1 rfl (Nat.le_of_ble_eq_true rfl) dL_law_989 (by first | exact Nat.le_trans (Nat.le_add_right _ 6) hcb.1 | exact hcb.1) (by first | exact Nat.le_trans (Nat.le_add_right _ 390) hcb.2.1 | exact hcb.2.1) (fun H locs hR hS hE324 => ?_)
                                                      have ok_q1 := hE324 _ _ ok_q1
                                                      have ok_q7 := hE324 _ _ ok_q7
                                                      have hE := hE.tr hE324
                                                      refine lv_icmp_eq (tgt := 1161) hx hb dL_law_992 (by decide) (fun hc => ?_) (fun hc => ?_)
                                                      · replace hf := if_t hf hc
                                                        refine W.widen (k := (97 + 6 * (j + 1))) (n := (9627 + 390 * (j + 1))) (by first | exact Nat.le_trans (Nat.le_add_right _ 6) (show 97 + 6 * j + 6 ≤ 97 + 6 * (j + 1) by omega) | exact (show 97 + 6 * j + 6 ≤ 97 + 6 * (j + 1) by omega)) (by first | exact Nat.le_trans (Nat.le_add_right _ 390) (show 9627 + 390 * j + 390 ≤ 9627 + 390 * (j + 1) by omega) | exact (show 9627 + 390 * j + 390 ≤ 9627 + 390 * (j + 1) by omega)) ?_
                                                        exact hj1161_19 S322 _ _ _ hf hR hS hE ok_q1 ok_q7 (lv_sub hl [0, 1, 2, 3] rfl)
                                                      · replace hf := if_f hf hc
                                                        refine lv_iconst (v := 0) hx hb dL_law_995 (by decide) ?_
                                                        exact absurd hf no_zero
                                                    · replace hf := if_f hf hc22
                                                      by_cases hc23 : x18 = (23 : Int32)
                                                      · replace hf := if_t hf hc23
                                                        rw [hc23]
                                                        refine lv_tableIn (tgt := 997) hx hb dL_law_53 (by decide) (by decide) rfl (by decide) ?_
                                                        refine lv_aload_n hx hb dL_law_997 rfl (lv_at hl 1 rfl) ?_
                                                        obtain ⟨x329, S326, hc327, hf⟩ := cl_of hf
                                                        refine cl_RL_121 (As := []) (rest := []) hC hR hS (c_X10_calm l G n q1 S16 x329 S326 hc327 ok_q1) ok_q1 rfl ⟨Nat.le_of_ble_eq_true rfl, Nat.le_of_ble_eq_true rfl⟩ hl.1 rfl (Nat.le_of_ble_eq_true rfl) dL_law_998 (by first | exact Nat.le_trans (Nat.le_add_right _ 6) hcb.1 | exact hcb.1) (by first | exact Nat.le_trans (Nat.le_add_right _ 390) hcb.2.1 | exact hcb.2.1) (fun H locs hR hS hE328 => ?_)
                                                        have ok_q1 := hE328 _ _ ok_q1
                                                        have ok_q7 := hE328 _ _ ok_q7
                                                        have hE := hE.tr hE328
                                                        refine lv_aload_n hx hb dL_law_1001 rfl (lv_at hl 2 rfl) ?_
                                                        obtain ⟨x333, S330, hc331, hf⟩ := cl_of hf
                                                        refine cl_RL_124 (As := []) (rest := [.int x329]) hC hR hS (c_X11_calm l G n q7 S326 x333 S330 hc331 ok_q7) ok_q7 rfl ⟨Nat.le_of_ble_eq_true rfl, Nat.le_of_ble_eq_true rfl⟩ hl.1 rfl (Nat.le_of_ble_eq_true rfl) dL_law_1002 (by first | exact Nat.le_trans (Nat.le_add_right _ 6) hcb.1 | exact hcb.1) (by first | exact Nat.le_trans (Nat.le_add_right _ 390) hcb.2.1 | exact hcb.2.1) (fun H locs hR hS hE332 => ?_)
                                                        have ok_q1 := hE332 _ _ ok_q1
                                                        have ok_q7 := hE332 _ _ ok_q7
                                                        have hE := hE.tr hE332
                                                        refine lv_icmp_eq (tgt := 1161) hx hb dL_law_1005 (by decide) (fun hc => ?_) (fun hc => ?_)
                                                        · replace hf := if_t hf hc
                                                          refine W.widen (k := (97 + 6 * (j + 1))) (n := (9627 + 390 * (j + 1))) (by first | exact Nat.le_trans (Nat.le_add_right _ 6) (show 97 + 6 * j + 6 ≤ 97 + 6 * (j + 1) by omega) | exact (show 97 + 6 * j + 6 ≤ 97 + 6 * (j + 1) by omega)) (by first | exact Nat.le_trans (Nat.le_add_right _ 390) (show 9627 + 390 * j + 390 ≤ 9627 + 390 * (j + 1) by omega) | exact (show 9627 + 390 * j + 390 ≤ 9627 + 390 * (j + 1) by omega)) ?_
                                                          exact hj1161_19 S330 _ _ _ hf hR hS hE ok_q1 ok_q7 (lv_sub hl [0, 1, 2, 3] rfl)
                                                        · replace hf := if_f hf hc
                                                          refine lv_iconst (v := 0) hx hb dL_law_1008 (by decide) ?_
                                                          exact absurd hf no_zero
                                                      · replace hf := if_f hf hc23
                                                        by_cases hc24 : x18 = (24 : Int32)
                                                        · replace hf := if_t hf hc24
                                                          rw [hc24]
                                                          refine lv_tableIn (tgt := 1010) hx hb dL_law_53 (by decide) (by decide) rfl (by decide) ?_
                                                          refine lv_aload_n hx hb dL_law_1010 rfl (lv_at hl 1 rfl) ?_
                                                          refine lv_aload_n hx hb dL_law_1011 rfl (lv_at hl 0 rfl) ?_
                                                          refine lv_iload_n hx hb dL_law_1012 rfl (lv_at hl 3 rfl) ?_
                                                          refine lv_iconst (v := 1) hx hb dL_law_1013 (by decide) ?_
                                                          refine lv_iadd hx hb dL_law_1014 ?_
                                                          obtain ⟨hi334, hf⟩ := ck_of hf
                                                          refine va_sld hx hb hX hbl hbA hS (inb_in hi334) dL_law_1015 ?_
                                                          obtain ⟨x338, S335, hc336, hf⟩ := cl_of hf
                                                          refine cl_RL_125 (As := [.int (xs (x15 + (1 : Int32)).toNatClampNeg)]) (rest := []) hC hR hS (c_X10_disputes l G n q1 (xs (x15 + (1 : Int32)).toNatClampNeg) S16 x338 S335 hc336 ok_q1) ok_q1 rfl ⟨Nat.le_of_ble_eq_true rfl, Nat.le_of_ble_eq_true rfl⟩ hl.1 rfl (Nat.le_of_ble_eq_true rfl) dL_law_1016 (by first | exact Nat.le_trans (Nat.le_add_right _ 6) hcb.1 | exact hcb.1) (by first | exact Nat.le_trans (Nat.le_add_right _ 390) hcb.2.1 | exact hcb.2.1) (fun H locs hR hS hE337 => ?_)
                                                          have ok_q1 := hE337 _ _ ok_q1
                                                          have ok_q7 := hE337 _ _ ok_q7
                                                          have hE := hE.tr hE337
                                                          refine lv_aload_n hx hb dL_law_1019 rfl (lv_at hl 2 rfl) ?_
                                                          refine lv_aload_n hx hb dL_law_1020 rfl (lv_at hl 0 rfl) ?_
                                                          refine lv_iload_n hx hb dL_law_1021 rfl (lv_at hl 3 rfl) ?_
                                                          refine lv_iconst (v := 1) hx hb dL_law_1022 (by decide) ?_
                                                          refine lv_iadd hx hb dL_law_1023 ?_
                                                          obtain ⟨hi339, hf⟩ := ck_of hf
                                                          refine va_sld hx hb hX hbl hbA hS (inb_in hi339) dL_law_1024 ?_
                                                          obtain ⟨x343, S340, hc341, hf⟩ := cl_of hf
                                                          refine cl_RL_128 (As := [.int (xs (x15 + (1 : Int32)).toNatClampNeg)]) (rest := [.int x338]) hC hR hS (c_X11_disputes l G n q7 (xs (x15 + (1 : Int32)).toNatClampNeg) S335 x343 S340 hc341 ok_q7) ok_q7 rfl ⟨Nat.le_of_ble_eq_true rfl, Nat.le_of_ble_eq_true rfl⟩ hl.1 rfl (Nat.le_of_ble_eq_true rfl) dL_law_1025 (by first | exact Nat.le_trans (Nat.le_add_right _ 6) hcb.1 | exact hcb.1) (by first | exact Nat.le_trans (Nat.le_add_right _ 390) hcb.2.1 | exact hcb.2.1) (fun H locs hR hS hE342 => ?_)
                                                          have ok_q1 := hE342 _ _ ok_q1
                                                          have ok_q7 := hE342 _ _ ok_q7
                                                          have hE := hE.tr hE342
                                                          refine lv_icmp_eq (tgt := 1161) hx hb dL_law_1028 (by decide) (fun hc => ?_) (fun hc => ?_)
                                                          · replace hf := if_t hf hc
                                                            refine W.widen (k := (97 + 6 * (j + 1))) (n := (9627 + 390 * (j + 1))) (by first | exact Nat.le_trans (Nat.le_add_right _ 6) (show 97 + 6 * j + 6 ≤ 97 + 6 * (j + 1) by omega) | exact (show 97 + 6 * j + 6 ≤ 97 + 6 * (j + 1) by omega)) (by first | exact Nat.le_trans (Nat.le_add_right _ 390) (show 9627 + 390 * j + 390 ≤ 9627 + 390 * (j + 1) by omega) | exact (show 9627 + 390 * j + 390 ≤ 9627 + 390 * (j + 1) by omega)) ?_
                                                            exact hj1161_19 S340 _ _ _ hf hR hS hE ok_q1 ok_q7 (lv_sub hl [0, 1, 2, 3] rfl)
                                                          · replace hf := if_f hf hc
                                                            refine lv_iconst (v := 0) hx hb dL_law_1031 (by decide) ?_
                                                            exact absurd hf no_zero
                                                        · replace hf := if_f hf hc24
                                                          by_cases hc25 : x18 = (25 : Int32)
                                                          · replace hf := if_t hf hc25
                                                            rw [hc25]
                                                            refine lv_tableIn (tgt := 1033) hx hb dL_law_53 (by decide) (by decide) rfl (by decide) ?_
                                                            refine lv_aload_n hx hb dL_law_1033 rfl (lv_at hl 1 rfl) ?_
                                                            refine lv_aload_n hx hb dL_law_1034 rfl (lv_at hl 0 rfl) ?_
                                                            refine lv_iload_n hx hb dL_law_1035 rfl (lv_at hl 3 rfl) ?_
                                                            refine lv_iconst (v := 1) hx hb dL_law_1036 (by decide) ?_
                                                            refine lv_iadd hx hb dL_law_1037 ?_
                                                            obtain ⟨hi344, hf⟩ := ck_of hf
                                                            refine va_sld hx hb hX hbl hbA hS (inb_in hi344) dL_law_1038 ?_
                                                            refine lv_aload_n hx hb dL_law_1039 rfl (lv_at hl 0 rfl) ?_
                                                            refine lv_iload_n hx hb dL_law_1040 rfl (lv_at hl 3 rfl) ?_
                                                            refine lv_iconst (v := 2) hx hb dL_law_1041 (by decide) ?_
                                                            refine lv_iadd hx hb dL_law_1042 ?_
                                                            obtain ⟨hi345, hf⟩ := ck_of hf
                                                            refine va_sld hx hb hX hbl hbA hS (inb_in hi345) dL_law_1043 ?_
                                                            obtain ⟨x349, S346, hc347, hf⟩ := cl_of hf
                                                            refine cl_RL_129 (As := [.int (xs (x15 + (1 : Int32)).toNatClampNeg), .int (xs (x15 + (2 : Int32)).toNatClampNeg)]) (rest := []) hC hR hS (c_X10_map l G n q1 (xs (x15 + (1 : Int32)).toNatClampNeg) (xs (x15 + (2 : Int32)).toNatClampNeg) S16 x349 S346 hc347 ok_q1) ok_q1 rfl ⟨Nat.le_of_ble_eq_true rfl, Nat.le_of_ble_eq_true rfl⟩ hl.1 rfl (Nat.le_of_ble_eq_true rfl) dL_law_1044 (by first | exact Nat.le_trans (Nat.le_add_right _ 6) hcb.1 | exact hcb.1) (by first | exact Nat.le_trans (Nat.le_add_right _ 390) hcb.2.1 | exact hcb.2.1) (fun H locs hR hS hE348 => ?_)
                                                            have ok_q1 := hE348 _ _ ok_q1
                                                            have ok_q7 := hE348 _ _ ok_q7
                                                            have hE := hE.tr hE348
                                                            refine lv_aload_n hx hb dL_law_1047 rfl (lv_at hl 2 rfl) ?_
                                                            refine lv_aload_n hx hb dL_law_1048 rfl (lv_at hl 0 rfl) ?_
                                                            refine lv_iload_n hx hb dL_law_1049 rfl (lv_at hl 3 rfl) ?_
                                                            refine lv_iconst (v := 1) hx hb dL_law_1050 (by decide) ?_
                                                            refine lv_iadd hx hb dL_law_1051 ?_
                                                            obtain ⟨hi350, hf⟩ := ck_of hf
                                                            refine va_sld hx hb hX hbl hbA hS (inb_in hi350) dL_law_1052 ?_
                                                            refine lv_aload_n hx hb dL_law_1053 rfl (lv_at hl 0 rfl) ?_
                                                            refine lv_iload_n hx hb dL_law_1054 rfl (lv_at hl 3 rfl) ?_
                                                            refine lv_iconst (v := 2) hx hb dL_law_1055 (by decide) ?_
                                                            refine lv_iadd hx hb dL_law_1056 ?_
                                                            obtain ⟨hi351, hf⟩ := ck_of hf
                                                            refine va_sld hx hb hX hbl hbA hS (inb_in hi351) dL_law_1057 ?_
                                                            obtain ⟨x355, S352, hc353, hf⟩ := cl_of hf
                                                            refine cl_RL_132 (As := [.int (xs (x15 + (1 : Int32)).toNatClampNeg), .int (xs (x15 + (2 : Int32)).toNatClampNeg)]) (rest := [.int x349]) hC hR hS (c_X11_map l G n q7 (xs (x15 + (1 : Int32)).toNatClampNeg) (xs (x15 + (2 : Int32)).toNatClampNeg) S346 x355 S352 hc353 ok_q7) ok_q7 rfl ⟨Nat.le_of_ble_eq_true rfl, Nat.le_of_ble_eq_true rfl⟩ hl.1 rfl (Nat.le_of_ble_eq_true rfl) dL_law_1058 (by first | exact Nat.le_trans (Nat.le_add_right _ 6) hcb.1 | exact hcb.1) (by first | exact Nat.le_trans (Nat.le_add_right _ 390) hcb.2.1 | exact hcb.2.1) (fun H locs hR hS hE354 => ?_)
                                                            have ok_q1 := hE354 _ _ ok_q1
                                                            have ok_q7 := hE354 _ _ ok_q7
                                                            have hE := hE.tr hE354
                                                            refine lv_icmp_eq (tgt := 1161) hx hb dL_law_1061 (by decide) (fun hc => ?_) (fun hc => ?_)
                                                            · replace hf := if_t hf hc
                                                              refine W.widen (k := (97 + 6 * (j + 1))) (n := (9627 + 390 * (j + 1))) (by first | exact Nat.le_trans (Nat.le_add_right _ 6) (show 97 + 6 * j + 6 ≤ 97 + 6 * (j + 1) by omega) | exact (show 97 + 6 * j + 6 ≤ 97 + 6 * (j + 1) by omega)) (by first | exact Nat.le_trans (Nat.le_add_right _ 390) (show 9627 + 390 * j + 390 ≤ 9627 + 390 * (j + 1) by omega) | exact (show 9627 + 390 * j + 390 ≤ 9627 + 390 * (j + 1) by omega)) ?_
                                                              exact hj1161_19 S352 _ _ _ hf hR hS hE ok_q1 ok_q7 (lv_sub hl [0, 1, 2, 3] rfl)
                                                            · replace hf := if_f hf hc
                                                              refine lv_iconst (v := 0) hx hb dL_law_1064 (by decide) ?_
                                                              exact absurd hf no_zero
                                                          · replace hf := if_f hf hc25
                                                            by_cases hc26 : x18 = (26 : Int32)
                                                            · replace hf := if_t hf hc26
                                                              rw [hc26]
                                                              refine lv_tableIn (tgt := 1066) hx hb dL_law_53 (by decide) (by decide) rfl (by decide) ?_
                                                              refine lv_aload_n hx hb dL_law_1066 rfl (lv_at hl 1 rfl) ?_
                                                              obtain ⟨x359, S356, hc357, hf⟩ := cl_of hf
                                                              refine cl_RL_133 (As := []) (rest := []) hC hR hS (c_X10_made l G n q1 S16 x359 S356 hc357 ok_q1) ok_q1 rfl ⟨Nat.le_of_ble_eq_true rfl, Nat.le_of_ble_eq_true rfl⟩ hl.1 rfl (Nat.le_of_ble_eq_true rfl) dL_law_1067 (by first | exact Nat.le_trans (Nat.le_add_right _ 6) hcb.1 | exact hcb.1) (by first | exact Nat.le_trans (Nat.le_add_right _ 390) hcb.2.1 | exact hcb.2.1) (fun H locs hR hS hE358 => ?_)
                                                              have ok_q1 := hE358 _ _ ok_q1
                                                              have ok_q7 := hE358 _ _ ok_q7
                                                              have hE := hE.tr hE358
                                                              refine lv_aload_n hx hb dL_law_1070 rfl (lv_at hl 2 rfl) ?_
                                                              obtain ⟨x363, S360, hc361, hf⟩ := cl_of hf
                                                              refine cl_RL_136 (As := []) (rest := [.int x359]) hC hR hS (c_X11_made l G n q7 S356 x363 S360 hc361 ok_q7) ok_q7 rfl ⟨Nat.le_of_ble_eq_true rfl, Nat.le_of_ble_eq_true rfl⟩ hl.1 rfl (Nat.le_of_ble_eq_true rfl) dL_law_1071 (by first | exact Nat.le_trans (Nat.le_add_right _ 6) hcb.1 | exact hcb.1) (by first | exact Nat.le_trans (Nat.le_add_right _ 390) hcb.2.1 | exact hcb.2.1) (fun H locs hR hS hE362 => ?_)
                                                              have ok_q1 := hE362 _ _ ok_q1
                                                              have ok_q7 := hE362 _ _ ok_q7
                                                              have hE := hE.tr hE362
                                                              refine lv_icmp_eq (tgt := 1161) hx hb dL_law_1074 (by decide) (fun hc => ?_) (fun hc => ?_)
                                                              · replace hf := if_t hf hc
                                                                refine W.widen (k := (97 + 6 * (j + 1))) (n := (9627 + 390 * (j + 1))) (by first | exact Nat.le_trans (Nat.le_add_right _ 6) (show 97 + 6 * j + 6 ≤ 97 + 6 * (j + 1) by omega) | exact (show 97 + 6 * j + 6 ≤ 97 + 6 * (j + 1) by omega)) (by first | exact Nat.le_trans (Nat.le_add_right _ 390) (show 9627 + 390 * j + 390 ≤ 9627 + 390 * (j + 1) by omega) | exact (show 9627 + 390 * j + 390 ≤ 9627 + 390 * (j + 1) by omega)) ?_
                                                                exact hj1161_19 S360 _ _ _ hf hR hS hE ok_q1 ok_q7 (lv_sub hl [0, 1, 2, 3] rfl)
                                                              · replace hf := if_f hf hc
                                                                refine lv_iconst (v := 0) hx hb dL_law_1077 (by decide) ?_
                                                                exact absurd hf no_zero
                                                            · replace hf := if_f hf hc26
                                                              by_cases hc27 : x18 = (27 : Int32)
                                                              · replace hf := if_t hf hc27
                                                                rw [hc27]
                                                                refine lv_tableIn (tgt := 1079) hx hb dL_law_53 (by decide) (by decide) rfl (by decide) ?_
                                                                refine lv_aload_n hx hb dL_law_1079 rfl (lv_at hl 1 rfl) ?_
                                                                refine lv_aload_n hx hb dL_law_1080 rfl (lv_at hl 0 rfl) ?_
                                                                refine lv_iload_n hx hb dL_law_1081 rfl (lv_at hl 3 rfl) ?_
                                                                refine lv_iconst (v := 1) hx hb dL_law_1082 (by decide) ?_
                                                                refine lv_iadd hx hb dL_law_1083 ?_
                                                                obtain ⟨hi364, hf⟩ := ck_of hf
                                                                refine va_sld hx hb hX hbl hbA hS (inb_in hi364) dL_law_1084 ?_
                                                                refine lv_aload_n hx hb dL_law_1085 rfl (lv_at hl 0 rfl) ?_
                                                                refine lv_iload_n hx hb dL_law_1086 rfl (lv_at hl 3 rfl) ?_
                                                                refine lv_iconst (v := 2) hx hb dL_law_1087 (by decide) ?_
                                                                refine lv_iadd hx hb dL_law_1088 ?_
                                                                obtain ⟨hi365, hf⟩ := ck_of hf
                                                                refine va_sld hx hb hX hbl hbA hS (inb_in hi365) dL_law_1089 ?_
                                                                obtain ⟨x369, S366, hc367, hf⟩ := cl_of hf
                                                                refine cl_RL_137 (As := [.int (xs (x15 + (1 : Int32)).toNatClampNeg), .int (xs (x15 + (2 : Int32)).toNatClampNeg)]) (rest := []) hC hR hS (c_X10_hours l G n q1 (xs (x15 + (1 : Int32)).toNatClampNeg) (xs (x15 + (2 : Int32)).toNatClampNeg) S16 x369 S366 hc367 ok_q1) ok_q1 rfl ⟨Nat.le_of_ble_eq_true rfl, Nat.le_of_ble_eq_true rfl⟩ hl.1 rfl (Nat.le_of_ble_eq_true rfl) dL_law_1090 (by first | exact Nat.le_trans (Nat.le_add_right _ 6) hcb.1 | exact hcb.1) (by first | exact Nat.le_trans (Nat.le_add_right _ 390) hcb.2.1 | exact hcb.2.1) (fun H locs hR hS hE368 => ?_)
                                                                have ok_q1 := hE368 _ _ ok_q1
                                                                have ok_q7 := hE368 _ _ ok_q7
                                                                have hE := hE.tr hE368
                                                                refine lv_aload_n hx hb dL_law_1093 rfl (lv_at hl 2 rfl) ?_
                                                                refine lv_aload_n hx hb dL_law_1094 rfl (lv_at hl 0 rfl) ?_
                                                                refine lv_iload_n hx hb dL_law_1095 rfl (lv_at hl 3 rfl) ?_
                                                                refine lv_iconst (v := 1) hx hb dL_law_1096 (by decide) ?_
                                                                refine lv_iadd hx hb dL_law_1097 ?_
                                                                obtain ⟨hi370, hf⟩ := ck_of hf
                                                                refine va_sld hx hb hX hbl hbA hS (inb_in hi370) dL_law_1098 ?_
                                                                refine lv_aload_n hx hb dL_law_1099 rfl (lv_at hl 0 rfl) ?_
                                                                refine lv_iload_n hx hb dL_law_1100 rfl (lv_at hl 3 rfl) ?_
                                                                refine lv_iconst (v := 2) hx hb dL_law_1101 (by decide) ?_
                                                                refine lv_iadd hx hb dL_law_1102 ?_
                                                                obtain ⟨hi371, hf⟩ := ck_of hf
                                                                refine va_sld hx hb hX hbl hbA hS (inb_in hi371) dL_law_1103 ?_
                                                                obtain ⟨x375, S372, hc373, hf⟩ := cl_of hf
                                                                refine cl_RL_140 (As := [.int (xs (x15 + (1 : Int32)).toNatClampNeg), .int (xs (x15 + (2 : Int32)).toNatClampNeg)]) (rest := [.int x369]) hC hR hS (c_X11_hours l G n q7 (xs (x15 + (1 : Int32)).toNatClampNeg) (xs (x15 + (2 : Int32)).toNatClampNeg) S366 x375 S372 hc373 ok_q7) ok_q7 rfl ⟨Nat.le_of_ble_eq_true rfl, Nat.le_of_ble_eq_true rfl⟩ hl.1 rfl (Nat.le_of_ble_eq_true rfl) dL_law_1104 (by first | exact Nat.le_trans (Nat.le_add_right _ 6) hcb.1 | exact hcb.1) (by first | exact Nat.le_trans (Nat.le_add_right _ 390) hcb.2.1 | exact hcb.2.1) (fun H locs hR hS hE374 => ?_)
                                                                have ok_q1 := hE374 _ _ ok_q1
                                                                have ok_q7 := hE374 _ _ ok_q7
                                                                have hE := hE.tr hE374
                                                                refine lv_icmp_eq (tgt := 1161) hx hb dL_law_1107 (by decide) (fun hc => ?_) (fun hc => ?_)
                                                                · replace hf := if_t hf hc
                                                                  refine W.widen (k := (97 + 6 * (j + 1))) (n := (9627 + 390 * (j + 1))) (by first | exact Nat.le_trans (Nat.le_add_right _ 6) (show 97 + 6 * j + 6 ≤ 97 + 6 * (j + 1) by omega) | exact (show 97 + 6 * j + 6 ≤ 97 + 6 * (j + 1) by omega)) (by first | exact Nat.le_trans (Nat.le_add_right _ 390) (show 9627 + 390 * j + 390 ≤ 9627 + 390 * (j + 1) by omega) | exact (show 9627 + 390 * j + 390 ≤ 9627 + 390 * (j + 1) by omega)) ?_
                                                                  exact hj1161_19 S372 _ _ _ hf hR hS hE ok_q1 ok_q7 (lv_sub hl [0, 1, 2, 3] rfl)
                                                                · replace hf := if_f hf hc
                                                                  refine lv_iconst (v := 0) hx hb dL_law_1110 (by decide) ?_
                                                                  exact absurd hf no_zero
                                                              · replace hf := if_f hf hc27
                                                                by_cases hc28 : x18 = (28 : Int32)
                                                                · replace hf := if_t hf hc28
                                                                  rw [hc28]
                                                                  refine lv_tableIn (tgt := 1112) hx hb dL_law_53 (by decide) (by decide) rfl (by decide) ?_
                                                                  refine lv_aload_n hx hb dL_law_1112 rfl (lv_at hl 1 rfl) ?_
                                                                  obtain ⟨x379, S376, hc377, hf⟩ := cl_of hf
                                                                  refine cl_RL_141 (As := []) (rest := []) hC hR hS (c_X10_image l G n q1 S16 x379 S376 hc377 ok_q1) ok_q1 rfl ⟨Nat.le_of_ble_eq_true rfl, Nat.le_of_ble_eq_true rfl⟩ hl.1 rfl (Nat.le_of_ble_eq_true rfl) dL_law_1113 (by first | exact Nat.le_trans (Nat.le_add_right _ 6) hcb.1 | exact hcb.1) (by first | exact Nat.le_trans (Nat.le_add_right _ 390) hcb.2.1 | exact hcb.2.1) (fun H locs hR hS hE378 => ?_)
                                                                  have ok_q1 := hE378 _ _ ok_q1
                                                                  have ok_q7 := hE378 _ _ ok_q7
                                                                  have hE := hE.tr hE378
                                                                  refine lv_aload_n hx hb dL_law_1116 rfl (lv_at hl 2 rfl) ?_
                                                                  obtain ⟨x383, S380, hc381, hf⟩ := cl_of hf
                                                                  refine cl_RL_144 (As := []) (rest := [.int x379]) hC hR hS (c_X11_image l G n q7 S376 x383 S380 hc381 ok_q7) ok_q7 rfl ⟨Nat.le_of_ble_eq_true rfl, Nat.le_of_ble_eq_true rfl⟩ hl.1 rfl (Nat.le_of_ble_eq_true rfl) dL_law_1117 (by first | exact Nat.le_trans (Nat.le_add_right _ 6) hcb.1 | exact hcb.1) (by first | exact Nat.le_trans (Nat.le_add_right _ 390) hcb.2.1 | exact hcb.2.1) (fun H locs hR hS hE382 => ?_)
                                                                  have ok_q1 := hE382 _ _ ok_q1
                                                                  have ok_q7 := hE382 _ _ ok_q7
                                                                  have hE := hE.tr hE382
                                                                  refine lv_icmp_eq (tgt := 1161) hx hb dL_law_1120 (by decide) (fun hc => ?_) (fun hc => ?_)
                                                                  · replace hf := if_t hf hc
                                                                    refine W.widen (k := (97 + 6 * (j + 1))) (n := (9627 + 390 * (j + 1))) (by first | exact Nat.le_trans (Nat.le_add_right _ 6) (show 97 + 6 * j + 6 ≤ 97 + 6 * (j + 1) by omega) | exact (show 97 + 6 * j + 6 ≤ 97 + 6 * (j + 1) by omega)) (by first | exact Nat.le_trans (Nat.le_add_right _ 390) (show 9627 + 390 * j + 390 ≤ 9627 + 390 * (j + 1) by omega) | exact (show 9627 + 390 * j + 390 ≤ 9627 + 390 * (j + 1) by omega)) ?_
                                                                    exact hj1161_19 S380 _ _ _ hf hR hS hE ok_q1 ok_q7 (lv_sub hl [0, 1, 2, 3] rfl)
                                                                  · replace hf := if_f hf hc
                                                                    refine lv_iconst (v := 0) hx hb dL_law_1123 (by decide) ?_
                                                                    exact absurd hf no_zero
                                                                · replace hf := if_f hf hc28
                                                                  by_cases hc29 : x18 = (29 : Int32)
                                                                  · replace hf := if_t hf hc29
                                                                    rw [hc29]
                                                                    refine lv_tableIn (tgt := 1125) hx hb dL_law_53 (by decide) (by decide) rfl (by decide) ?_
                                                                    refine lv_aload_n hx hb dL_law_1125 rfl (lv_at hl 1 rfl) ?_
                                                                    obtain ⟨x387, S384, hc385, hf⟩ := cl_of hf
                                                                    refine cl_RL_145 (As := []) (rest := []) hC hR hS (c_X10_back l G n q1 S16 x387 S384 hc385 ok_q1) ok_q1 rfl ⟨Nat.le_of_ble_eq_true rfl, Nat.le_of_ble_eq_true rfl⟩ hl.1 rfl (Nat.le_of_ble_eq_true rfl) dL_law_1126 (by first | exact Nat.le_trans (Nat.le_add_right _ 6) hcb.1 | exact hcb.1) (by first | exact Nat.le_trans (Nat.le_add_right _ 390) hcb.2.1 | exact hcb.2.1) (fun H locs hR hS hE386 => ?_)
                                                                    have ok_q1 := hE386 _ _ ok_q1
                                                                    have ok_q7 := hE386 _ _ ok_q7
                                                                    have hE := hE.tr hE386
                                                                    refine lv_aload_n hx hb dL_law_1129 rfl (lv_at hl 2 rfl) ?_
                                                                    obtain ⟨x391, S388, hc389, hf⟩ := cl_of hf
                                                                    refine cl_RL_148 (As := []) (rest := [.int x387]) hC hR hS (c_X11_back l G n q7 S384 x391 S388 hc389 ok_q7) ok_q7 rfl ⟨Nat.le_of_ble_eq_true rfl, Nat.le_of_ble_eq_true rfl⟩ hl.1 rfl (Nat.le_of_ble_eq_true rfl) dL_law_1130 (by first | exact Nat.le_trans (Nat.le_add_right _ 6) hcb.1 | exact hcb.1) (by first | exact Nat.le_trans (Nat.le_add_right _ 390) hcb.2.1 | exact hcb.2.1) (fun H locs hR hS hE390 => ?_)
                                                                    have ok_q1 := hE390 _ _ ok_q1
                                                                    have ok_q7 := hE390 _ _ ok_q7
                                                                    have hE := hE.tr hE390
                                                                    refine lv_icmp_eq (tgt := 1161) hx hb dL_law_1133 (by decide) (fun hc => ?_) (fun hc => ?_)
                                                                    · replace hf := if_t hf hc
                                                                      refine W.widen (k := (97 + 6 * (j + 1))) (n := (9627 + 390 * (j + 1))) (by first | exact Nat.le_trans (Nat.le_add_right _ 6) (show 97 + 6 * j + 6 ≤ 97 + 6 * (j + 1) by omega) | exact (show 97 + 6 * j + 6 ≤ 97 + 6 * (j + 1) by omega)) (by first | exact Nat.le_trans (Nat.le_add_right _ 390) (show 9627 + 390 * j + 390 ≤ 9627 + 390 * (j + 1) by omega) | exact (show 9627 + 390 * j + 390 ≤ 9627 + 390 * (j + 1) by omega)) ?_
                                                                      exact hj1161_19 S388 _ _ _ hf hR hS hE ok_q1 ok_q7 (lv_sub hl [0, 1, 2, 3] rfl)
                                                                    · replace hf := if_f hf hc
                                                                      refine lv_iconst (v := 0) hx hb dL_law_1136 (by decide) ?_
                                                                      exact absurd hf no_zero
                                                                  · replace hf := if_f hf hc29
                                                                    by_cases hc30 : x18 = (30 : Int32)
                                                                    · replace hf := if_t hf hc30
                                                                      rw [hc30]
                                                                      refine lv_tableIn (tgt := 1138) hx hb dL_law_53 (by decide) (by decide) rfl (by decide) ?_
                                                                      refine lv_aload_n hx hb dL_law_1138 rfl (lv_at hl 1 rfl) ?_
                                                                      refine lv_aload_n hx hb dL_law_1139 rfl (lv_at hl 0 rfl) ?_
                                                                      refine lv_iload_n hx hb dL_law_1140 rfl (lv_at hl 3 rfl) ?_
                                                                      refine lv_iconst (v := 1) hx hb dL_law_1141 (by decide) ?_
                                                                      refine lv_iadd hx hb dL_law_1142 ?_
                                                                      obtain ⟨hi392, hf⟩ := ck_of hf
                                                                      refine va_sld hx hb hX hbl hbA hS (inb_in hi392) dL_law_1143 ?_
                                                                      obtain ⟨x396, S393, hc394, hf⟩ := cl_of hf
                                                                      refine cl_RL_149 (As := [.int (xs (x15 + (1 : Int32)).toNatClampNeg)]) (rest := []) hC hR hS (c_X10_about l G n q1 (xs (x15 + (1 : Int32)).toNatClampNeg) S16 x396 S393 hc394 ok_q1) ok_q1 rfl ⟨Nat.le_of_ble_eq_true rfl, Nat.le_of_ble_eq_true rfl⟩ hl.1 rfl (Nat.le_of_ble_eq_true rfl) dL_law_1144 (by first | exact Nat.le_trans (Nat.le_add_right _ 6) hcb.1 | exact hcb.1) (by first | exact Nat.le_trans (Nat.le_add_right _ 390) hcb.2.1 | exact hcb.2.1) (fun H locs hR hS hE395 => ?_)
                                                                      have ok_q1 := hE395 _ _ ok_q1
                                                                      have ok_q7 := hE395 _ _ ok_q7
                                                                      have hE := hE.tr hE395
                                                                      refine lv_aload_n hx hb dL_law_1147 rfl (lv_at hl 2 rfl) ?_
                                                                      refine lv_aload_n hx hb dL_law_1148 rfl (lv_at hl 0 rfl) ?_
                                                                      refine lv_iload_n hx hb dL_law_1149 rfl (lv_at hl 3 rfl) ?_
                                                                      refine lv_iconst (v := 1) hx hb dL_law_1150 (by decide) ?_
                                                                      refine lv_iadd hx hb dL_law_1151 ?_
                                                                      obtain ⟨hi397, hf⟩ := ck_of hf
                                                                      refine va_sld hx hb hX hbl hbA hS (inb_in hi397) dL_law_1152 ?_
                                                                      obtain ⟨x401, S398, hc399, hf⟩ := cl_of hf
                                                                      refine cl_RL_152 (As := [.int (xs (x15 + (1 : Int32)).toNatClampNeg)]) (rest := [.int x396]) hC hR hS (c_X11_about l G n q7 (xs (x15 + (1 : Int32)).toNatClampNeg) S393 x401 S398 hc399 ok_q7) ok_q7 rfl ⟨Nat.le_of_ble_eq_true rfl, Nat.le_of_ble_eq_true rfl⟩ hl.1 rfl (Nat.le_of_ble_eq_true rfl) dL_law_1153 (by first | exact Nat.le_trans (Nat.le_add_right _ 6) hcb.1 | exact hcb.1) (by first | exact Nat.le_trans (Nat.le_add_right _ 390) hcb.2.1 | exact hcb.2.1) (fun H locs hR hS hE400 => ?_)
                                                                      have ok_q1 := hE400 _ _ ok_q1
                                                                      have ok_q7 := hE400 _ _ ok_q7
                                                                      have hE := hE.tr hE400
                                                                      refine lv_icmp_eq (tgt := 1161) hx hb dL_law_1156 (by decide) (fun hc => ?_) (fun hc => ?_)
                                                                      · replace hf := if_t hf hc
                                                                        refine W.widen (k := (97 + 6 * (j + 1))) (n := (9627 + 390 * (j + 1))) (by first | exact Nat.le_trans (Nat.le_add_right _ 6) (show 97 + 6 * j + 6 ≤ 97 + 6 * (j + 1) by omega) | exact (show 97 + 6 * j + 6 ≤ 97 + 6 * (j + 1) by omega)) (by first | exact Nat.le_trans (Nat.le_add_right _ 390) (show 9627 + 390 * j + 390 ≤ 9627 + 390 * (j + 1) by omega) | exact (show 9627 + 390 * j + 390 ≤ 9627 + 390 * (j + 1) by omega)) ?_
                                                                        exact hj1161_19 S398 _ _ _ hf hR hS hE ok_q1 ok_q7 (lv_sub hl [0, 1, 2, 3] rfl)
                                                                      · replace hf := if_f hf hc
                                                                        refine lv_iconst (v := 0) hx hb dL_law_1159 (by decide) ?_
                                                                        exact absurd hf no_zero
                                                                    · replace hf := if_f hf hc30
                                                                      refine lv_tableOut (tgt := 1161) hx hb dL_law_53 (by have := ne_toInt hc0 (z := 0) (by decide); have := ne_toInt hc1 (z := 1) (by decide); have := ne_toInt hc2 (z := 2) (by decide); have := ne_toInt hc3 (z := 3) (by decide); have := ne_toInt hc4 (z := 4) (by decide); have := ne_toInt hc5 (z := 5) (by decide); have := ne_toInt hc6 (z := 6) (by decide); have := ne_toInt hc7 (z := 7) (by decide); have := ne_toInt hc8 (z := 8) (by decide); have := ne_toInt hc9 (z := 9) (by decide); have := ne_toInt hc10 (z := 10) (by decide); have := ne_toInt hc11 (z := 11) (by decide); have := ne_toInt hc12 (z := 12) (by decide); have := ne_toInt hc13 (z := 13) (by decide); have := ne_toInt hc14 (z := 14) (by decide); have := ne_toInt hc15 (z := 15) (by decide); have := ne_toInt hc16 (z := 16) (by decide); have := ne_toInt hc17 (z := 17) (by decide); have := ne_toInt hc18 (z := 18) (by decide); have := ne_toInt hc19 (z := 19) (by decide); have := ne_toInt hc20 (z := 20) (by decide); have := ne_toInt hc21 (z := 21) (by decide); have := ne_toInt hc22 (z := 22) (by decide); have := ne_toInt hc23 (z := 23) (by decide); have := ne_toInt hc24 (z := 24) (by decide); have := ne_toInt hc25 (z := 25) (by decide); have := ne_toInt hc26 (z := 26) (by decide); have := ne_toInt hc27 (z := 27) (by decide); have := ne_toInt hc28 (z := 28) (by decide); have := ne_toInt hc29 (z := 29) (by decide); have := ne_toInt hc30 (z := 30) (by decide); omega) (by decide) ?_
                                                                      refine W.widen (k := (97 + 6 * (j + 1))) (n := (9627 + 390 * (j + 1))) (by first | exact Nat.le_trans (Nat.le_add_right _ 6) (show 97 + 6 * j + 6 ≤ 97 + 6 * (j + 1) by omega) | exact (show 97 + 6 * j + 6 ≤ 97 + 6 * (j + 1) by omega)) (by first | exact Nat.le_trans (Nat.le_add_right _ 390) (show 9627 + 390 * j + 390 ≤ 9627 + 390 * (j + 1) by omega) | exact (show 9627 + 390 * j + 390 ≤ 9627 + 390 * (j + 1) by omega)) ?_
                                                                      exact hj1161_19 S16 _ _ _ hf hR hS hE ok_q1 ok_q7 (lv_sub hl [0, 1, 2, 3] rfl)
  exact hh403 n (2 : Int32) 0 S10 _ _ _ ⟨rfl, by omega⟩ hf hR hS hE ok_q1 ok_q7 (lv_sub hl [3, 2, 1, 0] rfl)
