/-! THE START: what the Statement gives, as the worlds want it; whole_start out of the pure theorem -/
def S0 : MS := ([], fun _ => 0, fun _ => 0, fun _ _ => 0, fun _ _ => 0, fun _ _ => none)
def flw : List Cond := flatC (Jvm.Cond.and given_1 narrow_1)
def tmS (i : Nat) : Term := .string "WalkingFences$Cutter" (if i = 0 then 64 else 75)
theorem st_ex : ∀ i, i < 2 → Cond.exactly (tmS i) "java/lang/String" ∈ flw := by decide +kernel
theorem st_co : ∀ i, i < 2 → Cond.eq (.field (tmS i) "java/lang/String" "coder" "B") (.int 0) ∈ flw := by decide +kernel
theorem st_ar : ∀ i, i < 2 → Cond.arrayOf (.field (tmS i) "java/lang/String" "value" "[B") .byte ∈ flw := by decide +kernel
theorem st_le : ∀ i, i < 2 → Cond.eq (.length (.field (tmS i) "java/lang/String" "value" "[B")) (.int (Int32.ofNat (lenT.getD i 0))) ∈ flw := by decide +kernel
theorem st_el : ∀ i, i < 2 → ∀ j, j < lenT.getD i 0 → Cond.eq (.elem (.field (tmS i) "java/lang/String" "value" "[B") (.int (Int32.ofNat j))) (.int ((bytT.getD i []).getD j 0)) ∈ flw := by decide +kernel
theorem st_ne : Cond.not (Cond.eq (tmS 1) (tmS 0)) ∈ flw := by decide +kernel
theorem st_cs : Cond.eq (.static "java/lang/String" "COMPACT_STRINGS" "Z") (.int 1) ∈ flw := by decide +kernel
theorem st_sf : Cond.isRef (.static "jdk/internal/util/Preconditions" "SIOOBE_FORMATTER" "Ljava/util/function/BiFunction;") ∈ flw := by decide +kernel
set_option maxRecDepth 100000 in
set_option maxHeartbeats 4000000 in
theorem kx_start {p : Program} {s : State} {m : MethodId} {meth : Method} {c : Code} {b L : Nat} {xs : Nat → Int32} (C0 : lw_At p s m meth c b L xs) : ∃ G : Gx, G.2.2 = s.heap.size ∧ Kx G s := by
  obtain ⟨hx, hb, hr, hml, hown, hts, hX, hbl, hlocks, hgv⟩ := id C0
  have hfl : ∀ w ∈ flw, w.before #[Value.ref b] s = true := flat_of_before _ hgv
  obtain ⟨c0, iS0, hKn0⟩ := u_known (C := RX0) (T := TX0) (N := 4) (n := 4) hts li0 (hts _ (BG_in _ (bg4 _ (List.mem_of_getElem? (i := 13) rfl))))
  obtain ⟨c1, iS1, hKn1⟩ := u_known (C := RX1) (T := TX1) (N := 8) (n := 8) hts li1 (hts _ (BG_in _ (bg2 _ (List.mem_of_getElem? (i := 16) rfl))))
  obtain ⟨c2, iS2, hKn2⟩ := u_known (C := RX2) (T := TX2) (N := 11) (n := 11) hts li2 (hts _ (BG_in _ (bg3 _ (List.mem_of_getElem? (i := 8) rfl))))
  obtain ⟨c3, iS3, hKn3⟩ := u_known (C := RX3) (T := TX3) (N := 12) (n := 12) hts li3 (hts _ (BG_in _ (bg3 _ (List.mem_of_getElem? (i := 3) rfl))))
  obtain ⟨c4, iS4, hKn4⟩ := u_known (C := RX4) (T := TX4) (N := 7) (n := 7) hts li4 (hts _ (BG_in _ (bg2 _ (List.mem_of_getElem? (i := 2) rfl))))
  obtain ⟨c5, iS5, hKn5⟩ := u_known (C := RX5) (T := TX5) (N := 2) (n := 2) hts li5 (hts _ (BG_in _ (bg2 _ (List.mem_of_getElem? (i := 8) rfl))))
  obtain ⟨c6, iS6, hKn6⟩ := u_known (C := RX6) (T := TX6) (N := 2) (n := 2) hts li6 (hts _ (BG_in _ (bg1 _ (List.mem_of_getElem? (i := 22) rfl))))
  obtain ⟨c7, iS7, hKn7⟩ := u_known (C := RX7) (T := TX7) (N := 10) (n := 10) hts li7 (hts _ (BG_in _ (bg13 _ (List.mem_of_getElem? (i := 19) rfl))))
  obtain ⟨c8, iS8, hKn8⟩ := u_known (C := RX8) (T := TX8) (N := 9) (n := 9) hts li8 (hts _ (BG_in _ (bg1 _ (List.mem_of_getElem? (i := 17) rfl))))
  obtain ⟨c9, iS9, hKn9⟩ := u_known (C := RX9) (T := TX9) (N := 6) (n := 6) hts li9 (hts _ (BG_in _ (bg2 _ (List.mem_of_getElem? (i := 12) rfl))))
  obtain ⟨c10, iS10, hKn10⟩ := u_known (C := RX10) (T := TX10) (N := 11) (n := 11) hts li10 (hts _ (BG_in _ (bg1 _ (List.mem_of_getElem? (i := 1) rfl))))
  obtain ⟨c11, iS11, hKn11⟩ := u_known (C := RX11) (T := TX11) (N := 36) (n := 36) hts li11 (hts _ (BG_in _ (bg1 _ (List.mem_of_getElem? (i := 4) rfl))))
  obtain ⟨a0, k0, p0, e01, e02, e03⟩ := Cond.arrayClass_spec (hts _ (BG_in _ (bg3 _ (List.mem_of_getElem? (i := 15) rfl))))
  obtain ⟨a1, k1, p1, e11, e12, e13⟩ := Cond.arrayClass_spec (hts _ (BG_in _ (bg6 _ (List.mem_of_getElem? (i := 0) rfl))))
  obtain ⟨a2, k2, p2, e21, e22, e23⟩ := Cond.arrayClass_spec (hts _ (BG_in _ (bg7 _ (List.mem_of_getElem? (i := 19) rfl))))
  have o3 : (Cond.arrayOver (.object "WalkingFences$Plain")).before #[Value.ref b] s = true := hts _ (lt2 _ (List.mem_of_getElem? (i := 79) rfl))
  obtain ⟨p3, a3, k3, e34, -, e32, e33, e31⟩ := Cond.arrayOver_spec o3
  have o4 : (Cond.arrayOver (.object "WalkingFences$Text")).before #[Value.ref b] s = true := hts _ (lt1 _ (List.mem_of_getElem? (i := 150) rfl))
  obtain ⟨p4, a4, k4, e44, -, e42, e43, e41⟩ := Cond.arrayOver_spec o4
  obtain ⟨adK, adV, hVS, hVE⟩ := vk_Sof (args := #[Value.ref b]) (s := s) (N := 2) (tm := tmS) (len := lenT) (byt := bytT) (A := fun q => s.heap.size ≤ q) (by decide) (fun i hi => hfl _ (st_ex i hi)) (fun i hi => hfl _ (st_co i hi)) (fun i hi => hfl _ (st_ar i hi)) (fun i hi => hfl _ (st_le i hi)) (fun i hi j hj => hfl _ (st_el i hi j hj)) (fun i j hi hj hij => by
      rcases (show (i = 0 ∧ j = 1) ∨ (i = 1 ∧ j = 0) by omega) with ⟨rfl, rfl⟩ | ⟨rfl, rfl⟩
      · exact Or.inr (hfl _ st_ne)
      · exact Or.inl (hfl _ st_ne)) (fun a h => Nat.not_le.mpr h)
  let dC : Nat → ClassId := fun k => if k = 0 then c0 else if k = 1 then c1 else if k = 2 then c2 else if k = 3 then c3 else if k = 4 then c4 else if k = 5 then c5 else if k = 6 then c6 else if k = 7 then c7 else if k = 8 then c8 else if k = 9 then c9 else if k = 10 then c10 else c11
  let dI : Nat → Nat → Nat := fun k => if k = 0 then iS0 else if k = 1 then iS1 else if k = 2 then iS2 else if k = 3 then iS3 else if k = 4 then iS4 else if k = 5 then iS5 else if k = 6 then iS6 else if k = 7 then iS7 else if k = 8 then iS8 else if k = 9 then iS9 else if k = 10 then iS10 else iS11
  let cy : Nat → ClassId := fun k => if k = 0 then a0 else if k = 1 then a1 else if k = 2 then a2 else if k = 3 then a3 else if k = 4 then a4 else if k < 200 then adK (k - 100) else adV (k - 200)
  have hgA : gA ((dC, dI), cy, s.heap.size) = fun q => s.heap.size ≤ q := rfl
  have hsK : ∀ i, i < 2 → sK ((dC, dI), cy, s.heap.size) i = adK i := fun i hi => by
    rcases (show i = 0 ∨ i = 1 by omega) with rfl | rfl <;> rfl
  have hsV : ∀ i, i < 2 → sV ((dC, dI), cy, s.heap.size) i = adV i := fun i hi => by
    rcases (show i = 0 ∨ i = 1 by omega) with rfl | rfl <;> rfl
  refine ⟨((dC, dI), cy, s.heap.size), rfl, ⟨?_, ?_⟩, ?_, ?_, ?_, ?_⟩
  · intro k q hq
    match k, hq with
    | 0, hq => cases hq; exact hKn0
    | 1, hq => cases hq; exact hKn1
    | 2, hq => cases hq; exact hKn2
    | 3, hq => cases hq; exact hKn3
    | 4, hq => cases hq; exact hKn4
    | 5, hq => cases hq; exact hKn5
    | 6, hq => cases hq; exact hKn6
    | 7, hq => cases hq; exact hKn7
    | 8, hq => cases hq; exact hKn8
    | 9, hq => cases hq; exact hKn9
    | 10, hq => cases hq; exact hKn10
    | 11, hq => cases hq; exact hKn11
    | k + 12, hq => simp [vwCl] at hq
  · intro k q hq
    match k, hq with
    | 0, hq => cases hq; exact ⟨fun n z => ⟨fun k h => (by cases h), k0, e02, p0, e03⟩, e01⟩
    | 1, hq => cases hq; exact ⟨fun n z => ⟨fun k h => (by cases h), k1, e12, p1, e13⟩, e11⟩
    | 2, hq => cases hq; exact ⟨fun n z => ⟨fun k h => (by cases h), k2, e22, p2, e23⟩, e21⟩
    | 3, hq => cases hq; exact ⟨fun n z => ⟨fun k h => (by cases h), k3, e32, p3, e33⟩, k3, p3, e32, e33, e34, e31⟩
    | 4, hq => cases hq; exact ⟨fun n z => ⟨fun k h => (by cases h), k4, e42, p4, e43⟩, k4, p4, e42, e43, e44, e41⟩
    | k + 5, hq => simp [tysOf] at hq
  · intro q hq
    simp only [nestL, List.mem_cons, List.not_mem_nil, or_false] at hq
    rcases hq with rfl | rfl | rfl | rfl | rfl | rfl
    · exact va_Nw.of rfl (hts _ (lt2 _ (List.mem_of_getElem? (i := 218) rfl)))
    · exact va_Nw.of rfl (hts _ (lt1 _ (List.mem_of_getElem? (i := 83) rfl)))
    · exact va_Nw.of rfl (hts _ (lt1 _ (List.mem_of_getElem? (i := 99) rfl)))
    · exact va_Nw.of rfl (hts _ (lt1 _ (List.mem_of_getElem? (i := 153) rfl)))
    · exact va_Nw.of rfl (hts _ (lt2 _ (List.mem_of_getElem? (i := 176) rfl)))
    · exact va_Nw.of rfl (hts _ (lt1 _ (List.mem_of_getElem? (i := 105) rfl)))
  · exact va_AO.of o3
  · exact va_AO.of o4
  · refine ⟨vk_R.of (hts _ (lt3 _ (List.mem_of_getElem? (i := 119) rfl))) (hVE 0 (by decide)), vk_R.of (hts _ (lt3 _ (List.mem_of_getElem? (i := 54) rfl))) (hVE 1 (by decide)), ?_, ?_, ?_⟩
    · refine ⟨fun i hi => ?_, fun i j hi hj h => hVS.2 i j hi hj (by rw [← hsK i hi, ← hsK j hj]; exact h)⟩
      rw [hsK i hi, hsV i hi]
      exact hVS.1 i hi
    · exact va_Zof (hts _ (lt3 _ (List.mem_of_getElem? (i := 64) rfl))) (hts _ (BG_in _ (bg15 _ (List.mem_of_getElem? (i := 19) rfl)))) (va_eqi (hfl _ st_cs)) (fun a h => Nat.not_le.mpr h)
    · exact va_Zqof (hts _ (lt3 _ (List.mem_of_getElem? (i := 80) rfl))) (hts _ (BG_in _ (bg16 _ (List.mem_of_getElem? (i := 22) rfl)))) (hfl _ st_sf) (fun a h => Nat.not_le.mpr h)
/-- WHAT IS LEFT: for every script, at every first address, the law's functional text answers 1 -/
def Pure : Prop := ∀ (z L : Nat) (xs : Nat → Int32), L ≤ 3074 → ∃ (n : Nat) (So : MS), f_L_law n z L xs S0 = some ((1 : Int32), So)
set_option maxRecDepth 100000 in
theorem whole_start_open (hPure : Pure) {p : Program} {e : Env} {s : State} {m : MethodId} {below : List Frame} {meth : Method} {c : Code} (l : Launch) {b L : Nat} {xs : Nat → Int32} (hL : L ≤ 3074) (C0 : lw_At p s m meth c b L xs) : W p l e room_1 s m #[Value.ref b] below meth c s.heap [] 0 0 (lw_Z below #[Value.ref b] s) (entryFrame m ([Value.ref b] : List Value).toArray 4) := by
  obtain ⟨G, hz, hK⟩ := kx_start C0
  obtain ⟨hx, hb, hr, hml, hown, hts, hX, hbl, hlocks, hgv⟩ := id C0
  obtain ⟨n, So, hf⟩ := hPure G.2.2 L xs hL
  have hl := lv_entry ([.ref b]) (n := 4) (Nat.le_of_ble_eq_true rfl)
  rw [lg_entry_eq]
  generalize (lg_sl ([.ref b]) ++ List.replicate (4 - (lg_sl ([.ref b])).length) Slot.unset).toArray = ls at hl ⊢
  have hl : lv_has ls 4 [(0, .ref b)] := hl
  have hC : Cx G RL cL_law 4 (some .boolean) p s m #[Value.ref b] meth c := ⟨hx, hb, hml, hown, fun w h => hts w (BG_in w h), hr, hlocks, hK, by omega⟩
  have hR : Rp G S0 s.heap := ⟨fun k q h => by simp [wd, va_pl, S0, mL] at h, ⟨fun i j p q h => by simp [wd, va_pl, S0, mL] at h, fun k q h => by simp [wd, va_pl, S0, mL] at h⟩, by simp [S0, mL, hz]⟩
  exact w_law l hL G n S0 So hC hX hbl hz hR hf ls hl
