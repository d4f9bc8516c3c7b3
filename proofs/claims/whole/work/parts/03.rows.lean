/-! ROWS over the state MS: a row an instruction -/
section RW
variable {p : Program} {l : Launch} {e : Env} {R : Room} {s : State} {m : MethodId} {args : Array Value} {below : List Frame} {meth : Method} {c : Code} {H : Heap} {locs : List Loc} {cells slots : Nat} {Q : State → Prop}
variable {G : Gx} {own : String} {cc : ByteArray} {nL : Nat} {ret : Option FieldType} {S : MS} {pc : Nat} {ls : Array Slot} {rest : List Value} {a : Nat}
theorem Cx.x (h : Cx G own cc nL ret p s m args meth c) : p.tables.exec = Jvm.exec := h.1
theorem Cx.b (h : Cx G own cc nL ret p s m args meth c) : c.code = cc := h.2.1
theorem Cx.ml (h : Cx G own cc nL ret p s m args meth c) : c.maxLocals = nL := h.2.2.1
theorem Cx.ow (h : Cx G own cc nL ret p s m args meth c) : s.vm.findClass own = some m.cls := h.2.2.2.1
theorem Cx.ts (h : Cx G own cc nL ret p s m args meth c) : ∀ w ∈ BG, w.before args s = true := h.2.2.2.2.1
theorem Cx.r (h : Cx G own cc nL ret p s m args meth c) : meth.sig.returnType = ret := h.2.2.2.2.2.1
theorem Cx.lk (h : Cx G own cc nL ret p s m args meth c) : meth.locks = false := h.2.2.2.2.2.2.1
theorem Cx.kx (h : Cx G own cc nL ret p s m args meth c) : Kx G s := h.2.2.2.2.2.2.2.1
theorem Cx.k (h : Cx G own cc nL ret p s m args meth c) : va_K G.1 vwCl (tysOf G.2.1) s := h.kx.1
theorem Cx.z (h : Cx G own cc nL ret p s m args meth c) : G.2.2 ≤ s.heap.size := h.2.2.2.2.2.2.2.2
theorem Cx.A (h : Cx G own cc nL ret p s m args meth c) : ∀ q, s.heap.size ≤ q → gA G q := fun _ hq => Nat.le_trans h.z hq
/-- getfield, any kind -/
theorem r_get (hC : Cx G own cc nL ret p s m args meth c) (hR : Rp G S H) {ci k idx : Nat} {C : String} {T : u_T} {N : Nat} (hok : Ok S a ci) (hc12 : ci < 12) (hcl : vwCl[ci]? = some (C, T, N)) (hin : ∀ w ∈ u_ws C T N, w ∈ BG) (hk : k < N) (hkn : k < nfOf ci) {v : Value} (hv : fv ci S a k = v) (hlink : Cond.fieldLink own idx (T k).1 (T k).2.1 (T k).2.2.1 ∈ BG) (hdg : decode cc pc = .ok (.getfield idx, 3))
    (kk : W p l e R s m args below meth c H locs cells slots Q (F0 m (pc + 3) ls (v :: rest))) : W p l e R s m args below meth c H locs cells slots Q (F0 m pc ls (.ref a :: rest)) := by
  obtain ⟨q0, hq⟩ := wd_obj G hok hc12
  exact va_get (D := G.1) (ci := ci) (C := C) (T := T) (N := N) hC.x hC.b hC.ts hin hC.ow hC.k hR.1 q0 hq hcl k hk (hC.ts _ hlink) (fun _ h9 => h9) (by rw [flds_get hkn, hv]) hdg kk
/-- the world behind a write at a -/
theorem Rp.put {S' : MS} {H1 : Heap} (hR : Rp G S H) (hL : mL S' = mL S) (ha : va_at G.1 vwCl (a, wE G.2.1 S' a) H1) (ho : ∀ b, b ≠ a → wE G.2.1 S' b = wE G.2.1 S b) (hz : H1.size = H.size) (oq : ∀ q : Nat, q ≠ a → H1[q]? = H[q]?) : Rp G S' H1 := by
  have key : ∀ (k : Nat) (q : Nat × va_E), (wd G S')[k]? = some q → ∃ b, q = (b, wE G.2.1 S' b) ∧ (wd G S)[k]? = some (b, wE G.2.1 S b) := by
    intro k q hq
    simp only [wd, va_pl, List.getElem?_map, hL] at hq ⊢
    cases hb : (mL S)[k]? with
    | none => rw [hb] at hq; cases hq
    | some b =>
      rw [hb] at hq
      exact ⟨b, (Option.some.inj hq).symm, rfl⟩
  refine ⟨fun k q hq => ?_, ⟨fun i j x y hx hy hxy => ?_, fun k q hq => ?_⟩, by rw [hz, hL]; exact hR.2.2⟩
  · obtain ⟨b, rfl, hb⟩ := key k q hq
    by_cases hba : b = a
    · subst hba; exact ha
    · have h1 := hR.1 k _ hb
      rw [← ho b hba] at h1
      exact h1.kept (oq b hba)
  · obtain ⟨b, rfl, hb⟩ := key i x hx
    obtain ⟨b', rfl, hb'⟩ := key j y hy
    exact hR.2.1.1 i j _ _ hb hb' hxy
  · obtain ⟨b, rfl, hb⟩ := key k q hq
    exact hR.2.1.2 k (b, wE G.2.1 S b) hb
theorem Rp.in (hR : Rp G S H) (h : a ∈ mL S) : gA G a := by
  obtain ⟨k, hk⟩ := wd_get G h
  exact hR.2.1.2 k _ hk
theorem wE_obj {cy : Nat → ClassId} {ci : Nat} (h : mK S a = ci) (hc : ci < 12) : wE cy S a = .inr (ci, flds ci S a) := by
  simp only [wE, h, hc, if_true]
/-- putfield, not final -/
theorem r_put {S' : MS} (hC : Cx G own cc nL ret p s m args meth c) (hR : Rp G S H) (hS : va_S (gA G) s.heap H locs) {ci k idx : Nat} {C : String} {T : u_T} {N : Nat} (hok : Ok S a ci) (hc12 : ci < 12) (hcl : vwCl[ci]? = some (C, T, N)) (hin : ∀ w ∈ u_ws C T N, w ∈ BG) (ty0 : Nat → FieldType) (hty : ∀ k, k < N → parseFieldDescriptor (T k).2.2.1 = some (ty0 k)) (hnm : ∀ a, a < N → ∀ b, b < N → a ≠ b → (T a).2.1 ≠ (T b).2.1) (hk : k < N) (hkn : k < nfOf ci)
    (hlink : Cond.fieldLink own idx (T k).1 (T k).2.1 (T k).2.2.1 ∈ BG) (hfin : (T k).2.2.2 = false) {ty : FieldType} {v : Value} (hd : parseFieldDescriptor (T k).2.2.1 = some ty) (hn : narrow ty v = v) (hfit : fits ty v = true)
    (hL : mL S' = mL S) (hK' : mK S' a = mK S a) (hset : (flds ci S a).set k v = flds ci S' a) (ho : ∀ b, b ≠ a → wE G.2.1 S' b = wE G.2.1 S b) (hdg : decode cc pc = .ok (.putfield idx, 3))
    (kk : ∀ (H1 : Heap) (locs1 : List Loc), Rp G S' H1 → va_S (gA G) s.heap H1 locs1 → W p l e R s m args below meth c H1 locs1 cells slots Q (F0 m (pc + 3) ls rest)) : W p l e R s m args below meth c H locs cells slots Q (F0 m pc ls (v :: .ref a :: rest)) := by
  obtain ⟨q0, hq⟩ := wd_obj G hok hc12
  have hap := va_apart (own := own) hC.ts hin ty0 hty hnm hC.k hcl
  obtain ⟨r, h1, cell, q1, q2, q3, q4⟩ := hR.1 q0 _ hq
  have hr : r = (C, T, N) := Option.some.inj (h1.symm.trans hcl)
  subst hr
  obtain ⟨hSl, hfc, kC, hkC, hkind⟩ := hC.k.1 ci _ hcl
  obtain ⟨cf, kf, fi, f, hi, hsl⟩ := hSl k hk
  have hlay := hC.ts _ (hin _ (u_in_lay hk))
  unfold u_lay at hlay
  rw [if_neg (by rw [hfin]; decide)] at hlay
  have h6 := u_store hfc hkC hkind hlay hi hd hn hfit
  refine W.putK hC.x hC.b (f := f) ⟨hC.ow, hC.ts _ hlink, ⟨_, _, _, hi⟩, (u_facts hfc hkC (u_lays hC.ts hin hk) hi).1⟩ (by rw [q2]; exact h6) q1 q3 (by rw [hsl]; exact k2_hasslot (q4 k hk)) rfl rfl hdg fun H' e1 e2 e3 => ?_
  refine kk H' _ (hR.put hL ?_ ho e2 e3) (hS.put e2 e3 (hR.in hok.1))
  rw [wE_obj (hK'.trans hok.2) hc12]
  rw [hsl] at e1
  refine ⟨_, hcl, t_OB.to (V := updV (vp_V (flds ci S a)) k v) ⟨_, e1, q2, q3, t_set q4 hap hk v⟩ (fun j _ => ?_)⟩
  show _ = vp_V (flds ci S' a) j
  rw [← hset]
  exact vp_updV_set (by rw [flds_len]; exact hkn) v j
/-- putfield of a final field, in a constructor -/
theorem r_putF {S' : MS} (hC : Cx G own cc nL ret p s m args meth c) (hR : Rp G S H) (hS : va_S (gA G) s.heap H locs) {ci k idx : Nat} {C : String} {T : u_T} {N : Nat} (hok : Ok S a ci) (hc12 : ci < 12) (hcl : vwCl[ci]? = some (C, T, N)) (hin : ∀ w ∈ u_ws C T N, w ∈ BG) (ty0 : Nat → FieldType) (hty : ∀ k, k < N → parseFieldDescriptor (T k).2.2.1 = some (ty0 k)) (hnm : ∀ a, a < N → ∀ b, b < N → a ≠ b → (T a).2.1 ≠ (T b).2.1) (hk : k < N) (hkn : k < nfOf ci)
    (hlink : Cond.fieldLink own idx (T k).1 (T k).2.1 (T k).2.2.1 ∈ BG) (hfin : (T k).2.2.2 = true) (hin2 : meth.name = "<init>") (hdecl : (T k).1 = own) {ty : FieldType} {v : Value} (hd : parseFieldDescriptor (T k).2.2.1 = some ty) (hn : narrow ty v = v) (hfit : fits ty v = true)
    (hL : mL S' = mL S) (hK' : mK S' a = mK S a) (hset : (flds ci S a).set k v = flds ci S' a) (ho : ∀ b, b ≠ a → wE G.2.1 S' b = wE G.2.1 S b) (hdg : decode cc pc = .ok (.putfield idx, 3))
    (kk : ∀ (H1 : Heap) (locs1 : List Loc), Rp G S' H1 → va_S (gA G) s.heap H1 locs1 → W p l e R s m args below meth c H1 locs1 cells slots Q (F0 m (pc + 3) ls rest)) : W p l e R s m args below meth c H locs cells slots Q (F0 m pc ls (v :: .ref a :: rest)) := by
  obtain ⟨q0, hq⟩ := wd_obj G hok hc12
  have hap := va_apart (own := own) hC.ts hin ty0 hty hnm hC.k hcl
  obtain ⟨r, h1, cell, q1, q2, q3, q4⟩ := hR.1 q0 _ hq
  have hr : r = (C, T, N) := Option.some.inj (h1.symm.trans hcl)
  subst hr
  obtain ⟨hSl, hfc, kC, hkC, hkind⟩ := hC.k.1 ci _ hcl
  obtain ⟨cf, kf, fi, f, hi, hsl⟩ := hSl k hk
  have hlay := hC.ts _ (hin _ (u_in_lay hk))
  unfold u_lay at hlay
  rw [if_pos hfin] at hlay
  have hcf : m.cls = cf := by
    obtain ⟨_, _, c', _, _, _, -, -, hf', -, -, -, hown2, -⟩ := Cond.laysFinal_spec hlay
    have e1 : c' = cf := by have := hi.symm.trans hf'; simp at this; exact this.1.symm
    rw [hdecl] at hown2
    rw [← e1]; exact Option.some.inj (hC.ow.symm.trans hown2)
  have h6 := u_fits hfc hkC hkind (Or.inr hlay) hi hd hn hfit
  refine W.putFinK hC.x hC.b hC.ow (hC.ts _ hlink) hi (u_facts hfc hkC (u_lays hC.ts hin hk) hi).1 hcf hin2 (by rw [q2]; exact h6) q1 q3 (by rw [hsl]; exact k2_hasslot (q4 k hk)) rfl rfl hdg fun H' e1 e2 e3 => ?_
  refine kk H' _ (hR.put hL ?_ ho e2 e3) (hS.put e2 e3 (hR.in hok.1))
  rw [wE_obj (hK'.trans hok.2) hc12]
  rw [hsl] at e1
  refine ⟨_, hcl, t_OB.to (V := updV (vp_V (flds ci S a)) k v) ⟨_, e1, q2, q3, t_set q4 hap hk v⟩ (fun j _ => ?_)⟩
  show _ = vp_V (flds ci S' a) j
  rw [← hset]
  exact vp_updV_set (by rw [flds_len]; exact hkn) v j
/-- is i a place of an array of n? -/
def inb (i : Int32) (n : Nat) : Bool := !(decide (i < 0)) && decide (i.toNatClampNeg < n)
theorem inb_in {i : Int32} {n : Nat} (h : inb i n = true) : vp_in i n := by
  simp only [inb, Bool.and_eq_true, Bool.not_eq_true', decide_eq_false_iff_not, decide_eq_true_eq] at h
  intro q
  rcases q with q | q
  · exact h.1 q
  · omega
theorem wE_I {cy : Nat → ClassId} (h : mK S a = 12) : wE cy S a = .inl (cy 0, mN S a, .inl (mI S a)) := by simp [wE, h]
theorem wE_J {cy : Nat → ClassId} (h : mK S a = 13) : wE cy S a = .inl (cy 1, mN S a, .inr (.inl (mJ S a))) := by simp [wE, h]
theorem wE_Z {cy : Nat → ClassId} (h : mK S a = 14) : wE cy S a = .inl (cy 2, mN S a, .inl (mI S a)) := by simp [wE, h]
theorem wE_P {cy : Nat → ClassId} (h : mK S a = 15) : wE cy S a = .inl (cy 3, mN S a, .inr (.inr (.inr (.inr (mR S a))))) := by simp [wE, h]
theorem wE_T {cy : Nat → ClassId} (h : mK S a = 16) : wE cy S a = .inl (cy 4, mN S a, .inr (.inr (.inr (.inr (mR S a))))) := by simp [wE, h]
theorem r_iald (hC : Cx G own cc nL ret p s m args meth c) (hR : Rp G S H) (hok : Ok S a 12) {i : Int32} (hi : inb i (mN S a) = true) (hdg : decode cc pc = .ok (.iaload, 1))
    (kk : W p l e R s m args below meth c H locs cells slots Q (F0 m (pc + 1) ls (.int (mI S a i.toNatClampNeg) :: rest))) : W p l e R s m args below meth c H locs cells slots Q (F0 m pc ls (.int i :: .ref a :: rest)) := by
  obtain ⟨k, hk⟩ := wd_get G hok.1
  rw [wE_I hok.2] at hk
  exact va_iald hC.x hC.b hC.k hR.1 k 0 hk rfl (inb_in hi) hdg kk
theorem r_lald (hC : Cx G own cc nL ret p s m args meth c) (hR : Rp G S H) (hok : Ok S a 13) {i : Int32} (hi : inb i (mN S a) = true) (hdg : decode cc pc = .ok (.laload, 1))
    (kk : W p l e R s m args below meth c H locs cells slots Q (F0 m (pc + 1) ls (.long (mJ S a i.toNatClampNeg) :: rest))) : W p l e R s m args below meth c H locs cells slots Q (F0 m pc ls (.int i :: .ref a :: rest)) := by
  obtain ⟨k, hk⟩ := wd_get G hok.1
  rw [wE_J hok.2] at hk
  exact va_lald hC.x hC.b hC.k hR.1 k 1 hk rfl (inb_in hi) hdg kk
theorem r_zald (hC : Cx G own cc nL ret p s m args meth c) (hR : Rp G S H) (hok : Ok S a 14) {i : Int32} (hi : inb i (mN S a) = true) (hdg : decode cc pc = .ok (.baload, 1))
    (kk : W p l e R s m args below meth c H locs cells slots Q (F0 m (pc + 1) ls (.int (mI S a i.toNatClampNeg) :: rest))) : W p l e R s m args below meth c H locs cells slots Q (F0 m pc ls (.int i :: .ref a :: rest)) := by
  obtain ⟨k, hk⟩ := wd_get G hok.1
  rw [wE_Z hok.2] at hk
  exact va_zald hC.x hC.b hC.k hR.1 k 2 hk rfl (inb_in hi) hdg kk
theorem r_pald (hC : Cx G own cc nL ret p s m args meth c) (hR : Rp G S H) (hok : Ok S a 15) {i : Int32} (hi : inb i (mN S a) = true) (hdg : decode cc pc = .ok (.aaload, 1)) {v : Value} (hv : va_rf (mR S a i.toNatClampNeg) = v)
    (kk : W p l e R s m args below meth c H locs cells slots Q (F0 m (pc + 1) ls (v :: rest))) : W p l e R s m args below meth c H locs cells slots Q (F0 m pc ls (.int i :: .ref a :: rest)) := by
  obtain ⟨k, hk⟩ := wd_get G hok.1
  rw [wE_P hok.2] at hk
  subst hv
  exact va_aldq hC.x hC.b hC.k hR.1 k 3 hk rfl (inb_in hi) hdg kk
theorem r_tald (hC : Cx G own cc nL ret p s m args meth c) (hR : Rp G S H) (hok : Ok S a 16) {i : Int32} (hi : inb i (mN S a) = true) (hdg : decode cc pc = .ok (.aaload, 1)) {v : Value} (hv : va_rf (mR S a i.toNatClampNeg) = v)
    (kk : W p l e R s m args below meth c H locs cells slots Q (F0 m (pc + 1) ls (v :: rest))) : W p l e R s m args below meth c H locs cells slots Q (F0 m pc ls (.int i :: .ref a :: rest)) := by
  obtain ⟨k, hk⟩ := wd_get G hok.1
  rw [wE_T hok.2] at hk
  subst hv
  exact va_aldq hC.x hC.b hC.k hR.1 k 4 hk rfl (inb_in hi) hdg kk
theorem r_alenI (hC : Cx G own cc nL ret p s m args meth c) (hR : Rp G S H) (hok : Ok S a 12) (hdg : decode cc pc = .ok (.arraylength, 1))
    (kk : W p l e R s m args below meth c H locs cells slots Q (F0 m (pc + 1) ls (.int (Int32.ofNat (mN S a)) :: rest))) : W p l e R s m args below meth c H locs cells slots Q (F0 m pc ls (.ref a :: rest)) := by
  obtain ⟨k, hk⟩ := wd_get G hok.1
  rw [wE_I hok.2] at hk
  exact va_alen hC.x hC.b hC.k hR.1 k 0 hk rfl rfl hdg kk
theorem r_alenT (hC : Cx G own cc nL ret p s m args meth c) (hR : Rp G S H) (hok : Ok S a 16) (hdg : decode cc pc = .ok (.arraylength, 1))
    (kk : W p l e R s m args below meth c H locs cells slots Q (F0 m (pc + 1) ls (.int (Int32.ofNat (mN S a)) :: rest))) : W p l e R s m args below meth c H locs cells slots Q (F0 m pc ls (.ref a :: rest)) := by
  obtain ⟨k, hk⟩ := wd_get G hok.1
  rw [wE_T hok.2] at hk
  exact va_alen hC.x hC.b hC.k hR.1 k 4 hk rfl rfl hdg kk
theorem r_alenP (hC : Cx G own cc nL ret p s m args meth c) (hR : Rp G S H) (hok : Ok S a 15) (hdg : decode cc pc = .ok (.arraylength, 1))
    (kk : W p l e R s m args below meth c H locs cells slots Q (F0 m (pc + 1) ls (.int (Int32.ofNat (mN S a)) :: rest))) : W p l e R s m args below meth c H locs cells slots Q (F0 m pc ls (.ref a :: rest)) := by
  obtain ⟨k, hk⟩ := wd_get G hok.1
  rw [wE_P hok.2] at hk
  exact va_alen hC.x hC.b hC.k hR.1 k 3 hk rfl rfl hdg kk
theorem r_iast (hC : Cx G own cc nL ret p s m args meth c) (hR : Rp G S H) (hS : va_S (gA G) s.heap H locs) (hok : Ok S a 12) {i x : Int32} (hi : inb i (mN S a) = true) (hdg : decode cc pc = .ok (.iastore, 1))
    (kk : ∀ (H1 : Heap) (locs1 : List Loc), Rp G (sI S a i.toNatClampNeg x) H1 → va_S (gA G) s.heap H1 locs1 → W p l e R s m args below meth c H1 locs1 cells slots Q (F0 m (pc + 1) ls rest)) : W p l e R s m args below meth c H locs cells slots Q (F0 m pc ls (.int x :: .int i :: .ref a :: rest)) := by
  obtain ⟨k, hk⟩ := wd_get G hok.1
  rw [wE_I hok.2] at hk
  refine W.iast hC.x hC.b (hR.1 k _ hk) ((hC.k.2 0 _ rfl).1 (mN S a) (fun j => .int (mI S a j))) (fun q => by cases q) (by show ¬ (i < 0 ∨ (arrV _ _ _).slots.size ≤ _); rw [arrV_size]; exact inb_in hi) rfl rfl hdg fun H1 e1 z oq => ?_
  refine kk H1 _ (hR.put rfl ?_ (wE_sI_ne _ S a _ x) z oq) (hS.put z oq (hR.in hok.1))
  rw [wE_I (show mK (sI S a i.toNatClampNeg x) a = 12 from hok.2), row_sI]
  show H1[a]? = some (vp_cell _ _)
  rw [e1, vp_cell_i, vp_cell_i, arrV_store]
  congr 2
  funext q
  by_cases hq : q = i.toNatClampNeg
  · subst hq; simp [updV, upd]
  · simp [updV, upd, hq]
theorem r_zast (hC : Cx G own cc nL ret p s m args meth c) (hR : Rp G S H) (hS : va_S (gA G) s.heap H locs) (hok : Ok S a 14) {i x : Int32} (hi : inb i (mN S a) = true) (hx : narrow .boolean (.int x) = .int x) (hdg : decode cc pc = .ok (.bastore, 1))
    (kk : ∀ (H1 : Heap) (locs1 : List Loc), Rp G (sI S a i.toNatClampNeg x) H1 → va_S (gA G) s.heap H1 locs1 → W p l e R s m args below meth c H1 locs1 cells slots Q (F0 m (pc + 1) ls rest)) : W p l e R s m args below meth c H locs cells slots Q (F0 m pc ls (.int x :: .int i :: .ref a :: rest)) := by
  obtain ⟨k, hk⟩ := wd_get G hok.1
  rw [wE_Z hok.2] at hk
  refine W.zast hC.x hC.b (hR.1 k _ hk) ((hC.k.2 2 _ rfl).1 (mN S a) (fun j => .int (mI S a j))) (fun q => by cases q) (by show ¬ (i < 0 ∨ (arrV _ _ _).slots.size ≤ _); rw [arrV_size]; exact inb_in hi) rfl rfl hdg fun H1 e1 z oq => ?_
  refine kk H1 _ (hR.put rfl ?_ (wE_sI_ne _ S a _ x) z oq) (hS.put z oq (hR.in hok.1))
  rw [wE_Z (show mK (sI S a i.toNatClampNeg x) a = 14 from hok.2), row_sI]
  show H1[a]? = some (vp_cell _ _)
  rw [e1, hx, vp_cell_i, vp_cell_i, arrV_store]
  congr 2
  funext q
  by_cases hq : q = i.toNatClampNeg
  · subst hq; simp [updV, upd]
  · simp [updV, upd, hq]
theorem r_last (hC : Cx G own cc nL ret p s m args meth c) (hR : Rp G S H) (hS : va_S (gA G) s.heap H locs) (hok : Ok S a 13) {i : Int32} {x : Int64} (hi : inb i (mN S a) = true) (hdg : decode cc pc = .ok (.lastore, 1))
    (kk : ∀ (H1 : Heap) (locs1 : List Loc), Rp G (sJ S a i.toNatClampNeg x) H1 → va_S (gA G) s.heap H1 locs1 → W p l e R s m args below meth c H1 locs1 cells slots Q (F0 m (pc + 1) ls rest)) : W p l e R s m args below meth c H locs cells slots Q (F0 m pc ls (.long x :: .int i :: .ref a :: rest)) := by
  obtain ⟨k, hk⟩ := wd_get G hok.1
  rw [wE_J hok.2] at hk
  refine W.last hC.x hC.b (hR.1 k _ hk) ((hC.k.2 1 _ rfl).1 (mN S a) (fun j => .long (mJ S a j))) (fun q => by cases q) (by show ¬ (i < 0 ∨ (arrV _ _ _).slots.size ≤ _); rw [arrV_size]; exact inb_in hi) rfl rfl hdg fun H1 e1 z oq => ?_
  refine kk H1 _ (hR.put rfl ?_ (wE_sJ_ne _ S a _ x) z oq) (hS.put z oq (hR.in hok.1))
  rw [wE_J (show mK (sJ S a i.toNatClampNeg x) a = 13 from hok.2)]
  show H1[a]? = some (vp_cell _ _)
  rw [e1, vp_cell_l, vp_cell_l, arrV_store]
  congr 2
  funext q
  rw [mJ_sJ, if_pos rfl]
  by_cases hq : q = i.toNatClampNeg
  · subst hq; simp [updV]
  · simp [updV, hq]
end RW
