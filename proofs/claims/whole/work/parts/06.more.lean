/-! MORE ROWS: arraycopy, Object's constructor, new, newarray -/
section MR
variable {p : Program} {l : Launch} {e : Env} {R : Room} {s : State} {m : MethodId} {args : Array Value} {below : List Frame} {meth : Method} {c : Code} {H : Heap} {locs : List Loc} {cells slots : Nat} {Q : State → Prop}
variable {G : Gx} {own : String} {cc : ByteArray} {nL : Nat} {ret : Option FieldType} {S : MS} {pc : Nat} {ls : Array Slot} {rest : List Value} {a : Nat}
/-- the machine's own count of new cells bounds the heap -/
theorem W_sz {g : JFrame} (k : H.size ≤ s.heap.size + cells → W p l e R s m args below meth c H locs cells slots Q g) : W p l e R s m args below meth c H locs cells slots Q g := fun T hT X => k (by rw [← hT]; exact X.same.2.2.1) T hT X
def cpk (sp dp n : Int32) (n0 n1 : Nat) : Bool := !(decide (sp < 0)) && !(decide (dp < 0)) && !(decide (n < 0)) && decide (sp.toNatClampNeg + n.toNatClampNeg ≤ n0) && decide (dp.toNatClampNeg + n.toNatClampNeg ≤ n1)
theorem row_rI (S : MS) (a : Nat) (g : Nat → Int32) : mI (rI S a g) a = g := by
  funext j
  show upr _ a g a j = _
  simp [upr]
theorem row_ne_rI (S : MS) (a : Nat) (g : Nat → Int32) {b : Nat} (h : b ≠ a) : mI (rI S a g) b = mI S b := by
  funext j
  show upr _ a g b j = _
  simp [upr, h]
  rfl
theorem wE_rI_ne (cy : Nat → ClassId) (S : MS) (a : Nat) (g : Nat → Int32) (b : Nat) (h : b ≠ a) : wE cy (rI S a g) b = wE cy S b := wE_congr cy rfl rfl (row_ne_rI S a g h) rfl rfl
theorem r_copyI {β : Type} {kf : MS → Option β} {out : β} {a0 idx : Nat} {sp dp n : Int32} (hC : Cx G own cc nL ret p s m args meth c) (hR : Rp G S H) (hS : va_S (gA G) s.heap H locs) (hls : ls.size = nL) (hlink : Cond.methodLink own idx arraycopyName ∈ BG) (hnat : Cond.native arraycopyName ∈ BG) (hstat : Cond.static arraycopyName ∈ BG) (hini : Cond.initialized "java/lang/System" ∈ BG)
    (hok0 : Ok S a0 12) (hok : Ok S a 12) (hk : cpk sp dp n (mN S a0) (mN S a) = true) (hfr : 1 ≤ R.frames) (hlo : (rest.map fun v => v.category).sum + (nativeFrameWords "java/lang/System" "arraycopy" 5 + 11) ≤ R.locals) (hdg : decode cc pc = .ok (.invokestatic idx, 3)) (hf : bd (rI S a (va_cpy (mI S a0) (mI S a) sp.toNatClampNeg dp.toNatClampNeg n.toNatClampNeg)) kf = some out)
    (kk : ∀ (S1 : MS) (H1 : Heap) (locs1 : List Loc), kf S1 = some out → Rp G S1 H1 → va_S (gA G) s.heap H1 locs1 → Ex S S1 → W p l e R s m args below meth c H1 locs1 0 0 Q (F0 m (pc + 3) ls rest)) : W p l e R s m args below meth c H locs 0 0 Q (F0 m pc ls (.int n :: .int dp :: .ref a :: .int sp :: .ref a0 :: rest)) := by
  refine W_sz (fun hz => ?_)
  have hz0 : s.heap.size = H.size := Nat.le_antisymm hS.1 (by simpa using hz)
  simp only [cpk, Bool.and_eq_true, Bool.not_eq_true', decide_eq_false_iff_not, decide_eq_true_eq] at hk
  obtain ⟨⟨⟨⟨h1, h2⟩, h3⟩, h4⟩, h5⟩ := hk
  obtain ⟨k0, hk0⟩ := wd_get G hok0.1
  obtain ⟨k1, hk1⟩ := wd_get G hok.1
  have hk1' := hk1
  rw [wE_I hok0.2] at hk0
  rw [wE_I hok.2] at hk1
  refine va_copyi hC.x hC.b (hC.ml.trans hls.symm) hC.ow (hC.ts _ hlink) (hC.ts _ hnat) (hC.ts _ hstat) (hC.ts _ hini) hC.k hR.1 hR.2.1 hS k0 k1 0 0 hk0 hk1 rfl rfl rfl h1 h2 h3 h4 h5 (fun _ _ => rfl) hfr hlo hdg (fun H1 locs1 hP hD hS1 => ?_)
  refine W_sz (fun hz1 => ?_)
  have hz2 : H1.size = H.size := by
    have q := hS1.1
    have q2 : H1.size ≤ s.heap.size := by simpa using hz1
    omega
  have hw := wd_set G (S' := rI S a (va_cpy (mI S a0) (mI S a) sp.toNatClampNeg dp.toNatClampNeg n.toNatClampNeg)) hR.2.1 hok.1 hk1' rfl rfl (wE_rI_ne _ S a _)
  rw [wE_I (show mK (rI S a _) a = 12 from hok.2), row_rI] at hw
  have hw2 := hw
  refine kk _ H1 locs1 hf ⟨?_, ?_, by rw [hz2]; exact hR.2.2⟩ hS1 (fun _ _ h => h)
  · rw [← hw2]; exact hP
  · rw [← hw2]; exact hD
theorem r_obj {idx : Nat} (hC : Cx G own cc nL ret p s m args meth c) (hls : ls.size = nL) (hlink : Cond.methodLink own idx objectInit ∈ BG) (hinst : Cond.instanceMethod objectInit ∈ BG) (hcode : Cond.code objectInit ⟨#[0xb1]⟩ 1 none ∈ BG) (hfr : 1 ≤ R.frames) (hlo : (rest.map fun v => v.category).sum + 12 ≤ R.locals) (hdg : decode cc pc = .ok (.invokespecial idx, 3)) (kk : W p l e R s m args below meth c H locs cells slots Q (F0 m (pc + 3) ls rest)) : W p l e R s m args below meth c H locs cells slots Q (F0 m pc ls (.ref a :: rest)) :=
  W.objInit hC.x hC.b hC.ow (hC.ts _ hlink) (hC.ts _ hinst) (hC.ts _ hcode) rfl (by rw [hC.ml]; exact hls) rfl hdg hfr (by show 2 * 0 + _ + 12 ≤ _; omega) kk
theorem Rp.lt (hR : Rp G S H) (h : a ∈ mL S) : a < H.size := by
  obtain ⟨k, hk⟩ := wd_get G h
  exact (hR.1 k _ hk).lt
theorem nw_ne {b c0 n0 : Nat} (h : b ≠ a) : mK (nw S a c0 n0) b = mK S b ∧ mN (nw S a c0 n0) b = mN S b ∧ mI (nw S a c0 n0) b = mI S b ∧ mJ (nw S a c0 n0) b = mJ S b ∧ mR (nw S a c0 n0) b = mR S b := by
  refine ⟨?_, ?_, ?_, ?_, ?_⟩
  · show va_up _ a c0 b = _; rw [va_up_ne _ _ h]; rfl
  · show va_up _ a n0 b = _; rw [va_up_ne _ _ h]; rfl
  · funext j; simp only [mI, nw, upr, if_neg h]
  · funext j; simp only [mJ, nw, upr, if_neg h]
  · funext j; simp only [mR, nw, upr, if_neg h]
theorem nw_K {c0 n0 : Nat} : mK (nw S a c0 n0) a = c0 := va_up_self _ _ _
theorem nw_N {c0 n0 : Nat} : mN (nw S a c0 n0) a = n0 := va_up_self _ _ _
theorem nw_I {c0 n0 : Nat} : mI (nw S a c0 n0) a = fun _ => 0 := by funext j; simp [mI, nw, upr]
theorem nw_J {c0 n0 : Nat} : mJ (nw S a c0 n0) a = fun _ => 0 := by funext j; simp [mJ, nw, upr]
theorem nw_R {c0 n0 : Nat} : mR (nw S a c0 n0) a = fun _ => none := by funext j; simp [mR, nw, upr]
/-- a new cell at the heap's end -/
theorem Rp.push {H1 : Heap} {c0 n0 : Nat} (hR : Rp G S H) (ha : a = G.2.2 + (mL S).length) (hz : H1.size = H.size + 1) (oq : ∀ q : Nat, q < H.size → H1[q]? = H[q]?) (hat : va_at G.1 vwCl (a, wE G.2.1 (nw S a c0 n0) a) H1) : Rp G (nw S a c0 n0) H1 := by
  have haH : a = H.size := by rw [ha, hR.2.2]
  have hni : a ∉ mL S := fun h => Nat.lt_irrefl _ (haH ▸ hR.lt h)
  have hw : wd G (nw S a c0 n0) = wd G S ++ [(a, wE G.2.1 (nw S a c0 n0) a)] := by
    show va_pl (mL S ++ [a]) _ = va_pl (mL S) _ ++ _
    simp only [va_pl, List.map_append, List.map_cons, List.map_nil]
    congr 1
    refine List.map_congr_left (fun b hb => ?_)
    have hne : b ≠ a := fun q => hni (q ▸ hb)
    obtain ⟨e1, e2, e3, e4, e5⟩ := nw_ne (S := S) (c0 := c0) (n0 := n0) hne
    rw [wE_congr _ e1 e2 e3 e4 e5]
  refine ⟨?_, ?_, ?_⟩
  · rw [hw]
    refine (hR.1.kept (fun k x hx => oq x.1 ((hR.1 k x hx).lt))).app (fun k x hx => ?_)
    have hz : k < 1 := (List.getElem?_eq_some_iff.mp hx).1
    rw [show k = 0 by omega] at hx
    cases hx
    exact hat
  · rw [hw]
    exact hR.2.1.push hR.1 haH (by show G.2.2 ≤ a; omega)
  · show H1.size = G.2.2 + (mL S ++ [a]).length
    rw [hz, hR.2.2, List.length_append]
    rfl
theorem Ex.push {c0 n0 : Nat} (hR : Rp G S H) (ha : a = G.2.2 + (mL S).length) : Ex S (nw S a c0 n0) := fun b k h => by
  have hne : b ≠ a := fun q => by
    have := hR.lt h.1
    rw [hR.2.2, ← ha, q] at this
    exact Nat.lt_irrefl _ this
  exact ⟨List.mem_append_left _ h.1, (nw_ne hne).1.trans h.2⟩
theorem Ok.push {c0 n0 : Nat} : Ok (nw S a c0 n0) a c0 := ⟨List.mem_append_right _ (List.mem_singleton.mpr rfl), nw_K⟩
theorem sz_push {H1 : Heap} (hS : va_S (gA G) s.heap H locs) (hz : H1.size = H.size + 1) (oq : ∀ q : Nat, q < H.size → H1[q]? = H[q]?) : va_S (gA G) s.heap H1 locs := ⟨Nat.le_trans hS.1 (by omega), fun x h1 h2 => (oq x (Nat.lt_of_lt_of_le h1 hS.1)).trans (hS.2.1 x h1 h2), hS.2.2⟩
/-- new: an object of the class ci -/
theorem r_new {β : Type} {q : Nat} {kf : MS → Option β} {out : β} {ci idx : Nat} {C : String} {T : u_T} {N : Nat} (hcl : vwCl[ci]? = some (C, T, N)) (hc12 : ci < 12) (hin : ∀ w ∈ u_ws C T N, w ∈ BG) (hnf : nfOf ci = N) (hty : ∀ k, k < N → parseFieldDescriptor (T k).2.2.1 = some (tyOf ci k)) (hdf : ∀ k, k < N → defaultValue (tyOf ci k) = (if fk (tyOf ci k) = 0 then .int 0 else if fk (tyOf ci k) = 1 then .long 0 else .null)) (hlink : Cond.classLink own idx C ∈ BG) (hinst : Cond.instantiable C N ∈ BG) (hini : Cond.initialized C ∈ BG)
    (hC : Cx G own cc nL ret p s m args meth c) (hR : Rp G S H) (hS : va_S (gA G) s.heap H locs) (hcells : cells + 1 ≤ R.cells) (hslots : slots + N ≤ R.slots) (hdg : decode cc pc = .ok (.new idx, 3)) (hq : q = G.2.2 + (mL S).length) (hf : bd (nw S q ci 0) kf = some out)
    (kk : ∀ (S1 : MS) (H1 : Heap), kf S1 = some out → Rp G S1 H1 → va_S (gA G) s.heap H1 locs → Ex S S1 → Ok S1 q ci → W p l e R s m args below meth c H1 locs (cells + 1) (slots + N) Q (F0 m (pc + 3) ls (.ref q :: rest))) : W p l e R s m args below meth c H locs cells slots Q (F0 m pc ls rest) := by
  subst hq
  have hKn := hC.k.1 ci _ hcl
  have ha : H.size = G.2.2 + (mL S).length := hR.2.2
  refine W.newcK hC.x hC.b hC.ow (hC.ts _ hlink) (hC.ts _ hinst) (hC.ts _ hini) rfl hdg hcells hslots hKn.2.1 ha fun H1 kC hkC e1 z1 o1 => ?_
  have z2 : H1.size = H.size + 1 := by rw [z1, ha]
  have o2 : ∀ q : Nat, q < H.size → H1[q]? = H[q]? := fun q hq => o1 q (ha ▸ hq)
  refine kk _ H1 hf (hR.push rfl z2 o2 ?_) (sz_push hS z2 o2) (Ex.push hR rfl) Ok.push
  rw [wE_obj nw_K hc12]
  refine ⟨_, hcl, (u_born (tyOf ci) hC.ts hin hKn hkC e1 hty).to (fun k hk => ?_)⟩
  have hg := flds_get (c := ci) (k := k) (S := nw S (G.2.2 + (mL S).length) ci 0) (a := G.2.2 + (mL S).length) (by rw [hnf]; exact hk)
  show _ = (flds ci _ _).getD k .null
  rw [hdf k hk, List.getD_eq_getElem?_getD, hg]
  simp only [fv, nw_I, nw_J, nw_R, Option.getD_some]
  rfl
def nak (n : Int32) (N : Nat) : Bool := !(decide (n < 0)) && decide (n.toNatClampNeg ≤ N)
/-- newarray of int, long, boolean: at most NB long -/
theorem r_newa {β : Type} {q : Nat} {kf : MS → Option β} {out : β} {ci NB t0 : Nat} {atype : ArrayType} {ty : FieldType} {n : Int32} (hty : newarray.typeOf atype = ty) (harr : Cond.arrayClass ty ∈ BG) (ht : (tysOf G.2.1)[t0]? = some (G.2.1 t0, ty)) (hra : ∀ U cA, va_RA U cA ty → U.vm.findClass ("[" ++ ty.toString) = some cA) (hw : ∀ (S : MS) (a : Nat), mK S a = ci → mI S a = (fun _ => 0) → mJ S a = (fun _ => 0) → vp_cell (G.2.1 t0) (mN S a, .inl (fun _ => 0)) = vp_cell (G.2.1 t0) (mN S a, .inl (fun _ => 0)) → va_at G.1 vwCl (a, wE G.2.1 S a) = fun H => H[a]? = some (arrV (G.2.1 t0) (mN S a) (fun _ => defaultValue ty))) (hbytes : NB * componentBytes ty ≤ 536870912)
    (hC : Cx G own cc nL ret p s m args meth c) (hR : Rp G S H) (hS : va_S (gA G) s.heap H locs) (hn : nak n NB = true) (hcells : cells + 1 ≤ R.cells) (hslots : slots + NB ≤ R.slots) (hdg : decode cc pc = .ok (.newarray atype, 2)) (hq : q = G.2.2 + (mL S).length) (hf : bd (nw S q ci n.toNatClampNeg) kf = some out)
    (kk : ∀ (S1 : MS) (H1 : Heap), kf S1 = some out → Rp G S1 H1 → va_S (gA G) s.heap H1 locs → Ex S S1 → Ok S1 q ci → W p l e R s m args below meth c H1 locs (cells + 1) (slots + NB) Q (F0 m (pc + 2) ls (.ref q :: rest))) : W p l e R s m args below meth c H locs cells slots Q (F0 m pc ls (.int n :: rest)) := by
  subst hq
  simp only [nak, Bool.and_eq_true, Bool.not_eq_true', decide_eq_false_iff_not, decide_eq_true_eq] at hn
  subst hty
  have ha : H.size = G.2.2 + (mL S).length := hR.2.2
  refine va_newaK hC.x hC.b (hC.ts _ harr) rfl hdg rfl hn.1 rfl (Nat.le_trans (Nat.mul_le_mul_right _ hn.2) hbytes) hcells (Nat.le_trans (Nat.add_le_add_left hn.2 _) hslots) ha fun H1 cA e1 z1 o1 hAr hNm => ?_
  have z2 : H1.size = H.size + 1 := by rw [z1, ha]
  have o2 : ∀ q : Nat, q < H.size → H1[q]? = H[q]? := fun q hq => o1 q (ha ▸ hq)
  have hcA : cA = G.2.1 t0 := Option.some.inj (hNm.symm.trans (hra _ _ (hC.k.2 t0 _ ht).2))
  subst hcA
  refine W.widen (k := cells + 1) (n := slots + NB) (Nat.le_refl _) (Nat.add_le_add_left hn.2 _) ?_
  refine kk _ H1 hf (hR.push rfl z2 o2 ?_) (sz_push hS z2 o2) (Ex.push hR rfl) Ok.push
  have h9 := hw (nw S (G.2.2 + (mL S).length) ci n.toNatClampNeg) (G.2.2 + (mL S).length) nw_K nw_I nw_J rfl
  rw [h9, nw_N]
  exact e1
theorem atI : ∀ (G : Gx) (S : MS) (a : Nat), mK S a = 12 → mI S a = (fun _ => 0) → mJ S a = (fun _ => 0) → vp_cell (G.2.1 0) (mN S a, .inl (fun _ => 0)) = vp_cell (G.2.1 0) (mN S a, .inl (fun _ => 0)) → va_at G.1 vwCl (a, wE G.2.1 S a) = fun H => H[a]? = some (arrV (G.2.1 0) (mN S a) (fun _ => defaultValue .int)) := fun G S a h1 h2 _ _ => by
  rw [wE_I h1, h2]; rfl
theorem atJ : ∀ (G : Gx) (S : MS) (a : Nat), mK S a = 13 → mI S a = (fun _ => 0) → mJ S a = (fun _ => 0) → vp_cell (G.2.1 1) (mN S a, .inl (fun _ => 0)) = vp_cell (G.2.1 1) (mN S a, .inl (fun _ => 0)) → va_at G.1 vwCl (a, wE G.2.1 S a) = fun H => H[a]? = some (arrV (G.2.1 1) (mN S a) (fun _ => defaultValue .long)) := fun G S a h1 _ h2 _ => by
  rw [wE_J h1, h2]; rfl
theorem atZ : ∀ (G : Gx) (S : MS) (a : Nat), mK S a = 14 → mI S a = (fun _ => 0) → mJ S a = (fun _ => 0) → vp_cell (G.2.1 2) (mN S a, .inl (fun _ => 0)) = vp_cell (G.2.1 2) (mN S a, .inl (fun _ => 0)) → va_at G.1 vwCl (a, wE G.2.1 S a) = fun H => H[a]? = some (arrV (G.2.1 2) (mN S a) (fun _ => defaultValue .boolean)) := fun G S a h1 h2 _ _ => by
  rw [wE_Z h1, h2]; rfl
/-- anewarray -/
theorem r_newq {β : Type} {q : Nat} {kf : MS → Option β} {out : β} {ci NB t0 idx : Nat} {C : String} {n : Int32} (ht : (tysOf G.2.1)[t0]? = some (G.2.1 t0, .object C)) (hwE : ∀ (S : MS) (a : Nat), mK S a = ci → wE G.2.1 S a = .inl (G.2.1 t0, mN S a, .inr (.inr (.inr (.inr (mR S a)))))) (hover : va_AO C s) (hlink : Cond.classLink own idx C ∈ BG) (hbytes : NB * 4 ≤ 536870912)
    (hC : Cx G own cc nL ret p s m args meth c) (hR : Rp G S H) (hS : va_S (gA G) s.heap H locs) (hn : nak n NB = true) (hcells : cells + 1 ≤ R.cells) (hslots : slots + NB ≤ R.slots) (hdg : decode cc pc = .ok (.anewarray idx, 3)) (hq : q = G.2.2 + (mL S).length) (hf : bd (nw S q ci n.toNatClampNeg) kf = some out)
    (kk : ∀ (S1 : MS) (H1 : Heap), kf S1 = some out → Rp G S1 H1 → va_S (gA G) s.heap H1 locs → Ex S S1 → Ok S1 q ci → W p l e R s m args below meth c H1 locs (cells + 1) (slots + NB) Q (F0 m (pc + 3) ls (.ref q :: rest))) : W p l e R s m args below meth c H locs cells slots Q (F0 m pc ls (.int n :: rest)) := by
  subst hq
  simp only [nak, Bool.and_eq_true, Bool.not_eq_true', decide_eq_false_iff_not, decide_eq_true_eq] at hn
  have ha : H.size = G.2.2 + (mL S).length := hR.2.2
  refine W.anew hC.x hC.b hC.ow (hC.ts _ hlink) (va_AO.use hover) rfl hdg rfl hn.1 (Nat.le_trans (Nat.mul_le_mul_right _ hn.2) hbytes) hcells (Nat.le_trans (Nat.add_le_add_left hn.2 _) hslots) fun cA kA comp f1 f2 f3 f4 => ?_
  generalize hH1 : H.push ({ cls := cA, slots := Array.replicate n.toNatClampNeg .null, vm := .none } : Cell) = H1
  have z1 : H1.size = H.size + 1 := by rw [← hH1, Array.size_push]
  have e1 : H1[H.size]? = some (arrV cA n.toNatClampNeg (fun _ => .null)) := by rw [← hH1, Array.getElem?_push_size, ← arrV_new]
  have o1 : ∀ q : Nat, q < H.size → H1[q]? = H[q]? := fun q hq => by rw [← hH1, Array.getElem?_push, if_neg (Nat.ne_of_lt hq)]
  obtain ⟨kA', comp', -, -, -, g4⟩ := (hC.k.2 t0 _ ht).2
  have hcA : cA = G.2.1 t0 := Option.some.inj (f1.symm.trans g4)
  subst hcA
  rw [ha] at e1 ⊢
  refine W.widen (k := cells + 1) (n := slots + NB) (Nat.le_refl _) (Nat.add_le_add_left hn.2 _) ?_
  refine kk _ H1 hf (hR.push rfl z1 o1 ?_) (sz_push hS z1 o1) (Ex.push hR rfl) Ok.push
  rw [hwE _ _ nw_K, nw_N, nw_R]
  show H1[_]? = some (vp_cell _ _)
  rw [vp_cell_q]
  exact e1
/-- aastore of an object of the class ci -/
theorem r_aast {β : Type} {kf : MS → Option β} {out : β} {ca ci t0 v : Nat} {C : String} {T : u_T} {N : Nat} {i : Int32} (hc12 : ci < 12) (hcl : vwCl[ci]? = some (C, T, N)) (ht : (tysOf G.2.1)[t0]? = some (G.2.1 t0, .object C)) (hwE : ∀ (S : MS) (a : Nat), mK S a = ca → wE G.2.1 S a = .inl (G.2.1 t0, mN S a, .inr (.inr (.inr (.inr (mR S a))))))
    (hC : Cx G own cc nL ret p s m args meth c) (hR : Rp G S H) (hS : va_S (gA G) s.heap H locs) (hok : Ok S a ca) (hov : Ok S v ci) (hi : inb i (mN S a) = true) (hdg : decode cc pc = .ok (.aastore, 1)) (hf : bd (sR S a i.toNatClampNeg (some v)) kf = some out)
    (kk : ∀ (S1 : MS) (H1 : Heap) (locs1 : List Loc), kf S1 = some out → Rp G S1 H1 → va_S (gA G) s.heap H1 locs1 → Ex S S1 → W p l e R s m args below meth c H1 locs1 cells slots Q (F0 m (pc + 1) ls rest)) : W p l e R s m args below meth c H locs cells slots Q (F0 m pc ls (.ref v :: .int i :: .ref a :: rest)) := by
  obtain ⟨k, hk⟩ := wd_get G hok.1
  rw [hwE S a hok.2] at hk
  obtain ⟨kv, hkv⟩ := wd_obj G hov hc12
  obtain ⟨r', hr', cellV, g1, g2, g3, -⟩ := hR.1 kv _ hkv
  have hcls := (hC.k.1 ci _ hcl).2
  obtain ⟨kA, comp, k1, k2, k3, -⟩ := (hC.k.2 t0 _ ht).2
  have hcomp : comp = G.1.1 ci := Option.some.inj (k3.symm.trans hcls.1)
  subst hcomp
  obtain ⟨kC, hkC, -⟩ := hcls.2
  have hin := inb_in hi
  have h0 : ¬ i < 0 := fun q => hin (Or.inl q)
  have hlt : i.toNatClampNeg < mN S a := Nat.not_le.mp fun q => hin (Or.inr q)
  refine W.aast hC.x hC.b (hR.1 k _ hk) (fun q h => by cases h) (fun h => by cases h) k1 k2 rfl hkC ⟨h0, by show _ < (arrV _ _ _).slots.size; rw [arrV_size]; exact hlt⟩ g1 (fun q h => by rw [g3] at h; cases h) (by rw [g2]; exact hkC) (by rw [g2]; exact va_assign hcls) rfl rfl hdg fun H1 e1 z oq => ?_
  refine kk _ H1 _ hf (hR.put rfl ?_ (wE_sR_ne _ S a _ _) z oq) (hS.put z oq (hR.in hok.1)) (fun _ _ h => h)
  rw [hwE _ a (show mK (sR S a i.toNatClampNeg (some v)) a = ca from hok.2)]
  show H1[a]? = some (vp_cell _ _)
  rw [e1, vp_cell_q, vp_cell_q, arrV_store]
  congr 2
  funext q
  rw [mR_sR, if_pos rfl]
  by_cases hq : q = i.toNatClampNeg
  · subst hq; simp [updV, va_rf]
  · simp [updV, hq]
end MR
