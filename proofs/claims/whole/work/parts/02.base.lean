/-! THE STATE: one mathematical heap for both systems: addresses L, kind of each K, length of arrays N, ints I, longs J, references R, by address and slot (or place in the array) -/
abbrev MS : Type := List Nat × (Nat → Nat) × (Nat → Nat) × (Nat → Nat → Int32) × (Nat → Nat → Int64) × (Nat → Nat → Option Nat)
def mL (S : MS) : List Nat := S.1
def mK (S : MS) : Nat → Nat := S.2.1
def mN (S : MS) : Nat → Nat := S.2.2.1
def mI (S : MS) : Nat → Nat → Int32 := S.2.2.2.1
def mJ (S : MS) : Nat → Nat → Int64 := S.2.2.2.2.1
def mR (S : MS) : Nat → Nat → Option Nat := S.2.2.2.2.2
def up2 {α : Type} (f : Nat → Nat → α) (a k : Nat) (v : α) : Nat → Nat → α := fun b j => if b = a then (if j = k then v else f b j) else f b j
def upr {α : Type} (f : Nat → Nat → α) (a : Nat) (g : Nat → α) : Nat → Nat → α := fun b j => if b = a then g j else f b j
def sI (S : MS) (a k : Nat) (v : Int32) : MS := (S.1, S.2.1, S.2.2.1, up2 S.2.2.2.1 a k v, S.2.2.2.2.1, S.2.2.2.2.2)
def sJ (S : MS) (a k : Nat) (v : Int64) : MS := (S.1, S.2.1, S.2.2.1, S.2.2.2.1, up2 S.2.2.2.2.1 a k v, S.2.2.2.2.2)
def sR (S : MS) (a k : Nat) (v : Option Nat) : MS := (S.1, S.2.1, S.2.2.1, S.2.2.2.1, S.2.2.2.2.1, up2 S.2.2.2.2.2 a k v)
/-- a whole row of ints (longs) of an array -/
def rI (S : MS) (a : Nat) (g : Nat → Int32) : MS := (S.1, S.2.1, S.2.2.1, upr S.2.2.2.1 a g, S.2.2.2.2.1, S.2.2.2.2.2)
def rJ (S : MS) (a : Nat) (g : Nat → Int64) : MS := (S.1, S.2.1, S.2.2.1, S.2.2.2.1, upr S.2.2.2.2.1 a g, S.2.2.2.2.2)
/-- a new cell of kind c and length n at a, all 0 -/
def nw (S : MS) (a c n : Nat) : MS := (S.1 ++ [a], va_up S.2.1 a c, va_up S.2.2.1 a n, upr S.2.2.2.1 a (fun _ => 0), upr S.2.2.2.2.1 a (fun _ => 0), upr S.2.2.2.2.2 a (fun _ => none))
def Ok (S : MS) (a c : Nat) : Prop := a ∈ mL S ∧ mK S a = c
def Ex (S S' : MS) : Prop := ∀ a c, Ok S a c → Ok S' a c
theorem Ex.rf (S : MS) : Ex S S := fun _ _ h => h
theorem Ex.tr {S S' S2 : MS} (h : Ex S S') (h2 : Ex S' S2) : Ex S S2 := fun a c q => h2 a c (h a c q)
/-- the kinds of the fields: 0 int, 1 long, 2 reference -/
def fk : FieldType → Nat
  | .long => 1
  | .object _ => 2
  | .array _ => 2
  | _ => 0
def tyOf (c : Nat) : Nat → FieldType := match c with
  | 0 => tyX0
  | 1 => tyX1
  | 2 => tyX2
  | 3 => tyX3
  | 4 => tyX4
  | 5 => tyX5
  | 6 => tyX6
  | 7 => tyX7
  | 8 => tyX8
  | 9 => tyX9
  | 10 => tyX10
  | _ => tyX11
def nfOf (c : Nat) : Nat := match c with
  | 0 => 4
  | 1 => 8
  | 2 => 11
  | 3 => 12
  | 4 => 7
  | 5 => 2
  | 6 => 2
  | 7 => 10
  | 8 => 9
  | 9 => 6
  | 10 => 11
  | _ => 36
def fv (c : Nat) (S : MS) (a k : Nat) : Value := if fk (tyOf c k) = 0 then .int (mI S a k) else if fk (tyOf c k) = 1 then .long (mJ S a k) else va_rf (mR S a k)
def flds (c : Nat) (S : MS) (a : Nat) : List Value := (List.range (nfOf c)).map (fv c S a)
/-- what lies at an address; cy: the array classes of int, long, boolean, Plain, Text -/
def wE (cy : Nat → ClassId) (S : MS) (a : Nat) : va_E := if mK S a < 12 then .inr (mK S a, flds (mK S a) S a) else if mK S a = 12 then .inl (cy 0, mN S a, .inl (mI S a)) else if mK S a = 13 then .inl (cy 1, mN S a, .inr (.inl (mJ S a))) else if mK S a = 14 then .inl (cy 2, mN S a, .inl (mI S a)) else if mK S a = 15 then .inl (cy 3, mN S a, .inr (.inr (.inr (.inr (mR S a))))) else .inl (cy 4, mN S a, .inr (.inr (.inr (.inr (mR S a)))))
def tysOf (cy : Nat → ClassId) : List (ClassId × FieldType) := [(cy 0, .int), (cy 1, .long), (cy 2, .boolean), (cy 3, .object "WalkingFences$Plain"), (cy 4, .object "WalkingFences$Text")]
/-- the classes' numbers, the array classes, the first address -/
abbrev Gx : Type := va_G × (Nat → ClassId) × Nat
def gA (G : Gx) : Nat → Prop := fun q => G.2.2 ≤ q
def wd (G : Gx) (S : MS) : va_W := va_pl (mL S) (wE G.2.1 S)
/-- THE WORLD: the heap H holds S, from the first address on and nothing else there -/
def Rp (G : Gx) (S : MS) (H : Heap) : Prop := va_P G.1 vwCl (wd G S) H ∧ va_D (gA G) (wd G S) ∧ H.size = G.2.2 + (mL S).length
/-- links to private members of nest mates -/
def nestL : List (String × Nat × MethodName × String) := [(RX10, 132, yX7_init, RX10), (RX10, 21, yX6_init, RX10), (RX10, 28, yX4_init, RX10), (RX10, 41, yX5_init, RX10), (RX3, 80, yX10_isFarmer, RX10), (RX4, 20, yX0_init, RX10)]
def Nx (U : State) : Prop := ∀ q ∈ nestL, va_Nw (.methodLinkNest q.1 q.2.1 q.2.2.1 q.2.2.2) U
/-- the two texts of the class: their places in its pool, their chars -/
def tx0 : String := "<>=#+-*/(),;"
def tx1 : String := "weight lies beside x y hour strength spare many age area water min max not and or at hold far crop found bone stake "
def lenT : List Nat := [12, 116]
def bytT : List (List Int32) := [[60, 62, 61, 35, 43, 45, 42, 47, 40, 41, 44, 59], [119, 101, 105, 103, 104, 116, 32, 108, 105, 101, 115, 32, 98, 101, 115, 105, 100, 101, 32, 120, 32, 121, 32, 104, 111, 117, 114, 32, 115, 116, 114, 101, 110, 103, 116, 104, 32, 115, 112, 97, 114, 101, 32, 109, 97, 110, 121, 32, 97, 103, 101, 32, 97, 114, 101, 97, 32, 119, 97, 116, 101, 114, 32, 109, 105, 110, 32, 109, 97, 120, 32, 110, 111, 116, 32, 97, 110, 100, 32, 111, 114, 32, 97, 116, 32, 104, 111, 108, 100, 32, 102, 97, 114, 32, 99, 114, 111, 112, 32, 102, 111, 117, 110, 100, 32, 98, 111, 110, 101, 32, 115, 116, 97, 107, 101, 32]]
/-- where the two texts, and their chars, lie -/
def sK (G : Gx) (i : Nat) : Nat := G.2.1 (100 + i)
def sV (G : Gx) (i : Nat) : Nat := G.2.1 (200 + i)
def Tx (G : Gx) (U : State) : Prop := vk_R RX0 64 tx0 (sK G 0) U ∧ vk_R RX0 75 tx1 (sK G 1) U ∧ vk_S 2 lenT bytT (sK G) (sV G) (gA G) U U.heap ∧ va_Z "java/lang/String" "COMPACT_STRINGS" "Z" (.int 1) (gA G) U U.heap ∧ va_Zq "jdk/internal/util/Preconditions" "SIOOBE_FORMATTER" "Ljava/util/function/BiFunction;" (gA G) U U.heap
theorem Tx.warm {G : Gx} {s U : State} (h : Tx G s) (hW : s.WarmedH U.vm) (hh : ∀ a : Nat, a < s.heap.size → ¬ gA G a → U.heap[a]? = s.heap[a]?) : Tx G U := by
  obtain ⟨h1, h2, h3, h4, h5⟩ := h
  exact ⟨h1.warm hW, h2.warm hW, (h3.moved hW.alike).kept hh, (h4.moved hW.alike).kept hh, (h5.moved hW.alike).kept hh⟩
theorem Tx.same {G : Gx} {s U : State} (h : Tx G s) (hv : s.vm = U.vm) (hh : s.heap = U.heap) : Tx G U := by
  obtain ⟨h1, h2, h3, h4, h5⟩ := h
  refine ⟨h1.same hv.symm, h2.same hv.symm, ?_, ?_, ?_⟩
  · rw [← hh]; exact h3.moved (by rw [hv]; exact Vm.Alike.refl U.vm)
  · rw [← hh]; exact h4.moved (by rw [hv]; exact Vm.Alike.refl U.vm)
  · rw [← hh]; exact h5.moved (by rw [hv]; exact Vm.Alike.refl U.vm)
def Kx (G : Gx) (U : State) : Prop := va_K G.1 vwCl (tysOf G.2.1) U ∧ Nx U ∧ va_AO "WalkingFences$Plain" U ∧ va_AO "WalkingFences$Text" U ∧ Tx G U
theorem Kx.warm {G : Gx} {s U : State} (h : Kx G s) (hW : s.WarmedH U.vm) (hh : ∀ a : Nat, a < s.heap.size → ¬ gA G a → U.heap[a]? = s.heap[a]?) : Kx G U := ⟨va_K.moved hW.alike h.1, fun q hq => va_Nw.warmM hW (h.2.1 q hq), h.2.2.1.moved hW.alike, h.2.2.2.1.moved hW.alike, h.2.2.2.2.warm hW hh⟩
theorem Kx.same {G : Gx} {s U : State} (h : Kx G s) (hv : s.vm = U.vm) (hh : s.heap = U.heap) : Kx G U := ⟨va_K.moved (u := s) (U := U) (by rw [hv]; exact Vm.Alike.refl U.vm) h.1, fun q hq => va_Nw.same rfl hv (h.2.1 q hq), h.2.2.1.moved (by rw [hv]; exact Vm.Alike.refl U.vm), h.2.2.2.1.moved (by rw [hv]; exact Vm.Alike.refl U.vm), h.2.2.2.2.same hv hh⟩
abbrev BG : List Cond := wsL_law
/-- what holds in a frame of a method of the class own -/
def Cx (G : Gx) (own : String) (cc : ByteArray) (nL : Nat) (ret : Option FieldType) (p : Program) (s : State) (m : MethodId) (args : Array Value) (meth : Method) (c : Code) : Prop :=
  p.tables.exec = Jvm.exec ∧ c.code = cc ∧ c.maxLocals = nL ∧ s.vm.findClass own = some m.cls ∧ (∀ w ∈ BG, w.before args s = true) ∧ meth.sig.returnType = ret ∧ meth.locks = false ∧ Kx G s ∧ G.2.2 ≤ s.heap.size
theorem gBG : GoodIn BG BG := goodIn_sub (fun _ h => h) (by decide +kernel)
theorem gdBG {y : MethodName} {cc : ByteArray} {n : Nat} {ret : Option FieldType} (h : Cond.code y cc n ret ∈ BG) : GoodIn BG (Cond.code y cc n ret :: BG) := fun w hw => (List.mem_cons.mp hw).elim (fun e => e ▸ gBG _ h) (gBG w)
theorem wd_get (G : Gx) {S : MS} {a : Nat} (h : a ∈ mL S) : ∃ k : Nat, (wd G S)[k]? = some (a, wE G.2.1 S a) := va_pl_get (X := []) h
theorem wd_obj (G : Gx) {S : MS} {a c : Nat} (h : Ok S a c) (hc : c < 12) : ∃ k : Nat, (wd G S)[k]? = some (a, .inr (c, flds c S a)) := by
  obtain ⟨k, hk⟩ := wd_get G h.1
  refine ⟨k, hk.trans ?_⟩
  simp only [wE, h.2, hc, if_true]
theorem flds_get {c k : Nat} {S : MS} {a : Nat} (hk : k < nfOf c) : (flds c S a)[k]? = some (fv c S a k) := by
  simp [flds, hk]
theorem flds_len {c : Nat} {S : MS} {a : Nat} : (flds c S a).length = nfOf c := by simp [flds]
/-- a row of the world changed at a -/
theorem wd_set (G : Gx) {S S' : MS} {a k : Nat} {e : va_E} (hD : va_D (gA G) (wd G S)) (h : a ∈ mL S) (hk : (wd G S)[k]? = some (a, wE G.2.1 S a)) (hL : mL S' = mL S) (he : wE G.2.1 S' a = e) (ho : ∀ b, b ≠ a → wE G.2.1 S' b = wE G.2.1 S b) : (wd G S).set k (a, e) = wd G S' := by
  have h1 := va_pl_set (X := []) (e := e) hD h hk
  refine Eq.trans h1 ?_
  show va_pl (mL S) _ = va_pl (mL S') _
  rw [hL]
  refine va_pl_congr (fun b => ?_)
  by_cases hb : b = a
  · subst hb
    rw [va_up_self, he]
  · rw [va_up_ne _ _ hb, ho b hb]
theorem mL_sI (S : MS) (a k : Nat) (v : Int32) : mL (sI S a k v) = mL S := rfl
theorem mI_sI (S : MS) (a k : Nat) (v : Int32) (b j : Nat) : mI (sI S a k v) b j = if b = a then (if j = k then v else mI S b j) else mI S b j := rfl
theorem mJ_sJ (S : MS) (a k : Nat) (v : Int64) (b j : Nat) : mJ (sJ S a k v) b j = if b = a then (if j = k then v else mJ S b j) else mJ S b j := rfl
theorem mR_sR (S : MS) (a k : Nat) (v : Option Nat) (b j : Nat) : mR (sR S a k v) b j = if b = a then (if j = k then v else mR S b j) else mR S b j := rfl
theorem row_sI (S : MS) (a k : Nat) (v : Int32) : mI (sI S a k v) a = upd (mI S a) k v := by
  funext j
  rw [mI_sI, if_pos rfl]
  rfl
theorem row_ne_sI (S : MS) (a k : Nat) (v : Int32) {b : Nat} (h : b ≠ a) : mI (sI S a k v) b = mI S b := by
  funext j
  rw [mI_sI, if_neg h]
theorem row_ne_sJ (S : MS) (a k : Nat) (v : Int64) {b : Nat} (h : b ≠ a) : mJ (sJ S a k v) b = mJ S b := by
  funext j
  rw [mJ_sJ, if_neg h]
theorem row_ne_sR (S : MS) (a k : Nat) (v : Option Nat) {b : Nat} (h : b ≠ a) : mR (sR S a k v) b = mR S b := by
  funext j
  rw [mR_sR, if_neg h]
theorem wE_congr (cy : Nat → ClassId) {S S' : MS} {b : Nat} (hK : mK S' b = mK S b) (hN : mN S' b = mN S b) (hI : mI S' b = mI S b) (hJ : mJ S' b = mJ S b) (hR : mR S' b = mR S b) : wE cy S' b = wE cy S b := by
  have hf : ∀ c, flds c S' b = flds c S b := fun c => by
    unfold flds
    refine List.map_congr_left (fun k _ => ?_)
    simp only [fv, hI, hJ, hR]
  simp only [wE, hK, hN, hI, hJ, hR, hf]
theorem wE_sI_ne (cy : Nat → ClassId) (S : MS) (a k : Nat) (v : Int32) (b : Nat) (h : b ≠ a) : wE cy (sI S a k v) b = wE cy S b := wE_congr cy rfl rfl (row_ne_sI S a k v h) rfl rfl
theorem wE_sJ_ne (cy : Nat → ClassId) (S : MS) (a k : Nat) (v : Int64) (b : Nat) (h : b ≠ a) : wE cy (sJ S a k v) b = wE cy S b := wE_congr cy rfl rfl rfl (row_ne_sJ S a k v h) rfl
theorem wE_sR_ne (cy : Nat → ClassId) (S : MS) (a k : Nat) (v : Option Nat) (b : Nat) (h : b ≠ a) : wE cy (sR S a k v) b = wE cy S b := wE_congr cy rfl rfl rfl rfl (row_ne_sR S a k v h)
theorem fl_sI {c k : Nat} {S : MS} {a : Nat} {v : Int32} (hf : fk (tyOf c k) = 0) : (flds c S a).set k (.int v) = flds c (sI S a k v) a := by
  apply List.ext_getElem?
  intro j
  by_cases hj : j = k
  · subst hj
    by_cases hn : j < nfOf c
    · rw [List.getElem?_set_self (by rw [flds_len]; exact hn), flds_get hn]
      simp [fv, hf, mI_sI]
    · rw [List.getElem?_eq_none (by rw [List.length_set, flds_len]; omega), List.getElem?_eq_none (by rw [flds_len]; omega)]
  · rw [List.getElem?_set_ne (Ne.symm hj)]
    by_cases hn : j < nfOf c
    · rw [flds_get hn, flds_get hn]
      have : mI (sI S a k v) a j = mI S a j := by rw [mI_sI, if_pos rfl, if_neg hj]
      simp only [fv, this]
      rfl
    · rw [List.getElem?_eq_none (by rw [flds_len]; omega), List.getElem?_eq_none (by rw [flds_len]; omega)]
theorem fl_sJ {c k : Nat} {S : MS} {a : Nat} {v : Int64} (hf : fk (tyOf c k) = 1) : (flds c S a).set k (.long v) = flds c (sJ S a k v) a := by
  apply List.ext_getElem?
  intro j
  by_cases hj : j = k
  · subst hj
    by_cases hn : j < nfOf c
    · rw [List.getElem?_set_self (by rw [flds_len]; exact hn), flds_get hn]
      simp [fv, hf, mJ_sJ]
    · rw [List.getElem?_eq_none (by rw [List.length_set, flds_len]; omega), List.getElem?_eq_none (by rw [flds_len]; omega)]
  · rw [List.getElem?_set_ne (Ne.symm hj)]
    by_cases hn : j < nfOf c
    · rw [flds_get hn, flds_get hn]
      have : mJ (sJ S a k v) a j = mJ S a j := by rw [mJ_sJ, if_pos rfl, if_neg hj]
      simp only [fv, this]
      rfl
    · rw [List.getElem?_eq_none (by rw [flds_len]; omega), List.getElem?_eq_none (by rw [flds_len]; omega)]
theorem fl_sR {c k : Nat} {S : MS} {a : Nat} {v : Option Nat} (hf : fk (tyOf c k) = 2) : (flds c S a).set k (va_rf v) = flds c (sR S a k v) a := by
  apply List.ext_getElem?
  intro j
  by_cases hj : j = k
  · subst hj
    by_cases hn : j < nfOf c
    · rw [List.getElem?_set_self (by rw [flds_len]; exact hn), flds_get hn]
      simp [fv, hf, mR_sR]
    · rw [List.getElem?_eq_none (by rw [List.length_set, flds_len]; omega), List.getElem?_eq_none (by rw [flds_len]; omega)]
  · rw [List.getElem?_set_ne (Ne.symm hj)]
    by_cases hn : j < nfOf c
    · rw [flds_get hn, flds_get hn]
      have : mR (sR S a k v) a j = mR S a j := by rw [mR_sR, if_pos rfl, if_neg hj]
      simp only [fv, this]
      rfl
    · rw [List.getElem?_eq_none (by rw [flds_len]; omega), List.getElem?_eq_none (by rw [flds_len]; omega)]
