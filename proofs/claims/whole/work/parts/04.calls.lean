/-! CONTRACTS, calls, returns, and what the functional text of a method gives at each step -/
def Qn (G : Gx) (S : MS) (o : Option Value) (S' : MS) : Array Value → State → Outcome → State → Prop := fun _ st oc t => (oc = .returned o ∧ Rp G S' t.heap ∧ Ex S S') ∧ va_F (gA G) st t
/-- THE CONTRACT of a method: from a heap that holds S, with the arguments av, it returns o, and the heap holds S' -/
def Cn (G : Gx) (l : Launch) (y : MethodName) (cc : ByteArray) (nL : Nat) (ret : Option FieldType) (rm : Room) (av : List Value) (S : MS) (o : Option Value) (S' : MS) : Prop :=
  Met l y (Cond.code y cc nL ret :: BG) rm (va_Pc av (fun U => Rp G S U.heap ∧ Kx G U)) (Qn G S o S') rm.cells rm.slots (gA G)
def bd {α β : Type} (v : α) (k : α → Option β) : Option β := k v
def jn {α β : Type} (t : α) (k : α → Option β) : Option β := k t
def ck {α : Type} (b : Bool) (t : Option α) : Option α := if b = true then t else none
def dv {α : Type} (y : Int32) (t : Option α) : Option α := if y = 0 then none else t
def dvl {α : Type} (y : Int64) (t : Option α) : Option α := if y = 0 then none else t
def zb {α : Type} (v : Int32) (t : Option α) : Option α := if v = 0 ∨ v = 1 then t else none
def gR {α : Type} (S : MS) (o : Option Nat) (c : Nat) (k : Nat → Option α) : Option α := match o with
  | some q => if q ∈ mL S ∧ mK S q = c then k q else none
  | none => none
def gN {α : Type} (S : MS) (o : Option Nat) (c : Nat) (k : Option Nat → Option α) : Option α := match o with
  | some q => if q ∈ mL S ∧ mK S q = c then k (some q) else none
  | none => k none
def cl {α β : Type} (x : Option (α × MS)) (k : α → MS → Option β) : Option β := match x with
  | some (r, S) => k r S
  | none => none
def cv {β : Type} (x : Option MS) (k : MS → Option β) : Option β := match x with
  | some S => k S
  | none => none
def nn {α : Type} (o : Option Nat) (k : Nat → Option α) : Option α := match o with
  | some q => k q
  | none => none
theorem ck_of {α : Type} {b : Bool} {t : Option α} {o : α} (h : ck b t = some o) : b = true ∧ t = some o := by
  unfold ck at h
  by_cases hb : b = true
  · rw [if_pos hb] at h; exact ⟨hb, h⟩
  · rw [if_neg hb] at h; cases h
theorem dv_of {α : Type} {y : Int32} {t : Option α} {o : α} (h : dv y t = some o) : ¬ y = 0 ∧ t = some o := by
  unfold dv at h
  by_cases hb : y = 0
  · rw [if_pos hb] at h; cases h
  · rw [if_neg hb] at h; exact ⟨hb, h⟩
theorem dvl_of {α : Type} {y : Int64} {t : Option α} {o : α} (h : dvl y t = some o) : ¬ y = 0 ∧ t = some o := by
  unfold dvl at h
  by_cases hb : y = 0
  · rw [if_pos hb] at h; cases h
  · rw [if_neg hb] at h; exact ⟨hb, h⟩
def BZ (v : Int32) : Prop := narrow .boolean (.int v) = .int v ∧ fits .boolean (.int v) = true
theorem zb_of {α : Type} {v : Int32} {t : Option α} {o : α} (h : zb v t = some o) : BZ v ∧ t = some o := by
  unfold zb at h
  by_cases hb : v = 0 ∨ v = 1
  · rw [if_pos hb] at h
    refine ⟨?_, h⟩
    rcases hb with rfl | rfl <;> exact ⟨rfl, rfl⟩
  · rw [if_neg hb] at h; cases h
theorem gR_of {α : Type} {S : MS} {o : Option Nat} {c : Nat} {k : Nat → Option α} {out : α} (h : gR S o c k = some out) : ∃ q, o = some q ∧ Ok S q c ∧ k q = some out := by
  unfold gR at h
  cases o with
  | none => cases h
  | some q =>
    dsimp only at h
    by_cases hb : q ∈ mL S ∧ mK S q = c
    · rw [if_pos hb] at h; exact ⟨q, rfl, hb, h⟩
    · rw [if_neg hb] at h; cases h
theorem gN_of {α : Type} {S : MS} {o : Option Nat} {c : Nat} {k : Option Nat → Option α} {out : α} (h : gN S o c k = some out) : (∀ q, o = some q → Ok S q c) ∧ k o = some out := by
  unfold gN at h
  cases o with
  | none => exact ⟨fun q h => (by cases h), h⟩
  | some q =>
    dsimp only at h
    by_cases hb : q ∈ mL S ∧ mK S q = c
    · rw [if_pos hb] at h; exact ⟨fun q' hq => (by cases hq; exact hb), h⟩
    · rw [if_neg hb] at h; cases h
theorem nn_of {α : Type} {o : Option Nat} {k : Nat → Option α} {out : α} (h : nn o k = some out) : ∃ q, o = some q ∧ k q = some out := by
  unfold nn at h
  cases o with
  | none => cases h
  | some q => exact ⟨q, rfl, h⟩
theorem cl_of {α β : Type} {x : Option (α × MS)} {k : α → MS → Option β} {out : β} (h : cl x k = some out) : ∃ r S, x = some (r, S) ∧ k r S = some out := by
  unfold cl at h
  cases x with
  | none => cases h
  | some q => exact ⟨q.1, q.2, rfl, h⟩
theorem cv_of {β : Type} {x : Option MS} {k : MS → Option β} {out : β} (h : cv x k = some out) : ∃ S, x = some S ∧ k S = some out := by
  unfold cv at h
  cases x with
  | none => cases h
  | some q => exact ⟨q, rfl, h⟩
theorem jn_of {α β : Type} {t : α} {k : α → Option β} {o : β} (h : jn t k = some o) : ∃ j, j = t ∧ k j = some o := ⟨t, rfl, h⟩
theorem jn_of1 {α1 β γ : Type} {t : α1 → Option γ} {k : (α1 → Option γ) → Option β} {o : β} (h : jn t k = some o) : ∃ j : α1 → Option γ, (∀ (x1 : α1), j x1 = t x1) ∧ k j = some o := ⟨t, fun _ => rfl, h⟩
theorem jn_of2 {α1 α2 β γ : Type} {t : α1 → α2 → Option γ} {k : (α1 → α2 → Option γ) → Option β} {o : β} (h : jn t k = some o) : ∃ j : α1 → α2 → Option γ, (∀ (x1 : α1) (x2 : α2), j x1 x2 = t x1 x2) ∧ k j = some o := ⟨t, fun _ _ => rfl, h⟩
theorem jn_of3 {α1 α2 α3 β γ : Type} {t : α1 → α2 → α3 → Option γ} {k : (α1 → α2 → α3 → Option γ) → Option β} {o : β} (h : jn t k = some o) : ∃ j : α1 → α2 → α3 → Option γ, (∀ (x1 : α1) (x2 : α2) (x3 : α3), j x1 x2 x3 = t x1 x2 x3) ∧ k j = some o := ⟨t, fun _ _ _ => rfl, h⟩
theorem jn_of4 {α1 α2 α3 α4 β γ : Type} {t : α1 → α2 → α3 → α4 → Option γ} {k : (α1 → α2 → α3 → α4 → Option γ) → Option β} {o : β} (h : jn t k = some o) : ∃ j : α1 → α2 → α3 → α4 → Option γ, (∀ (x1 : α1) (x2 : α2) (x3 : α3) (x4 : α4), j x1 x2 x3 x4 = t x1 x2 x3 x4) ∧ k j = some o := ⟨t, fun _ _ _ _ => rfl, h⟩
theorem jn_of5 {α1 α2 α3 α4 α5 β γ : Type} {t : α1 → α2 → α3 → α4 → α5 → Option γ} {k : (α1 → α2 → α3 → α4 → α5 → Option γ) → Option β} {o : β} (h : jn t k = some o) : ∃ j : α1 → α2 → α3 → α4 → α5 → Option γ, (∀ (x1 : α1) (x2 : α2) (x3 : α3) (x4 : α4) (x5 : α5), j x1 x2 x3 x4 x5 = t x1 x2 x3 x4 x5) ∧ k j = some o := ⟨t, fun _ _ _ _ _ => rfl, h⟩
theorem jn_of6 {α1 α2 α3 α4 α5 α6 β γ : Type} {t : α1 → α2 → α3 → α4 → α5 → α6 → Option γ} {k : (α1 → α2 → α3 → α4 → α5 → α6 → Option γ) → Option β} {o : β} (h : jn t k = some o) : ∃ j : α1 → α2 → α3 → α4 → α5 → α6 → Option γ, (∀ (x1 : α1) (x2 : α2) (x3 : α3) (x4 : α4) (x5 : α5) (x6 : α6), j x1 x2 x3 x4 x5 x6 = t x1 x2 x3 x4 x5 x6) ∧ k j = some o := ⟨t, fun _ _ _ _ _ _ => rfl, h⟩
theorem jn_of7 {α1 α2 α3 α4 α5 α6 α7 β γ : Type} {t : α1 → α2 → α3 → α4 → α5 → α6 → α7 → Option γ} {k : (α1 → α2 → α3 → α4 → α5 → α6 → α7 → Option γ) → Option β} {o : β} (h : jn t k = some o) : ∃ j : α1 → α2 → α3 → α4 → α5 → α6 → α7 → Option γ, (∀ (x1 : α1) (x2 : α2) (x3 : α3) (x4 : α4) (x5 : α5) (x6 : α6) (x7 : α7), j x1 x2 x3 x4 x5 x6 x7 = t x1 x2 x3 x4 x5 x6 x7) ∧ k j = some o := ⟨t, fun _ _ _ _ _ _ _ => rfl, h⟩
theorem jn_of8 {α1 α2 α3 α4 α5 α6 α7 α8 β γ : Type} {t : α1 → α2 → α3 → α4 → α5 → α6 → α7 → α8 → Option γ} {k : (α1 → α2 → α3 → α4 → α5 → α6 → α7 → α8 → Option γ) → Option β} {o : β} (h : jn t k = some o) : ∃ j : α1 → α2 → α3 → α4 → α5 → α6 → α7 → α8 → Option γ, (∀ (x1 : α1) (x2 : α2) (x3 : α3) (x4 : α4) (x5 : α5) (x6 : α6) (x7 : α7) (x8 : α8), j x1 x2 x3 x4 x5 x6 x7 x8 = t x1 x2 x3 x4 x5 x6 x7 x8) ∧ k j = some o := ⟨t, fun _ _ _ _ _ _ _ _ => rfl, h⟩
theorem ne_toInt {x v : Int32} {z : Int} (h : ¬ x = v) (hv : v.toInt = z) : x.toInt ≠ z := fun q => h (Int32.toInt_inj.mp (q.trans hv.symm))
theorem if_t {α : Type} {P : Prop} [Decidable P] {A B : Option α} {o : α} (h : (if P then A else B) = some o) (hp : P) : A = some o := by rw [if_pos hp] at h; exact h
theorem if_f {α : Type} {P : Prop} [Decidable P] {A B : Option α} {o : α} (h : (if P then A else B) = some o) (hp : ¬ P) : B = some o := by rw [if_neg hp] at h; exact h
def imin (x y : Int32) : Int32 := if y < x then y else x
def imax (x y : Int32) : Int32 := if x < y then y else x
def jmin (x y : Int64) : Int64 := if y < x then y else x
def jmax (x y : Int64) : Int64 := if y < x then x else y
def iush (x y : Int32) : Int32 := (x.toUInt32 >>> (y.toUInt32 &&& Int32.toUInt32 31)).toInt32
def lush (x : Int64) (y : Int32) : Int64 := (x.toUInt64 >>> (y.toInt64.toUInt64 &&& Int64.toUInt64 63)).toInt64
def lsh (x : Int64) (y : Int32) : Int64 := x <<< (y.toInt64 &&& 63)
def lshrv (x : Int64) (y : Int32) : Int64 := x >>> (y.toInt64 &&& 63)
section CL
variable {p : Program} {l : Launch} {e : Env} {R : Room} {s : State} {m : MethodId} {args : Array Value} {below : List Frame} {meth : Method} {c : Code} {H : Heap} {locs : List Loc} {cells slots : Nat} {Q : State → Prop}
variable {G : Gx} {own : String} {cc : ByteArray} {nL : Nat} {ret : Option FieldType} {S : MS} {pc : Nat} {ls : Array Slot} {rest : List Value} {a : Nat}
theorem bdi {β : Type} {x : Int32} {k : Int32 → Option β} {out : β} (h : bd x k = some out) (kk : ∀ y : Int32, k y = some out → W p l e R s m args below meth c H locs cells slots Q (F0 m pc ls (.int y :: rest))) : W p l e R s m args below meth c H locs cells slots Q (F0 m pc ls (.int x :: rest)) := kk x h
theorem bdl {β : Type} {x : Int64} {k : Int64 → Option β} {out : β} (h : bd x k = some out) (kk : ∀ y : Int64, k y = some out → W p l e R s m args below meth c H locs cells slots Q (F0 m pc ls (.long y :: rest))) : W p l e R s m args below meth c H locs cells slots Q (F0 m pc ls (.long x :: rest)) := kk x h
/-- from the walk of its body to the contract -/
theorem Cn.of {y : MethodName} {rm : Room} {av : List Value} {o : Option Value} {S' : MS} (hy : plainName y.cls = true) (hlen : (lg_sl av).length ≤ nL)
    (body : ∀ (p : Program) (e : Env) (s : State) (m : MethodId) (args : Array Value) (below : List Frame) (meth : Method) (c : Code), Cx G y.cls cc nL ret p s m args meth c → meth.name = y.name → Rp G S s.heap → ∀ ls : Array Slot, lv_has ls nL (lv_args 0 av) → W p l e rm s m args below meth c s.heap [] 0 0 (MQ below (Qn G S o S') args s rm.cells rm.slots (gA G)) (F0 m 0 ls [])) : Cn G l y cc nL ret rm av S o S' := by
  refine Met.ofW (cc := cc) (maxL := nL) (ret := ret) hy rfl ?_
  intro p e s m args below meth c s₁ B hml hv
  obtain ⟨rfl, hR, hK⟩ := hv
  have hts := atoms_spec (ws := Cond.code y cc nL ret :: BG) B.pre
  have hl := lv_entry av (n := nL) hlen
  rw [lg_entry_eq]
  exact body p e s m _ below meth c ⟨B.exec, B.bytes, hml, findClass_of_methodNamed B.named, fun w h => hts w (List.mem_cons_of_mem _ h), B.returns, B.notSynchronized, hK, by rw [hR.2.2]; exact Nat.le_add_right _ _⟩ (name_of_methodNamed B.named B.method).1 hR _ hl
theorem r_blind {av : List Value} : FrameBlind (va_Pc av (fun U => Rp G S U.heap ∧ Kx G U)) := fun a U g mk q => by
  obtain ⟨q0, qR, qK⟩ := q
  exact ⟨q0, qR, qK.same rfl rfl⟩
theorem r_goes {S' : MS} {mc ms : Nat} {o : Option Value} {a0 : Array Value} {st0 : List Value} (hr : va_Run p l e R s m args below meth c H locs cells slots mc ms (F0 m pc ls st0) rest (Qn G S o S' a0) (gA G)) (hS : va_S (gA G) s.heap H locs)
    (kk : ∀ (H1 : Heap) (locs1 : List Loc), Rp G S' H1 → va_S (gA G) s.heap H1 locs1 → Ex S S' → W p l e R s m args below meth c H1 locs1 (cells + mc) (slots + ms) Q (F0 m (pc + 3) ls (o.toList ++ rest))) : W p l e R s m args below meth c H locs cells slots Q (F0 m pc ls st0) := by
  intro T hT X
  obtain ⟨v, st₀, t, T', L, h0, X', hL, e1, e2, ⟨⟨hv, hR', hE⟩, hz, hk⟩, st⟩ := hr T hT X
  cases hv
  rw [h0] at hz hk
  obtain ⟨t2, a1, b1⟩ := kk T'.heap (locs ++ L) (by rw [e1]; exact hR')
    ⟨Nat.le_trans hS.1 (by rw [e1]; exact hz), fun q h1 h2 => by rw [e1, hk q (Nat.lt_of_lt_of_le h1 hS.1) h2]; exact hS.2.1 q h1 h2, fun q hq => by
      rcases List.mem_append.mp hq with h | h
      · exact hS.2.2 q h
      · exact hL q h⟩ hE T' rfl X'
  exact ⟨t2, st t2 a1, b1⟩
theorem r_callV {y : MethodName} {cy : ByteArray} {ny n : Nat} {rty : Option FieldType} {rmy : Room} {As : List Value} {b idx ci : Nat} {o : Option Value} {S' : MS} {C : String} {T : u_T} {N : Nat} {st0 : List Value}
    (hcl : vwCl[ci]? = some (C, T, N)) (hc12 : ci < 12) (hcode : Cond.code y cy ny rty ∈ BG) (hlink : Cond.methodLink own idx y ∈ BG) (hinst : Cond.instanceMethod y ∈ BG) (hsel : Cond.selects C y y ∈ BG) (hini : Cond.initialized y.cls ∈ BG) (hd : y.cls ≠ "java/lang/invoke/MethodHandle" ∧ y.cls ≠ "java/lang/invoke/VarHandle" ∧ (parseMethodDescriptor y.desc).map (fun d => d.parameters.length) = some n)
    (hC : Cx G own cc nL ret p s m args meth c) (hR : Rp G S H) (hS : va_S (gA G) s.heap H locs) (hM : Cn G l y cy ny rty rmy (.ref b :: As) S o S') (hok : Ok S b ci) (hn : As.length = n) (hroom : rmy.frames + 1 ≤ R.frames ∧ 8 + (ny + 11) + rmy.locals ≤ R.locals) (hls : ls.size = nL) (hst : st0 = As.reverse ++ .ref b :: rest) (hw : (rest.map fun v => v.category).sum ≤ 8) (hdg : decode cc pc = .ok (.invokevirtual idx, 3)) (hf : cells + rmy.cells ≤ R.cells ∧ slots + rmy.slots ≤ R.slots)
    (kk : ∀ (H1 : Heap) (locs1 : List Loc), Rp G S' H1 → va_S (gA G) s.heap H1 locs1 → Ex S S' → W p l e R s m args below meth c H1 locs1 (cells + rmy.cells) (slots + rmy.slots) Q (F0 m (pc + 3) ls (o.toList ++ rest))) : W p l e R s m args below meth c H locs cells slots Q (F0 m pc ls st0) := by
  obtain ⟨q0, hq⟩ := wd_obj G hok hc12
  exact r_goes (va_runV (Ts := BG) ⟨hC.x, hC.b, hC.ml, hC.ow, hC.ts⟩ hM ⟨callB_of n hC.ts (gdBG hcode) rfl rfl rfl (hC.ts _ hini) (hC.ts _ hlink) hd hroom, hC.ts _ hinst, hC.ts _ hsel⟩ ⟨r_blind, va_recv hC.k hR.1 hcl hq, fun U hU hW => ⟨rfl, by rw [hU]; exact hR, hC.kx.warm hW (by rw [hU]; exact hS.2.1)⟩⟩ rfl hn hls hst (lv_room hw) hdg hf) hS kk
theorem r_callS {y : MethodName} {cy : ByteArray} {ny n : Nat} {rty : Option FieldType} {rmy : Room} {As : List Value} {idx : Nat} {o : Option Value} {S' : MS} {st0 : List Value}
    (hcode : Cond.code y cy ny rty ∈ BG) (hlink : Cond.methodLink own idx y ∈ BG) (hstat : Cond.static y ∈ BG) (hini : Cond.initialized y.cls ∈ BG) (hd : y.cls ≠ "java/lang/invoke/MethodHandle" ∧ y.cls ≠ "java/lang/invoke/VarHandle" ∧ (parseMethodDescriptor y.desc).map (fun d => d.parameters.length) = some n)
    (hC : Cx G own cc nL ret p s m args meth c) (hR : Rp G S H) (hS : va_S (gA G) s.heap H locs) (hM : Cn G l y cy ny rty rmy As S o S') (hn : As.length = n) (hroom : rmy.frames + 1 ≤ R.frames ∧ 8 + (ny + 11) + rmy.locals ≤ R.locals) (hls : ls.size = nL) (hst : st0 = As.reverse ++ rest) (hw : (rest.map fun v => v.category).sum ≤ 8) (hdg : decode cc pc = .ok (.invokestatic idx, 3)) (hf : cells + rmy.cells ≤ R.cells ∧ slots + rmy.slots ≤ R.slots)
    (kk : ∀ (H1 : Heap) (locs1 : List Loc), Rp G S' H1 → va_S (gA G) s.heap H1 locs1 → Ex S S' → W p l e R s m args below meth c H1 locs1 (cells + rmy.cells) (slots + rmy.slots) Q (F0 m (pc + 3) ls (o.toList ++ rest))) : W p l e R s m args below meth c H locs cells slots Q (F0 m pc ls st0) :=
  r_goes (va_runS (Ts := BG) ⟨hC.x, hC.b, hC.ml, hC.ow, hC.ts⟩ hM ⟨callB_of n hC.ts (gdBG hcode) rfl rfl rfl (hC.ts _ hini) (hC.ts _ hlink) hd hroom, hC.ts _ hstat⟩ ⟨r_blind, fun U hU hW => ⟨rfl, by rw [hU]; exact hR, hC.kx.warm hW (by rw [hU]; exact hS.2.1)⟩⟩ rfl hn hls hst (lv_room hw) hdg hf) hS kk
theorem r_callI {y : MethodName} {cy : ByteArray} {ny n : Nat} {rmy : Room} {As : List Value} {b idx : Nat} {o : Option Value} {S' : MS} {st0 : List Value}
    (hcode : Cond.code y cy ny none ∈ BG) (hlink : Cond.methodLink own idx y ∈ BG) (hinst : Cond.instanceMethod y ∈ BG) (hini : Cond.initialized y.cls ∈ BG) (hy1 : y.name = "<init>") (hd : y.cls ≠ "java/lang/invoke/MethodHandle" ∧ y.cls ≠ "java/lang/invoke/VarHandle" ∧ (parseMethodDescriptor y.desc).map (fun d => d.parameters.length) = some n)
    (hC : Cx G own cc nL ret p s m args meth c) (hR : Rp G S H) (hS : va_S (gA G) s.heap H locs) (hM : Cn G l y cy ny none rmy (.ref b :: As) S o S') (hn : As.length = n) (hroom : rmy.frames + 1 ≤ R.frames ∧ 8 + (ny + 11) + rmy.locals ≤ R.locals) (hls : ls.size = nL) (hst : st0 = As.reverse ++ .ref b :: rest) (hw : (rest.map fun v => v.category).sum ≤ 8) (hdg : decode cc pc = .ok (.invokespecial idx, 3)) (hf : cells + rmy.cells ≤ R.cells ∧ slots + rmy.slots ≤ R.slots)
    (kk : ∀ (H1 : Heap) (locs1 : List Loc), Rp G S' H1 → va_S (gA G) s.heap H1 locs1 → Ex S S' → W p l e R s m args below meth c H1 locs1 (cells + rmy.cells) (slots + rmy.slots) Q (F0 m (pc + 3) ls (o.toList ++ rest))) : W p l e R s m args below meth c H locs cells slots Q (F0 m pc ls st0) :=
  r_goes (va_runI (Ts := BG) ⟨hC.x, hC.b, hC.ml, hC.ow, hC.ts⟩ hM ⟨callB_of n hC.ts (gdBG hcode) rfl rfl rfl (hC.ts _ hini) (hC.ts _ hlink) hd hroom, hy1, hC.ts _ hinst⟩ ⟨r_blind, fun U hU hW => ⟨rfl, by rw [hU]; exact hR, hC.kx.warm hW (by rw [hU]; exact hS.2.1)⟩⟩ rfl hn hls hst (lv_room hw) hdg hf) hS kk
theorem r_callSN {y : MethodName} {cy : ByteArray} {ny n : Nat} {rty : Option FieldType} {rmy : Room} {As : List Value} {idx : Nat} {o : Option Value} {S' : MS} {st0 : List Value} {host : String}
    (hcode : Cond.code y cy ny rty ∈ BG) (hlink : (own, idx, y, host) ∈ nestL) (hstat : Cond.static y ∈ BG) (hini : Cond.initialized y.cls ∈ BG) (hd : y.cls ≠ "java/lang/invoke/MethodHandle" ∧ y.cls ≠ "java/lang/invoke/VarHandle" ∧ (parseMethodDescriptor y.desc).map (fun d => d.parameters.length) = some n)
    (hC : Cx G own cc nL ret p s m args meth c) (hR : Rp G S H) (hS : va_S (gA G) s.heap H locs) (hM : Cn G l y cy ny rty rmy As S o S') (hn : As.length = n) (hroom : rmy.frames + 1 ≤ R.frames ∧ 8 + (ny + 11) + rmy.locals ≤ R.locals) (hls : ls.size = nL) (hst : st0 = As.reverse ++ rest) (hw : (rest.map fun v => v.category).sum ≤ 8) (hdg : decode cc pc = .ok (.invokestatic idx, 3)) (hf : cells + rmy.cells ≤ R.cells ∧ slots + rmy.slots ≤ R.slots)
    (kk : ∀ (H1 : Heap) (locs1 : List Loc), Rp G S' H1 → va_S (gA G) s.heap H1 locs1 → Ex S S' → W p l e R s m args below meth c H1 locs1 (cells + rmy.cells) (slots + rmy.slots) Q (F0 m (pc + 3) ls (o.toList ++ rest))) : W p l e R s m args below meth c H locs cells slots Q (F0 m pc ls st0) :=
  r_goes (va_runSN (Ts := BG) ⟨hC.x, hC.b, hC.ml, hC.ow, hC.ts⟩ hM ⟨va_cnB n hC.ts (gdBG hcode) rfl rfl rfl (hC.kx.2.1 _ hlink) (hC.ts _ hini) hd hroom, hC.ts _ hstat, trivial⟩ ⟨r_blind, fun U hU hW => ⟨rfl, by rw [hU]; exact hR, hC.kx.warm hW (by rw [hU]; exact hS.2.1)⟩⟩ rfl hn hls hst (lv_room hw) hdg hf) hS kk
theorem r_callIN {y : MethodName} {cy : ByteArray} {ny n : Nat} {rmy : Room} {As : List Value} {b idx : Nat} {o : Option Value} {S' : MS} {st0 : List Value} {host : String}
    (hcode : Cond.code y cy ny none ∈ BG) (hlink : (own, idx, y, host) ∈ nestL) (hinst : Cond.instanceMethod y ∈ BG) (hini : Cond.initialized y.cls ∈ BG) (hy1 : y.name = "<init>") (hd : y.cls ≠ "java/lang/invoke/MethodHandle" ∧ y.cls ≠ "java/lang/invoke/VarHandle" ∧ (parseMethodDescriptor y.desc).map (fun d => d.parameters.length) = some n)
    (hC : Cx G own cc nL ret p s m args meth c) (hR : Rp G S H) (hS : va_S (gA G) s.heap H locs) (hM : Cn G l y cy ny none rmy (.ref b :: As) S o S') (hn : As.length = n) (hroom : rmy.frames + 1 ≤ R.frames ∧ 8 + (ny + 11) + rmy.locals ≤ R.locals) (hls : ls.size = nL) (hst : st0 = As.reverse ++ .ref b :: rest) (hw : (rest.map fun v => v.category).sum ≤ 8) (hdg : decode cc pc = .ok (.invokespecial idx, 3)) (hf : cells + rmy.cells ≤ R.cells ∧ slots + rmy.slots ≤ R.slots)
    (kk : ∀ (H1 : Heap) (locs1 : List Loc), Rp G S' H1 → va_S (gA G) s.heap H1 locs1 → Ex S S' → W p l e R s m args below meth c H1 locs1 (cells + rmy.cells) (slots + rmy.slots) Q (F0 m (pc + 3) ls (o.toList ++ rest))) : W p l e R s m args below meth c H locs cells slots Q (F0 m pc ls st0) :=
  r_goes (va_runIN (Ts := BG) ⟨hC.x, hC.b, hC.ml, hC.ow, hC.ts⟩ hM ⟨va_cnB n hC.ts (gdBG hcode) rfl rfl rfl (hC.kx.2.1 _ hlink) (hC.ts _ hini) hd hroom, hy1, hC.ts _ hinst⟩ ⟨r_blind, fun U hU hW => ⟨rfl, by rw [hU]; exact hR, hC.kx.warm hW (by rw [hU]; exact hS.2.1)⟩⟩ rfl hn hls hst (lv_room hw) hdg hf) hS kk
theorem r_q {S1 S' : MS} {o o1 : Option Value} (hR : Rp G S1 H) (hS : va_S (gA G) s.heap H locs) (hE : Ex S S1) (ho : o1 = o) (h1 : S1 = S') : ∀ t : State, t.heap = H → s.WarmedH t.vm → Qn G S o S' args s (.returned o1) t := fun t ht _ => by
  subst ho; subst h1
  exact ⟨⟨rfl, by rw [ht]; exact hR, hE⟩, hS.F ht⟩
theorem r_iret {S1 So : MS} {v ro : Int32} (hC : Cx G own cc nL (some .int) p s m args meth c) (hR : Rp G S1 H) (hS : va_S (gA G) s.heap H locs) (hE : Ex S S1) (hf : some (v, S1) = some (ro, So)) (hdg : decode cc pc = .ok (.ireturn, 1)) : W p l e R s m args below meth c H locs cells slots (MQ below (Qn G S (some (.int ro)) So) args s cells slots (gA G)) (F0 m pc ls [.int v]) := by
  cases hf
  exact W.iret hC.x hC.b hC.r (r_q hR hS hE rfl rfl) hS.2.2 hdg hC.lk
theorem r_zret {S1 So : MS} {v ro : Int32} (hC : Cx G own cc nL (some .boolean) p s m args meth c) (hR : Rp G S1 H) (hS : va_S (gA G) s.heap H locs) (hE : Ex S S1) (hf : zb v (some (v, S1)) = some (ro, So)) (hdg : decode cc pc = .ok (.ireturn, 1)) : W p l e R s m args below meth c H locs cells slots (MQ below (Qn G S (some (.int ro)) So) args s cells slots (gA G)) (F0 m pc ls [.int v]) := by
  obtain ⟨hz, hf⟩ := zb_of hf
  cases hf
  exact W.zret hC.x hC.b hC.r hz.1 (r_q hR hS hE rfl rfl) hS.2.2 hdg hC.lk
theorem r_lret {S1 So : MS} {v ro : Int64} (hC : Cx G own cc nL (some .long) p s m args meth c) (hR : Rp G S1 H) (hS : va_S (gA G) s.heap H locs) (hE : Ex S S1) (hf : some (v, S1) = some (ro, So)) (hdg : decode cc pc = .ok (.lreturn, 1)) : W p l e R s m args below meth c H locs cells slots (MQ below (Qn G S (some (.long ro)) So) args s cells slots (gA G)) (F0 m pc ls [.long v]) := by
  cases hf
  exact W.lret hC.x hC.b hC.r (r_q hR hS hE rfl rfl) hS.2.2 hdg hC.lk
theorem r_vret {S1 So : MS} (hC : Cx G own cc nL none p s m args meth c) (hR : Rp G S1 H) (hS : va_S (gA G) s.heap H locs) (hE : Ex S S1) (hf : some S1 = some So) (hdg : decode cc pc = .ok (.return_, 1)) : W p l e R s m args below meth c H locs cells slots (MQ below (Qn G S none So) args s cells slots (gA G)) (F0 m pc ls []) := by
  cases hf
  exact W.vret hC.x hC.b hC.r (r_q hR hS hE rfl rfl) hS.2.2 hdg hC.lk
theorem r_aret {S1 So : MS} {v ro : Option Nat} {rt : FieldType} (hC : Cx G own cc nL (some rt) p s m args meth c) (hrt : (∃ n, rt = .object n) ∨ ∃ t, rt = .array t) (hR : Rp G S1 H) (hS : va_S (gA G) s.heap H locs) (hE : Ex S S1) (hf : some (v, S1) = some (ro, So)) (hdg : decode cc pc = .ok (.areturn, 1)) : W p l e R s m args below meth c H locs cells slots (MQ below (Qn G S (some (va_rf ro)) So) args s cells slots (gA G)) (F0 m pc ls [va_rf v]) := by
  cases hf
  exact W.aret hC.x hC.b hC.r hrt (by cases v <;> simp [va_rf]) (r_q hR hS hE rfl rfl) hS.2.2 hdg hC.lk
theorem r_iinc {β : Type} {i k : Nat} {n : Int} {z x : Int32} {lv : List (Nat × Value)} {lv' : Int32 → List (Nat × Value)} {kf : Int32 → Option β} {out : β} (hx : p.tables.exec = Jvm.exec) (hb : c.code = cc) (hdg : decode cc pc = .ok (.iinc i n, 3)) (h : lv_has ls nL lv) (hk : lv[k]? = some (i, .int x)) (hz : Int32.ofInt n = z) (hn : i < nL) (hl : ∀ v : Int32, (i, Value.int v) :: lv.filter (fun q => !(q.1 == i) && !(q.1 + 1 == i && q.2.category == 2)) = lv' v) (hf : bd (x + z) kf = some out)
    (kk : ∀ (v : Int32) (ls' : Array Slot), kf v = some out → lv_has ls' nL (lv' v) → W p l e R s m args below meth c H locs cells slots Q (F0 m (pc + 3) ls' rest)) : W p l e R s m args below meth c H locs cells slots Q (F0 m pc ls rest) :=
  lv_iinc (v := x + z) hx hb hdg h hk (by rw [hz]) hn (hl _) (fun ls' h' => kk _ ls' hf h')
theorem r_aload_nO {k : Fin 4} {i : Nat} {o : Option Nat} (hx : p.tables.exec = Jvm.exec) (hb : c.code = cc) (hdg : decode cc pc = .ok (.aload_n k, 1)) (hi : (k : Nat) = i) (hl : ls[i]? = some (.val (va_rf o))) (kk : W p l e R s m args below meth c H locs cells slots Q (F0 m (pc + 1) ls (va_rf o :: rest))) : W p l e R s m args below meth c H locs cells slots Q (F0 m pc ls rest) := by
  cases o with
  | none => exact lv_aload_nN hx hb hdg hi hl kk
  | some q => exact lv_aload_n hx hb hdg hi hl kk
theorem r_aloadO {i : Nat} {o : Option Nat} (hx : p.tables.exec = Jvm.exec) (hb : c.code = cc) (hdg : decode cc pc = .ok (.aload i, 2)) (hl : ls[i]? = some (.val (va_rf o))) (kk : W p l e R s m args below meth c H locs cells slots Q (F0 m (pc + 2) ls (va_rf o :: rest))) : W p l e R s m args below meth c H locs cells slots Q (F0 m pc ls rest) := by
  cases o with
  | none => exact lv_aloadN hx hb hdg hl kk
  | some q => exact lv_aload hx hb hdg hl kk
theorem r_astore_nO {k : Fin 4} {i : Nat} {o : Option Nat} {lv lv' : List (Nat × Value)} (hx : p.tables.exec = Jvm.exec) (hb : c.code = cc) (hdg : decode cc pc = .ok (.astore_n k, 1)) (hi : (k : Nat) = i) (h : lv_has ls nL lv) (hn : i < nL) (hl : (i, va_rf o) :: lv.filter (fun q => !(q.1 == i) && !(q.1 + 1 == i && q.2.category == 2)) = lv') (kk : ∀ ls' : Array Slot, lv_has ls' nL lv' → W p l e R s m args below meth c H locs cells slots Q (F0 m (pc + 1) ls' rest)) : W p l e R s m args below meth c H locs cells slots Q (F0 m pc ls (va_rf o :: rest)) := by
  cases o with
  | none => exact lv_astore_nN hx hb hdg hi h hn hl kk
  | some q => exact lv_astore_n hx hb hdg hi h hn hl kk
theorem r_astoreO {i : Nat} {o : Option Nat} {lv lv' : List (Nat × Value)} (hx : p.tables.exec = Jvm.exec) (hb : c.code = cc) (hdg : decode cc pc = .ok (.astore i, 2)) (h : lv_has ls nL lv) (hn : i < nL) (hl : (i, va_rf o) :: lv.filter (fun q => !(q.1 == i) && !(q.1 + 1 == i && q.2.category == 2)) = lv') (kk : ∀ ls' : Array Slot, lv_has ls' nL lv' → W p l e R s m args below meth c H locs cells slots Q (F0 m (pc + 2) ls' rest)) : W p l e R s m args below meth c H locs cells slots Q (F0 m pc ls (va_rf o :: rest)) := by
  cases o with
  | none => exact lv_astoreN hx hb hdg h hn hl kk
  | some q => exact lv_astore hx hb hdg h hn hl kk
theorem r_ifnullO {o : Option Nat} {off : Int} {tgt : Nat} (hx : p.tables.exec = Jvm.exec) (hb : c.code = cc) (hdg : decode cc pc = .ok (.ifnull off, 3)) (ht : (pc : Int) + off = (tgt : Int)) (kt : o = none → W p l e R s m args below meth c H locs cells slots Q (F0 m tgt ls rest)) (kf : ¬ o = none → W p l e R s m args below meth c H locs cells slots Q (F0 m (pc + 3) ls rest)) : W p l e R s m args below meth c H locs cells slots Q (F0 m pc ls (va_rf o :: rest)) := by
  cases o with
  | none => exact lv_ifnullN hx hb hdg ht (kt rfl)
  | some q => exact lv_ifnull hx hb hdg (kf (fun h => by cases h))
theorem r_ifnonnullO {o : Option Nat} {off : Int} {tgt : Nat} (hx : p.tables.exec = Jvm.exec) (hb : c.code = cc) (hdg : decode cc pc = .ok (.ifnonnull off, 3)) (ht : (pc : Int) + off = (tgt : Int)) (kt : ¬ o = none → W p l e R s m args below meth c H locs cells slots Q (F0 m tgt ls rest)) (kf : o = none → W p l e R s m args below meth c H locs cells slots Q (F0 m (pc + 3) ls rest)) : W p l e R s m args below meth c H locs cells slots Q (F0 m pc ls (va_rf o :: rest)) := by
  cases o with
  | none => exact lv_ifnonnullN hx hb hdg (kf rfl)
  | some q => exact lv_ifnonnull hx hb hdg ht (kt (fun h => by cases h))
theorem rB_iast {β : Type} {kf : MS → Option β} {out : β} (hC : Cx G own cc nL ret p s m args meth c) (hR : Rp G S H) (hS : va_S (gA G) s.heap H locs) (hok : Ok S a 12) {i x : Int32} (hi : inb i (mN S a) = true) (hdg : decode cc pc = .ok (.iastore, 1)) (hf : bd (sI S a i.toNatClampNeg x) kf = some out)
    (kk : ∀ (S1 : MS) (H1 : Heap) (locs1 : List Loc), kf S1 = some out → Rp G S1 H1 → va_S (gA G) s.heap H1 locs1 → Ex S S1 → W p l e R s m args below meth c H1 locs1 cells slots Q (F0 m (pc + 1) ls rest)) : W p l e R s m args below meth c H locs cells slots Q (F0 m pc ls (.int x :: .int i :: .ref a :: rest)) :=
  r_iast hC hR hS hok hi hdg (fun H1 locs1 h1 h2 => kk _ H1 locs1 hf h1 h2 (fun _ _ h => h))
theorem rB_zast {β : Type} {kf : MS → Option β} {out : β} (hC : Cx G own cc nL ret p s m args meth c) (hR : Rp G S H) (hS : va_S (gA G) s.heap H locs) (hok : Ok S a 14) {i x : Int32} (hi : inb i (mN S a) = true) (hz : BZ x) (hdg : decode cc pc = .ok (.bastore, 1)) (hf : bd (sI S a i.toNatClampNeg x) kf = some out)
    (kk : ∀ (S1 : MS) (H1 : Heap) (locs1 : List Loc), kf S1 = some out → Rp G S1 H1 → va_S (gA G) s.heap H1 locs1 → Ex S S1 → W p l e R s m args below meth c H1 locs1 cells slots Q (F0 m (pc + 1) ls rest)) : W p l e R s m args below meth c H locs cells slots Q (F0 m pc ls (.int x :: .int i :: .ref a :: rest)) :=
  r_zast hC hR hS hok hi hz.1 hdg (fun H1 locs1 h1 h2 => kk _ H1 locs1 hf h1 h2 (fun _ _ h => h))
theorem rB_last {β : Type} {kf : MS → Option β} {out : β} (hC : Cx G own cc nL ret p s m args meth c) (hR : Rp G S H) (hS : va_S (gA G) s.heap H locs) (hok : Ok S a 13) {i : Int32} {x : Int64} (hi : inb i (mN S a) = true) (hdg : decode cc pc = .ok (.lastore, 1)) (hf : bd (sJ S a i.toNatClampNeg x) kf = some out)
    (kk : ∀ (S1 : MS) (H1 : Heap) (locs1 : List Loc), kf S1 = some out → Rp G S1 H1 → va_S (gA G) s.heap H1 locs1 → Ex S S1 → W p l e R s m args below meth c H1 locs1 cells slots Q (F0 m (pc + 1) ls rest)) : W p l e R s m args below meth c H locs cells slots Q (F0 m pc ls (.long x :: .int i :: .ref a :: rest)) :=
  r_last hC hR hS hok hi hdg (fun H1 locs1 h1 h2 => kk _ H1 locs1 hf h1 h2 (fun _ _ h => h))
end CL
