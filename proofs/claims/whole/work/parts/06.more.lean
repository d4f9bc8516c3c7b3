/-! MORE ROWS: arraycopy, Object's constructor, new, newarray -/
section MR
variable {p : Program} {l : Launch} {e : Env} {R : Room} {s : State} {m : MethodId} {args : Array Value} {below : List Frame} {meth : Method} {c : Code} {H : Heap} {locs : List Loc} {cells slots : Nat} {Q : State → Prop}
variable {G : Gx} {own : String} {cc : ByteArray} {nL : Nat} {ret : Option FieldType} {S : MS} {pc : Nat} {ls : Array Slot} {rest : List Value} {a : Nat}
/-- the machine's own count of new cells bounds the heap -/
theorem W_sz {g : JFrame} (k : H.size ≤ s.heap.size + cells → W p l e R s m args below meth c H locs cells slots Q g) : W p l e R s m args below meth c H locs cells slots Q g := fun T hT X => k (by rw [← hT]; exact X.same.2.2.1) T hT X
def cpk (sp dp n : Int32) (n0 n1 : Nat) : Bool := !(decide (sp < 0)) && !(decide (dp < 0)) && !(decide (n < 0)) && decide (sp.toNatClampNeg + n.toNatClampNeg ≤ n0) && decide (dp.toNatClampNeg + n.toNatClampNeg ≤ n1)
theorem row_rI (S : MS) (a : Nat) (g : Nat → Int32) : mI (rI S a g) a = g := by
  funext j
  show upr _ a g a j = _
  simp [upr]
theorem row_ne_rI (S : MS) (a : Nat) (g : Nat → Int32) {b : Nat} (h : b ≠ a) : mI (rI S a g) b = mI S b := by
  funext j
  show upr _ a g b j = _
  simp [upr, h]
  rfl
theorem wE_rI_ne (cy : Nat → ClassId) (S : MS) (a : Nat) (g : Nat → Int32) (b : Nat) (h : b ≠ a) : wE cy (rI S a g) b = wE cy S b := wE_congr cy rfl rfl (row_ne_rI S a g h) rfl rfl
theorem r_copyI {β : Type} {kf : MS → Option β} {out : β} {a0 idx : Nat} {sp dp n : Int32} (hC : Cx G own cc nL ret p s m args meth c) (hR : Rp G S H) (hS : va_S (gA G) s.heap H locs) (hls : ls.size = nL) (hlink : Cond.methodLink own idx arraycopyName ∈ BG) (hnat : Cond.native arraycopyName ∈ BG) (hstat : Cond.static arraycopyName ∈ BG) (hini : Cond.initialized "java/lang/System" ∈ BG)
    (hok0 : Ok S a0 12) (hok : Ok S a 12) (hk : cpk sp dp n (mN S a0) (mN S a) = true) (hfr : 1 ≤ R.frames) (hlo : (rest.map fun v => v.category).sum + (nativeFrameWords "java/lang/System" "arraycopy" 5 + 11) ≤ R.locals) (hdg : decode cc pc = .ok (.invokestatic idx, 3)) (hf : bd (rI S a (va_cpy (mI S a0) (mI S a) sp.toNatClampNeg dp.toNatClampNeg n.toNatClampNeg)) kf = some out)
    (kk : ∀ (S1 : MS) (H1 : Heap) (locs1 : List Loc), kf S1 = some out → Rp G S1 H1 → va_S (gA G) s.heap H1 locs1 → Ex S S1 → W p l e R s m args below meth c H1 locs1 0 0 Q (F0 m (pc + 3) ls rest)) : W p l e R s m args below meth c H locs 0 0 Q (F0 m pc ls (.int n :: .int dp :: .ref a :: .int sp :: .ref a0 :: rest)) := by
  refine W_sz (fun hz => ?_)
  have hz0 : s.heap.size = H.size := Nat.le_antisymm hS.1 (by simpa using hz)
  simp only [cpk, Bool.and_eq_true, Bool.not_eq_true', decide_eq_false_iff_not, decide_eq_true_eq] at hk
  obtain ⟨⟨⟨⟨h1, h2⟩, h3⟩, h4⟩, h5⟩ := hk
  obtain ⟨k0, hk0⟩ := wd_get G hok0.1
  obtain ⟨k1, hk1⟩ := wd_get G hok.1
  have hk1' := hk1
  rw [wE_I hok0.2] at hk0
  rw [wE_I hok.2] at hk1
  refine va_copyi hC.x hC.b (hC.ml.trans hls.symm) hC.ow (hC.ts _ hlink) (hC.ts _ hnat) (hC.ts _ hstat) (hC.ts _ hini) hC.k hR.1 hR.2.1 hS k0 k1 0 0 hk0 hk1 rfl rfl rfl h1 h2 h3 h4 h5 (fun _ _ => rfl) hfr hlo hdg (fun H1 locs1 hP hD hS1 => ?_)
  refine W_sz (fun hz1 => ?_)
  have hz2 : H1.size = H.size := by
    have q := hS1.1
    have q2 : H1.size ≤ s.heap.size := by simpa using hz1
    omega
  have hw := wd_set G (S' := rI S a (va_cpy (mI S a0) (mI S a) sp.toNatClampNeg dp.toNatClampNeg n.toNatClampNeg)) hR.2.1 hok.1 hk1' rfl rfl (wE_rI_ne _ S a _)
  rw [wE_I (show mK (rI S a _) a = 12 from hok.2), row_rI] at hw
  have hw2 := hw
  refine kk _ H1 locs1 hf ⟨?_, ?_, by rw [hz2]; exact hR.2.2⟩ hS1 (fun _ _ h => h)
  · rw [← hw2]; exact hP
  · rw [← hw2]; exact hD
end MR
