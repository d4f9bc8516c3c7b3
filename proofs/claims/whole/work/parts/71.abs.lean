/-! A PLAIN, ABSTRACT: count, hour, cells, weights, lies, stakes, crops; how each system holds it -/
abbrev TP : Type := Nat × Nat × (Nat → Nat) × (Nat → Nat) × (Nat → Nat) × (Nat → Option Nat) × (Nat → Int32)
def tk (T : TP) : Nat := T.1
def th (T : TP) : Nat := T.2.1
def tc (T : TP) : Nat → Nat := T.2.2.1
def tw (T : TP) : Nat → Nat := T.2.2.2.1
def tl (T : TP) : Nat → Nat := T.2.2.2.2.1
def ts (T : TP) : Nat → Option Nat := T.2.2.2.2.2.1
def tr (T : TP) : Nat → Int32 := T.2.2.2.2.2.2
/-- a bone lies at c -/
def Bn (T : TP) (c : Nat) : Prop := ∃ i, i < tk T ∧ tc T i = c
/-- the free cells -/
def Ft (C : Nat) (T : TP) (c : Nat) : Prop := c < C ∧ ¬ Bn T c
/-- as it may be; M: the most hour -/
def TW (C M : Nat) (T : TP) : Prop := tk T ≤ 24 ∧ th T ≤ M ∧ (∀ i, i < tk T → tc T i < C ∧ 1 ≤ tw T i ∧ tw T i ≤ 99 ∧ tl T i ≤ 99) ∧ (∀ i j, i < tk T → j < tk T → tc T i = tc T j → i = j) ∧ (∀ f, f < 6 → ∀ c, ts T f = some c → Ft C T c) ∧ (∀ c, c < C → tr T c = -1 ∨ ∃ g, g ≤ th T ∧ tr T c = nI g)
/-- the class's rows -/
def ClsR (C : Nat) (ob : Nat → Int32) (oj : Nat → Int64) (ce we li sk cr : Nat → Int32) (T : TP) : Prop :=
  ob 7 = nI (tk T) ∧ ob 8 = nI (th T) ∧ (∀ i, i < tk T → ce i = nI (tc T i) ∧ we i = nI (tw T i) ∧ li i = nI (tl T i)) ∧ (∀ f, f < 6 → sk f = oI (ts T f)) ∧ (∀ c, c < C → cr c = tr T c) ∧ (∀ c, bt (oj 10) c = true ↔ Bn T c) ∧ (∀ c, bt (oj 11) c = true ↔ ∃ f, f < 6 ∧ ts T f = some c)
def ClsT (z C o : Nat) (I : Nat → Nat → Int32) (J : Nat → Nat → Int64) (T : TP) : Prop := ClsR C (I (z + o)) (J (z + o)) (I (z + (o + 1))) (I (z + (o + 2))) (I (z + (o + 3))) (I (z + (o + 4))) (I (z + (o + 6))) T
/-- the reference's row, from its first place on -/
def RefR (C : Nat) (p : Nat → Int32) (T : TP) : Prop :=
  p 1 = nI (tk T) ∧ p 0 = nI (th T) ∧ (∀ i, i < tk T → p (10 + 3 * i) = nI (tc T i) ∧ p (11 + 3 * i) = nI (tw T i) ∧ p (12 + 3 * i) = nI (tl T i) ∧ p (290 + tc T i) = nI (i + 1)) ∧ (∀ f, f < 6 → p (85 + f) = oI (ts T f)) ∧ (∀ c, c < C → p (240 + c) = tr T c) ∧ (∀ c, c < C → ¬ Bn T c → p (290 + c) = 0)
def RefT (z C B : Nat) (I : Nat → Nat → Int32) (T : TP) : Prop := RefR C (pa (I (z + 84)) B) T
theorem oI_m1 {o : Option Nat} (h : ∀ c, o = some c → c < 1000000) : oI o = -1 ↔ o = none := by
  cases o with
  | none => exact ⟨fun _ => rfl, fun _ => rfl⟩
  | some c => exact ⟨fun q => absurd q (nI_nm1 (h c rfl)), fun q => (by cases q)⟩
theorem oI_some {o : Option Nat} (h : ∀ c, o = some c → c < 1000000) {d : Nat} (hd : d < 1000000) : oI o = nI d ↔ o = some d := by
  cases o with
  | none => exact ⟨fun q => absurd q.symm (nI_nm1 hd), fun q => (by cases q)⟩
  | some c => exact ⟨fun q => congrArg some ((nI_inj (h c rfl) hd).mp q), fun q => by cases q; rfl⟩
section AB
variable {C M Q : Nat} {ob : Nat → Int32} {oj : Nat → Int64} {ce we li sk fi cr p : Nat → Int32}
/-- what both hold alike is an abstract plain -/
theorem PlainR.out (h : PlainR C M Q ob oj ce we li sk fi cr p) (hC : C ≤ 48) : ∃ T, TW C M T ∧ ClsR C ob oj ce we li sk cr T ∧ RefR C p T := by
  obtain ⟨k, hh, q1, q2, q3, q4, q5, q6, q7, q8, q9, q10, q11, q12, q13, q14, q15, q16, q17⟩ := h
  let T : TP := (k, hh, fun i => (ce i).toNatClampNeg, fun i => (we i).toNatClampNeg, fun i => (li i).toNatClampNeg, fun f => if sk f = -1 then none else some (sk f).toNatClampNeg, cr)
  have hb : ∀ i, i < k → ∃ c v y, c < C ∧ 1 ≤ v ∧ v ≤ 99 ∧ y ≤ 99 ∧ tc T i = c ∧ tw T i = v ∧ tl T i = y ∧ ce i = nI c ∧ p (10 + 3 * i) = nI c ∧ we i = nI v ∧ p (11 + 3 * i) = nI v ∧ li i = nI y ∧ p (12 + 3 * i) = nI y ∧ p (290 + c) = nI (i + 1) := by
    intro i hi
    obtain ⟨c, v, y, r1, r2, r3, r4, r5, r6, r7, r8, r9, r10, r11⟩ := q7 i hi
    refine ⟨c, v, y, r1, r2, r3, r4, ?_, ?_, ?_, r5, r6, r7, r8, r9, r10, r11⟩
    · show (ce i).toNatClampNeg = c
      rw [r5, cl_nI (by omega)]
    · show (we i).toNatClampNeg = v
      rw [r7, cl_nI (by omega)]
    · show (li i).toNatClampNeg = y
      rw [r9, cl_nI (by omega)]
  have hbn : ∀ c, c < C → (Bn T c ↔ ¬ p (290 + c) = 0) := by
    intro c hc
    constructor
    · rintro ⟨i, hi, e⟩ w
      obtain ⟨c', v, y, r1, -, -, -, e1, -, -, -, -, -, -, -, -, r⟩ := hb i hi
      rw [e1] at e; subst e
      rw [w] at r
      exact nI_s0 (by have : i < k := hi; omega) r.symm
    · intro w
      rcases q8 c hc with w2 | ⟨i, hi, e, ec⟩
      · exact absurd w2 w
      · refine ⟨i, hi, ?_⟩
        show (ce i).toNatClampNeg = c
        rw [ec, cl_nI (by omega)]
  have hs : ∀ f, f < 6 → sk f = oI (ts T f) ∧ ∀ c, ts T f = some c → c < C ∧ p (290 + c) = 0 := by
    intro f hf
    show sk f = oI (if sk f = -1 then none else some (sk f).toNatClampNeg) ∧ ∀ c, (if sk f = -1 then none else some (sk f).toNatClampNeg) = some c → c < C ∧ p (290 + c) = 0
    rcases (q9 f hf).2 with w | ⟨c, w1, w2, w3⟩
    · rw [if_pos w]; exact ⟨w, fun c e => by cases e⟩
    · have hne : ¬ sk f = -1 := by rw [w2]; exact nI_nm1 (by omega)
      rw [if_neg hne, w2, cl_nI (by omega)]
      exact ⟨rfl, fun c' e => by cases e; exact ⟨w1, w3⟩⟩
  refine ⟨T, ⟨q1, q2, ?_, ?_, ?_, fun c hc => (q11 c hc).2⟩, ⟨q3, q5, ?_, fun f hf => (hs f hf).1, fun c _ => rfl, ?_, ?_⟩, q4, q6, ?_, ?_, ?_, ?_⟩
  · intro i hi
    obtain ⟨c, v, y, r1, r2, r3, r4, e1, e2, e3, -⟩ := hb i hi
    rw [e1, e2, e3]; exact ⟨r1, r2, r3, r4⟩
  · intro i j hi hj e
    obtain ⟨c, v, y, -, -, -, -, e1, -, -, -, -, -, -, -, -, r⟩ := hb i hi
    obtain ⟨c', v', y', -, -, -, -, e1', -, -, -, -, -, -, -, -, r'⟩ := hb j hj
    rw [e1, e1'] at e
    subst e
    rw [r] at r'
    have hi' : i < k := hi
    have hj' : j < k := hj
    have := (nI_inj (by omega) (by omega)).mp r'
    omega
  · intro f hf c e
    obtain ⟨w1, w2⟩ := (hs f hf).2 c e
    exact ⟨w1, fun w => (hbn c w1).mp w w2⟩
  · intro i hi
    obtain ⟨c, v, y, r1, r2, r3, r4, e1, e2, e3, g1, g2, g3, g4, g5, g6, g7⟩ := hb i hi
    rw [e1, e2, e3]; exact ⟨g1, g3, g5⟩
  · intro c
    by_cases hc : c < C
    · rw [hbn c hc]
      have := q14 c hc
      cases hbt : bt (oj 10) c with
      | false => exact ⟨fun w => (by cases w), fun w => absurd (this.mp hbt) w⟩
      | true => exact ⟨fun _ w => (by rw [this.mpr w] at hbt; cases hbt), fun _ => rfl⟩
    · rw [q15 c (by omega)]
      refine ⟨fun w => (by cases w), ?_⟩
      rintro ⟨i, hi, e⟩
      obtain ⟨c', v, y, r1, -, -, -, e1, -⟩ := hb i hi
      omega
  · intro c
    by_cases hc : c < C
    · have := q16 c hc
      constructor
      · intro hbt
        apply Classical.byContradiction
        intro hno
        have : bt (oj 11) c = false := this.mpr (fun f hf e => hno ⟨f, hf, by
          rw [(hs f hf).1] at e
          exact (oI_some (fun d hd => by have := ((hs f hf).2 d hd).1; omega) (by omega)).mp e⟩)
        rw [this] at hbt; cases hbt
      · rintro ⟨f, hf, e⟩
        cases hbt : bt (oj 11) c with
        | true => rfl
        | false => exact absurd (by rw [(hs f hf).1, e]; rfl) (this.mp hbt f hf)
    · rw [q17 c (by omega)]
      refine ⟨fun w => (by cases w), ?_⟩
      rintro ⟨f, hf, e⟩
      have := ((hs f hf).2 c e).1
      omega
  · intro i hi
    obtain ⟨c, v, y, r1, r2, r3, r4, e1, e2, e3, g1, g2, g3, g4, g5, g6, g7⟩ := hb i hi
    rw [e1, e2, e3]; exact ⟨g2, g4, g6, g7⟩
  · intro f hf
    rw [← (q9 f hf).1]; exact (hs f hf).1
  · intro c hc
    exact (q11 c hc).1.symm
  · intro c hc w
    exact Classical.byContradiction fun w2 => w ((hbn c hc).mpr w2)
/-- and back again -/
theorem PlainR.of (hC : C ≤ 48) {T : TP} (hT : TW C M T) (h1 : ClsR C ob oj ce we li sk cr T) (h2 : RefR C p T) (hf : ∀ f, f < 6 → fi f = p (92 + f) ∧ ∃ v : Nat, v ≤ Q ∧ fi f = nI v) (hw : ∀ c, c < C → p (190 + c) = if bt (oj 9) c = true then 1 else 0) (hw2 : ∀ c, C ≤ c → bt (oj 9) c = false) : PlainR C M Q ob oj ce we li sk fi cr p := by
  obtain ⟨t1, t2, t3, t4, t5, t6⟩ := hT
  obtain ⟨a1, a2, a3, a4, a5, a6, a7⟩ := h1
  obtain ⟨b1, b2, b3, b4, b5, b6⟩ := h2
  have hsl : ∀ f, f < 6 → ∀ c, ts T f = some c → c < 1000000 := fun f hf c e => by have := (t5 f hf c e).1; omega
  have hbc : ∀ c, Bn T c → c < C := by
    rintro c ⟨i, hi, rfl⟩
    exact (t3 i hi).1
  have hbb : ∀ c, c < C → (bt (oj 10) c = false ↔ p (290 + c) = 0) := by
    intro c hc
    by_cases hb : Bn T c
    · obtain ⟨i, hi, rfl⟩ := hb
      rw [(b3 i hi).2.2.2, (a6 _).mpr ⟨i, hi, rfl⟩]
      exact ⟨fun w => (by cases w), fun w => absurd w (nI_s0 (by omega))⟩
    · rw [b6 c hc hb]
      refine ⟨fun _ => rfl, fun _ => ?_⟩
      cases hbt : bt (oj 10) c with
      | false => rfl
      | true => exact absurd ((a6 c).mp hbt) hb
  refine ⟨tk T, th T, t1, t2, a1, b1, a2, b2, ?_, ?_, ?_, hf, ?_, hw, hw2, hbb, ?_, ?_, ?_⟩
  · intro i hi
    obtain ⟨r1, r2, r3, r4⟩ := t3 i hi
    obtain ⟨g1, g2, g3⟩ := a3 i hi
    obtain ⟨e1, e2, e3, e4⟩ := b3 i hi
    exact ⟨tc T i, tw T i, tl T i, r1, r2, r3, r4, g1, e1, g2, e2, g3, e3, e4⟩
  · intro c hc
    by_cases hb : Bn T c
    · obtain ⟨i, hi, rfl⟩ := hb
      exact Or.inr ⟨i, hi, (b3 i hi).2.2.2, (a3 i hi).1⟩
    · exact Or.inl (b6 c hc hb)
  · intro f hf
    rw [a4 f hf, b4 f hf]
    refine ⟨rfl, ?_⟩
    cases e : ts T f with
    | none => exact Or.inl rfl
    | some c =>
      have := t5 f hf c e
      exact Or.inr ⟨c, this.1, rfl, b6 c this.1 this.2⟩
  · intro c hc
    rw [a5 c hc, b5 c hc]
    exact ⟨rfl, t6 c hc⟩
  · intro c hc
    cases hbt : bt (oj 10) c with
    | false => rfl
    | true => have := hbc c ((a6 c).mp hbt); omega
  · intro c hc
    constructor
    · intro w f hf e
      rw [a4 f hf] at e
      have := (a7 c).mpr ⟨f, hf, (oI_some (hsl f hf) (by omega)).mp e⟩
      rw [w] at this; cases this
    · intro w
      cases hbt : bt (oj 11) c with
      | false => rfl
      | true =>
        obtain ⟨f, hf, e⟩ := (a7 c).mp hbt
        exact absurd (by rw [a4 f hf, e]; rfl) (w f hf)
  · intro c hc
    cases hbt : bt (oj 11) c with
    | false => rfl
    | true =>
      obtain ⟨f, hf, e⟩ := (a7 c).mp hbt
      have := (t5 f hf c e).1
      omega
end AB
