/-! CUTTING A TEXT INTO TOKENS, abstract -/
def ltB (b : Nat) : Bool := decide ((97 ≤ b ∧ b ≤ 122) ∨ (65 ≤ b ∧ b ≤ 90))
def dgB (b : Nat) : Bool := decide (48 ≤ b ∧ b ≤ 57)
def spB (b : Nat) : Bool := decide (b = 32 ∨ b = 10)
def runF (L : Nat) (tp : Nat → Nat) (pr : Nat → Bool) : Nat → Nat → Nat
  | 0, p => p
  | f + 1, p => if p < L ∧ pr (tp p) = true then runF L tp pr f (p + 1) else p
def runE (L : Nat) (tp : Nat → Nat) (pr : Nat → Bool) (p : Nat) : Nat := runF L tp pr (L - p) p
def valF (L : Nat) (tp : Nat → Nat) : Nat → Nat → Nat → Nat
  | 0, _, v => v
  | f + 1, p, v => if p < L ∧ dgB (tp p) = true then valF L tp f (p + 1) (min (v * 10 + tp p - 48) 10000) else v
def byL (tp : Nat → Nat) : Nat → Nat → List Nat
  | 0, _ => []
  | d + 1, p => tp p :: byL tp d (p + 1)
def wX : List (List Nat) → Nat → List Nat → Nat
  | [], _, _ => 40
  | w :: R, k, l => if l = w then k else wX R (k + 1) l
def WDS : List (List Nat) := [[119, 101, 105, 103, 104, 116], [108, 105, 101, 115], [98, 101, 115, 105, 100, 101], [120], [121], [104, 111, 117, 114], [115, 116, 114, 101, 110, 103, 116, 104], [115, 112, 97, 114, 101], [109, 97, 110, 121], [97, 103, 101], [97, 114, 101, 97], [119, 97, 116, 101, 114], [109, 105, 110], [109, 97, 120], [110, 111, 116], [97, 110, 100], [111, 114], [97, 116], [104, 111, 108, 100], [102, 97, 114], [99, 114, 111, 112], [102, 111, 117, 110, 100], [98, 111, 110, 101], [115, 116, 97, 107, 101]]
def sgT : List Nat := [60, 62, 61, 35, 43, 45, 42, 47, 40, 41, 44, 59]
def sG (b : Nat) : List Nat → Nat → Nat → Nat
  | [], _, a => a
  | c :: R, k, a => sG b R (k + 1) (if c = b then 24 + k else a)
def sgX (b : Nat) : Nat := sG b sgT 0 40
def lx (L : Nat) (tp : Nat → Nat) (p : Nat) : (Nat × Nat) × Nat :=
  if L ≤ p then ((39, 0), p)
  else if ltB (tp p) = true then ((wX WDS 0 (byL tp (runE L tp ltB p - p) p), 0), runE L tp ltB p)
  else if dgB (tp p) = true then ((38, valF L tp (L - p) p 0), runE L tp dgB p)
  else if (sgX (tp p) = 24 ∨ sgX (tp p) = 25) ∧ p + 1 < L ∧ tp (p + 1) = 61 then ((sgX (tp p) + 12, 0), p + 2) else ((sgX (tp p), 0), p + 1)
def skP (L : Nat) (tp : Nat → Nat) (p : Nat) : Nat := runE L tp spB p
def psT (L : Nat) (tp : Nat → Nat) : Nat → Nat
  | 0 => skP L tp 0
  | i + 1 => skP L tp (lx L tp (psT L tp i)).2
def tkT (L : Nat) (tp : Nat → Nat) (i : Nat) : Nat × Nat := (lx L tp (psT L tp i)).1
section LX
variable {L : Nat} {tp : Nat → Nat} {pr : Nat → Bool}
theorem runE_s {p : Nat} (h : p < L) (h2 : pr (tp p) = true) : runE L tp pr p = runE L tp pr (p + 1) := by
  unfold runE
  rw [show L - p = L - (p + 1) + 1 by omega, runF, if_pos ⟨h, h2⟩]
theorem runE_e {p : Nat} (h : ¬ (p < L ∧ pr (tp p) = true)) : runE L tp pr p = p := by
  unfold runE
  cases L - p with
  | zero => rfl
  | succ f => rw [runF, if_neg h]
theorem runE_b : ∀ d p, L - p ≤ d → p ≤ L → p ≤ runE L tp pr p ∧ runE L tp pr p ≤ L ∧ (∀ q, p ≤ q → q < runE L tp pr p → pr (tp q) = true) ∧ ¬ (runE L tp pr p < L ∧ pr (tp (runE L tp pr p)) = true) := by
  intro d
  induction d with
  | zero =>
    intro p hd hp
    have hne : ¬ (p < L ∧ pr (tp p) = true) := by omega
    rw [runE_e hne]
    exact ⟨Nat.le_refl _, hp, fun q a b => by omega, hne⟩
  | succ d ih =>
    intro p hd hp
    by_cases h : p < L ∧ pr (tp p) = true
    · rw [runE_s h.1 h.2]
      obtain ⟨a, b, c, e⟩ := ih (p + 1) (by omega) (by omega)
      refine ⟨by omega, b, fun q x y => ?_, e⟩
      by_cases qp : q = p
      · rw [qp]; exact h.2
      · exact c q (by omega) y
    · rw [runE_e h]
      exact ⟨Nat.le_refl _, hp, fun q a b => by omega, h⟩
theorem runE_lt {p : Nat} (h : p < L) (h2 : pr (tp p) = true) : p < runE L tp pr p := by
  have := (runE_b (tp := tp) (pr := pr) (L - (p + 1)) (p + 1) (Nat.le_refl _) (by omega)).1
  rw [runE_s h h2]; omega
theorem byL_len : ∀ d p, (byL tp d p).length = d
  | 0, _ => rfl
  | d + 1, p => by rw [byL, List.length_cons, byL_len d (p + 1)]
/-- signs -/
theorem sg_ok : ∀ b, b < 256 → (sgX b = 40 ∨ (24 ≤ sgX b ∧ sgX b ≤ 35 ∧ tkO (sgX b) = b)) ∧ (sgX b = 24 ↔ b = 60) ∧ (sgX b = 25 ↔ b = 62) ∧ (sgX b = 40 ↔ ¬ (b = 60 ∨ b = 62 ∨ b = 61 ∨ b = 35 ∨ b = 43 ∨ b = 45 ∨ b = 42 ∨ b = 47 ∨ b = 40 ∨ b = 41 ∨ b = 59 ∨ b = 44)) := by decide +kernel
theorem wX_r : ∀ (R : List (List Nat)) (k : Nat) (l : List Nat), wX R k l = 40 ∨ (k ≤ wX R k l ∧ wX R k l < k + R.length ∧ R.getD (wX R k l - k) [] = l)
  | [], k, l => Or.inl rfl
  | w :: R, k, l => by
    rw [wX]
    by_cases e : l = w
    · rw [if_pos e]; exact Or.inr ⟨Nat.le_refl _, by rw [List.length_cons]; omega, by rw [Nat.sub_self, e]; rfl⟩
    · rw [if_neg e]
      rcases wX_r R (k + 1) l with h | ⟨a, b, c⟩
      · exact Or.inl h
      · refine Or.inr ⟨by omega, by rw [List.length_cons]; omega, ?_⟩
        rw [show wX R (k + 1) l - k = wX R (k + 1) l - (k + 1) + 1 by omega, List.getD_cons_succ]; exact c
theorem wX_w : ∀ q, q < 24 → wX WDS 0 (WDS.getD q []) = q := by decide +kernel
theorem wX_i {q : Nat} (h : q < 24) {l : List Nat} : wX WDS 0 l = q ↔ l = WDS.getD q [] := by
  constructor
  · intro e
    rcases wX_r WDS 0 l with w | ⟨-, -, w⟩
    · omega
    · rw [e] at w; exact w.symm
  · intro e; rw [e]; exact wX_w q h
theorem wX_le {l : List Nat} : wX WDS 0 l < 24 ∨ wX WDS 0 l = 40 := by
  rcases wX_r WDS 0 l with w | ⟨-, w, -⟩
  · exact Or.inr w
  · exact Or.inl (by rw [Nat.zero_add] at w; exact w)
theorem valF_le : ∀ f p v, v ≤ 10000 → valF L tp f p v ≤ 10000
  | 0, _, _, h => h
  | f + 1, p, v, h => by
    rw [valF]
    split
    · exact valF_le f _ _ (Nat.min_le_right _ _)
    · exact h
theorem lx_end {p : Nat} (h : L ≤ p) : lx L tp p = ((39, 0), p) := by unfold lx; rw [if_pos h]
theorem lx_b {p : Nat} (hb : ∀ j, j < L → tp j < 256) (h : p < L) : p < (lx L tp p).2 ∧ (lx L tp p).2 ≤ L ∧ (lx L tp p).1.1 ≤ 40 ∧ (lx L tp p).1.1 ≠ 39 ∧ (lx L tp p).1.2 ≤ 10000 := by
  unfold lx
  rw [if_neg (by omega)]
  by_cases q1 : ltB (tp p) = true
  · rw [if_pos q1]
    have := runE_b (tp := tp) (pr := ltB) (L - p) p (Nat.le_refl _) (by omega)
    have h2 := wX_le (l := byL tp (runE L tp ltB p - p) p)
    exact ⟨runE_lt h q1, this.2.1, by show wX _ _ _ ≤ 40; omega, by show wX _ _ _ ≠ 39; omega, Nat.zero_le _⟩
  rw [if_neg q1]
  by_cases q2 : dgB (tp p) = true
  · rw [if_pos q2]
    have := runE_b (tp := tp) (pr := dgB) (L - p) p (Nat.le_refl _) (by omega)
    exact ⟨runE_lt h q2, this.2.1, by show 38 ≤ 40; omega, by show 38 ≠ 39; omega, valF_le _ _ _ (by omega)⟩
  rw [if_neg q2]
  have h3 := (sg_ok (tp p) (hb p h)).1
  split
  · rename_i hh
    exact ⟨by show p < p + 2; omega, by show p + 2 ≤ L; omega, by show sgX (tp p) + 12 ≤ 40; omega, by show sgX (tp p) + 12 ≠ 39; omega, Nat.zero_le _⟩
  · exact ⟨by show p < p + 1; omega, by show p + 1 ≤ L; omega, by show sgX (tp p) ≤ 40; omega, by show sgX (tp p) ≠ 39; omega, Nat.zero_le _⟩
theorem psT_b (hb : ∀ j, j < L → tp j < 256) : ∀ i, psT L tp i ≤ L ∧ (i ≤ psT L tp i ∨ psT L tp i = L)
  | 0 => ⟨(runE_b (tp := tp) (pr := spB) L 0 (by omega) (by omega)).2.1, Or.inl (Nat.zero_le _)⟩
  | i + 1 => by
    obtain ⟨h1, h2⟩ := psT_b hb i
    show skP L tp (lx L tp (psT L tp i)).2 ≤ L ∧ (i + 1 ≤ skP L tp (lx L tp (psT L tp i)).2 ∨ skP L tp (lx L tp (psT L tp i)).2 = L)
    by_cases e : psT L tp i < L
    · obtain ⟨a, b, -⟩ := lx_b hb e
      have := runE_b (tp := tp) (pr := spB) L (lx L tp (psT L tp i)).2 (by omega) b
      unfold skP
      exact ⟨this.2.1, Or.inl (by omega)⟩
    · have e2 : psT L tp i = L := by omega
      rw [lx_end (by omega), e2]
      have : skP L tp L = L := runE_e (by omega)
      show skP L tp L ≤ L ∧ (i + 1 ≤ skP L tp L ∨ skP L tp L = L)
      rw [this]; exact ⟨Nat.le_refl _, Or.inr rfl⟩
theorem tkT_E (hL : L ≤ 300) (hb : ∀ j, j < L → tp j < 256) (i : Nat) (hi : 300 ≤ i) : (tkT L tp i).1 = 39 := by
  have := psT_b hb i
  unfold tkT
  rw [lx_end (by omega)]
theorem tkT_i (hb : ∀ j, j < L → tp j < 256) (i : Nat) : (tkT L tp i).1 = 39 ↔ psT L tp i = L := by
  have := psT_b hb i
  unfold tkT
  by_cases e : psT L tp i < L
  · have := (lx_b hb e).2.2.2.1
    exact ⟨fun w => absurd w this, fun w => by omega⟩
  · rw [lx_end (by omega)]; exact ⟨fun _ => by omega, fun _ => rfl⟩
/-- the words' text, letter by letter -/
def stW (tp : Nat → Nat) (e : Nat) (c : Nat) (m : Option Nat) : Option Nat := match m with
  | none => none
  | some a => if a < e ∧ tp a = c then some (a + 1) else none
def wF (tp : Nat → Nat) (q e : Nat) : List Nat → Nat → Option Nat → Nat
  | [], _, _ => 40
  | c :: R, k, m => if c = 32 then (if m = some e then k else wF tp q e R (k + 1) (some q)) else wF tp q e R k (stW tp e c m)
def fdW (tp : Nat → Nat) (e : Nat) : List Nat → Option Nat → Option Nat
  | [], m => m
  | c :: w, m => fdW tp e w (stW tp e c m)
theorem wF_w {q e : Nat} : ∀ (w R : List Nat) (k : Nat) (m : Option Nat), (∀ c, c ∈ w → c ≠ 32) → wF tp q e (w ++ 32 :: R) k m = if fdW tp e w m = some e then k else wF tp q e R (k + 1) (some q)
  | [], R, k, m, _ => by rw [List.nil_append, wF, if_pos rfl]; rfl
  | c :: w, R, k, m, h => by
    rw [List.cons_append, wF, if_neg (h c List.mem_cons_self), wF_w w R k _ (fun d hd => h d (List.mem_cons_of_mem _ hd))]; rfl
theorem fdW_n {e : Nat} : ∀ w, fdW tp e w none = none
  | [] => rfl
  | c :: w => fdW_n w
theorem fdW_i {e : Nat} : ∀ (w : List Nat) (a : Nat), a ≤ e → (fdW tp e w (some a) = some e ↔ byL tp (e - a) a = w)
  | [], a, h => by
    show some a = some e ↔ _
    constructor
    · intro w; rw [Option.some.inj w, Nat.sub_self]; rfl
    · intro w
      have := byL_len (tp := tp) (e - a) a
      rw [w] at this
      have : 0 = e - a := this
      rw [show a = e by omega]
  | c :: w, a, h => by
    show fdW tp e w (stW tp e c (some a)) = some e ↔ _
    unfold stW
    by_cases q : a < e ∧ tp a = c
    · show fdW tp e w (if a < e ∧ tp a = c then some (a + 1) else none) = some e ↔ _
      rw [if_pos q, fdW_i w (a + 1) (by omega), show e - a = e - (a + 1) + 1 by omega, byL, q.2]
      exact ⟨fun x => by rw [x], fun x => (List.cons.inj x).2⟩
    · show fdW tp e w (if a < e ∧ tp a = c then some (a + 1) else none) = some e ↔ _
      rw [if_neg q, fdW_n]
      refine ⟨(fun x => by cases x), fun x => ?_⟩
      exfalso
      by_cases ae : a < e
      · rw [show e - a = e - (a + 1) + 1 by omega, byL] at x
        exact q ⟨ae, (List.cons.inj x).1⟩
      · rw [show e - a = 0 by omega, byL] at x; cases x
theorem wF_W {q e : Nat} (h : q ≤ e) : ∀ (R : List (List Nat)) (k : Nat), (∀ w, w ∈ R → ∀ c, c ∈ w → c ≠ 32) → wF tp q e (R.flatMap (fun w => w ++ [32])) k (some q) = wX R k (byL tp (e - q) q)
  | [], k, _ => rfl
  | w :: R, k, hR => by
    rw [List.flatMap_cons, List.append_assoc, List.singleton_append, wF_w w _ k _ (hR w List.mem_cons_self), wF_W h R (k + 1) (fun v hv => hR v (List.mem_cons_of_mem _ hv)), wX]
    by_cases x : byL tp (e - q) q = w
    · rw [if_pos ((fdW_i w q h).mpr x), if_pos x]
    · rw [if_neg (fun y => x ((fdW_i w q h).mp y)), if_neg x]
theorem wds_32 : ∀ w, w ∈ WDS → ∀ c, c ∈ w → c ≠ 32 := by decide +kernel
def WFL : List Nat := WDS.flatMap (fun w => w ++ [32])
theorem wfl_len : WFL.length = 116 := by decide +kernel
theorem wfl_ch : ∀ j, j < 116 → chS 1 j = nI (WFL.getD j 0) ∧ WFL.getD j 0 < 256 := by decide +kernel
theorem sgt_ch : ∀ j, j < 12 → chS 0 j = nI (sgT.getD j 0) ∧ sgT.getD j 0 < 256 := by decide +kernel
end LX
