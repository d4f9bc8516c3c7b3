/-! THE CLASS'S CONSTRUCTOR, whole -/
def rA : List (Nat × Nat × Nat) := [(0, 3, 1), (1, 5, 7), (1, 4, 6), (1, 3, 5), (1, 2, 4), (1, 1, 3), (1, 0, 2)]
def rB : List (Nat × Nat × Nat) := (0, 4, 8) :: (8, 5, 14) :: (8, 4, 13) :: (8, 3, 12) :: (8, 2, 11) :: (8, 1, 10) :: (8, 0, 9) :: rA
def rC : List (Nat × Nat × Nat) := (0, 5, 15) :: (15, 0, 16) :: rB
def rD : List (Nat × Nat × Nat) := (0, 6, 17) :: (17, 2, 18) :: (18, 2, 21) :: (18, 1, 20) :: (18, 0, 19) :: rC
def rE : List (Nat × Nat × Nat) := (0, 7, 22) :: rD
def rF : List (Nat × Nat × Nat) := (0, 8, 23) :: (23, 1, 25) :: (23, 0, 24) :: rE
def rG : List (Nat × Nat × Nat) := (0, 9, 26) :: (26, 2, 23) :: (26, 1, 22) :: (26, 0, 1) :: (26, 5, 29) :: (26, 4, 28) :: (26, 3, 27) :: rF
def rH : List (Nat × Nat × Nat) := (0, 0, 30) :: (30, 5, 31) :: rG
def rJ1 : List (Nat × Nat × Nat) := (0, 1, 32) :: plR 32 30 33 rH
def rJ2 : List (Nat × Nat × Nat) := (0, 2, 39) :: plR 39 30 40 rJ1
def rK2 : List (Nat × Nat × Nat) := (0, 10, 46) :: rl2 rJ2
def kA : List Nat := L6 ([10] ++ [8]) 12 12 12 12 12 12
def kB : List Nat := L6 (kA ++ [8]) 12 12 12 12 12 12
def kC : List Nat := kB ++ [6] ++ [12]
def kD : List Nat := kC ++ [4] ++ [0] ++ [12] ++ [12] ++ [12]
def kE : List Nat := kD ++ [16]
def kF : List Nat := kE ++ [5] ++ [12] ++ [12]
def kG : List Nat := kF ++ [9] ++ [12] ++ [12] ++ [12]
def kH : List Nat := kG ++ [1] ++ [13]
def kJ1 : List Nat := pK kH
def kJ2 : List Nat := pK kJ1
def kK2 : List Nat := pK (pK (pK (pK (pK (kJ2 ++ [2] ++ [15])))))
def unA : List Nat := L6 ([0] ++ [0]) 6 6 6 6 40 24
def unB : List Nat := L6 (unA ++ [0]) 6 6 6 6 40 24
def unC : List Nat := unB ++ [0] ++ [300]
def unD : List Nat := unC ++ [0] ++ [0] ++ [301] ++ [301] ++ [301]
def unE : List Nat := unD ++ [4]
def unF : List Nat := unE ++ [0] ++ [12] ++ [64]
def unG : List Nat := unF ++ [0] ++ [24] ++ [26] ++ [24]
def unH (C : Nat) : List Nat := unG ++ [0] ++ [C]
def unJ1 (C : Nat) : List Nat := pN C (unH C)
def unJ2 (C : Nat) : List Nat := pN C (unJ1 C)
def unK2 (C : Nat) : List Nat := pN C (pN C (pN C (pN C (pN C (unJ2 C ++ [0] ++ [5])))))
def z0I : Nat → Nat → Int32 := fun _ _ => 0
def z0J : Nat → Nat → Int64 := fun _ _ => 0
def iA (z : Nat) : Nat → Nat → Int32 := flI (up2 z0I (z + 1) 8 (-1)) (z + 7) 24 (-1)
def iB (z : Nat) : Nat → Nat → Int32 := flI (up2 (iA z) (z + 8) 8 (-1)) (z + 14) 24 (-1)
def iD (z : Nat) : Nat → Nat → Int32 := up2 (up2 (iB z) (z + 17) 0 (-1)) (z + 17) 1 (-1)
def iH (z W H : Nat) : Nat → Nat → Int32 := up2 (up2 (up2 (iD z) (z + 30) 0 (nI W)) (z + 30) 1 (nI H)) (z + 30) 2 (nI (W * H))
def iJ2 (z W H : Nat) : Nat → Nat → Int32 := plI z 40 (W * H) (plI z 33 (W * H) (iH z W H))
def iK2 (z W H : Nat) : Nat → Nat → Int32 := in2 z (W * H) (iJ2 z W H)
section ID
variable {n z W H : Nat}
theorem cv_e {α : Type} {x : Option MS} {S : MS} {F : MS → Option α} (h : x = some S) : cv x F = F S := by rw [h]; rfl
theorem s0_bk : nw S0 (z + 0) 10 0 = bk z [10] [0] [] z0I z0J := by
  have e : S0 = bk z [] [] [] z0I z0J := by
    refine Prod.ext rfl (Prod.ext ?_ (Prod.ext ?_ (Prod.ext rfl (Prod.ext rfl ?_))))
    · show (fun _ => 0) = (fun a => if a < z then 0 else ([] : List Nat).getD (a - z) 0)
      funext a
      by_cases y : a < z
      · rw [if_pos y]
      · rw [if_neg y]; rfl
    · show (fun _ => 0) = (fun a => if a < z then 0 else ([] : List Nat).getD (a - z) 0)
      funext a
      by_cases y : a < z
      · rw [if_pos y]
      · rw [if_neg y]; rfl
    · show (fun _ _ => none) = (fun a k => if a < z then none else (chn [] (a - z) k).map (fun o => z + o))
      funext a k
      by_cases y : a < z
      · rw [if_pos y]
      · rw [if_neg y]; rfl
  rw [e]
  exact bk_nw (l := 0) ⟨rfl, rfl, (fun e he => by cases he), fun _ _ => rfl, fun _ _ => rfl⟩ 10 0
theorem i10_ok (hn : 100000 ≤ n) (h1 : 3 ≤ W) (h2 : W ≤ 8) (h3 : 3 ≤ H) (h4 : H ≤ 6) {w h : Int32} (hw : imax (3 : Int32) (imin (8 : Int32) w) = nI W) (hh : imax (3 : Int32) (imin (6 : Int32) h) = nI H) : ∃ J, f_X10_init n z z w h (nw S0 z 10 0) = some (bk z kK2 (unK2 (W * H)) rK2 (iK2 z W H) J) ∧ BkW z 83 kK2 (unK2 (W * H)) rK2 (iK2 z W H) J ∧ GeoR W H (iH z W H (z + 30)) (J (z + 30)) (J (z + 31)) ∧ ∀ q, q ≠ z + 30 → q ≠ z + 31 → J q = z0J q := by
  have hC : W * H ≤ 48 := WH h2 h4
  have q0 : BkW z 1 [10] [0] [] z0I z0J := ⟨rfl, rfl, (fun e he => by cases he), fun _ _ => rfl, fun _ _ => rfl⟩
  obtain ⟨eA, bA⟩ := i8_ok (n := n) (th := 1) hn (q0.nwk 8 0) (by omega)
  have qA : BkW z 8 kA unA rA (iA z) z0J := bA.rfk (a := 0) (by omega) 3 1
  obtain ⟨eB, bB⟩ := i8_ok (n := n) (th := 8) hn (qA.nwk 8 0) (by omega)
  have qB : BkW z 15 kB unB rB (iB z) z0J := bB.rfk (a := 0) (by omega) 4 8
  obtain ⟨eC, bC⟩ := i6_ok (n := n) (th := 15) (qB.nwk 6 0) (by omega)
  have qC : BkW z 17 kC unC rC (iB z) z0J := bC.rfk (a := 0) (by omega) 5 15
  obtain ⟨eD, bD⟩ := i4_ok (n := n) (th := 17) (qC.nwk 4 0) (by omega)
  have qD : BkW z 22 kD unD rD (iD z) z0J := bD.rfk (a := 0) (by omega) 6 17
  have qE : BkW z 23 kE unE rE (iD z) z0J := qD.alk 16 4 (a := 0) (by omega) 7
  obtain ⟨eF, bF⟩ := i5_ok (n := n) (th := 23) (qE.nwk 5 0) (by omega)
  have qF : BkW z 26 kF unF rF (iD z) z0J := bF.rfk (a := 0) (by omega) 8 23
  obtain ⟨eG, bG⟩ := i9_ok (n := n) (th := 26) (a1 := 1) (a2 := 22) (a3 := 23) (qF.nwk 9 0) (by omega)
  have qG : BkW z 30 kG unG rG (iD z) z0J := bG.rfk (a := 0) (by omega) 9 26
  obtain ⟨J, eH, bH, fJ, gJ⟩ := i1_ok (n := n) (th := 30) hn h1 h2 h3 h4 (qG.nwk 1 0) (by omega)
  have qH : BkW z 32 kH (unH (W * H)) rH (iH z W H) J := bH.rfk (a := 0) (by omega) 0 30
  have v2 : iH z W H (z + 30) 2 = nI (W * H) := up2_v
  obtain ⟨e9, b9⟩ := i3_ok (n := n) (th := 32) (g := 30) hn hC (qH.nwk 3 0) (by omega) v2
  have q9 : BkW z 39 kJ1 (unJ1 (W * H)) rJ1 (plI z 33 (W * H) (iH z W H)) J := b9.rfk (a := 0) (by omega) 1 32
  have v3 : plI z 33 (W * H) (iH z W H) (z + 30) 2 = nI (W * H) := by unfold plI; rw [flI_ne (by omega), flI_ne (by omega)]; exact v2
  obtain ⟨e10, b10⟩ := i3_ok (n := n) (th := 39) (g := 30) hn hC (q9.nwk 3 0) (by omega) v3
  have q10 : BkW z 46 kJ2 (unJ2 (W * H)) rJ2 (iJ2 z W H) J := b10.rfk (a := 0) (by omega) 2 39
  have v4 : iJ2 z W H (z + 30) 2 = nI (W * H) := by unfold iJ2; unfold plI; rw [flI_ne (by omega), flI_ne (by omega)]; exact v3
  obtain ⟨e11, b11⟩ := i2_ok (n := n) hn hC (q10.nwk 2 0) rfl rfl v4
  have q11 : BkW z 83 kK2 (unK2 (W * H)) rK2 (iK2 z W H) J := b11.rfk (a := 0) (by omega) 10 46
  refine ⟨J, ?_, q11, gJ, fun q a b => fJ q a b⟩
  show f_X10_init n z (z + 0) w h (nw S0 (z + 0) 10 0) = _
  rw [s0_bk]
  unfold f_X10_init
  refine Eq.trans (ob_st (a := 0) (k := 3) (f := fun q S => f_X8_init n z q S) q0 eA) ?_
  refine Eq.trans (ob_st (a := 0) (k := 4) (f := fun q S => f_X8_init n z q S) qA eB) ?_
  refine Eq.trans (ob_st (a := 0) (k := 5) (f := fun q S => f_X6_init n z q S) qB eC) ?_
  refine Eq.trans (ob_st (a := 0) (k := 6) (f := fun q S => f_X4_init n z q S) qC eD) ?_
  refine Eq.trans (al_st (c := 16) (m := 4) (a := 0) (k := 7) qD rfl) ?_
  refine Eq.trans (ob_st (a := 0) (k := 8) (f := fun q S => f_X5_init n z q S) qE eF) ?_
  refine Eq.trans (nw_st (c := 9) (m := 0) qF) ?_
  refine Eq.trans (bk_gR (a := 0) (k := 3) (v := 1) rfl (by decide) rfl) ?_
  refine Eq.trans (bk_gR (a := 0) (k := 7) (v := 22) rfl (by decide) rfl) ?_
  refine Eq.trans (bk_gR (a := 0) (k := 8) (v := 23) rfl (by decide) rfl) ?_
  refine Eq.trans (cv_e eG) ?_
  refine Eq.trans (sR_st (a := 0) (k := 9) (v := 26)) ?_
  refine Eq.trans (ob_st (a := 0) (k := 0) (f := fun q S => f_X1_init n z q (imax (3 : Int32) (imin (8 : Int32) w)) (imax (3 : Int32) (imin (6 : Int32) h)) S) qG (by rw [hw, hh]; exact eH)) ?_
  refine Eq.trans (nw_st (c := 3) (m := 0) qH) ?_
  refine Eq.trans (bk_gR (a := 0) (k := 0) (v := 30) rfl (by decide) rfl) ?_
  refine Eq.trans (cv_e e9) ?_
  refine Eq.trans (sR_st (a := 0) (k := 1) (v := 32)) ?_
  refine Eq.trans (nw_st (c := 3) (m := 0) q9) ?_
  refine Eq.trans (bk_gR (a := 0) (k := 0) (v := 30) rfl (by decide) rfl) ?_
  refine Eq.trans (cv_e e10) ?_
  refine Eq.trans (sR_st (a := 0) (k := 2) (v := 39)) ?_
  refine Eq.trans (nw_st (c := 2) (m := 0) q10) ?_
  refine Eq.trans (bk_gR (a := 0) (k := 1) (v := 32) rfl (by decide) rfl) ?_
  refine Eq.trans (bk_gR (a := 0) (k := 3) (v := 1) rfl (by decide) rfl) ?_
  refine Eq.trans (bk_gR (a := 0) (k := 9) (v := 26) rfl (by decide) rfl) ?_
  refine Eq.trans (cv_e e11) ?_
  exact sR_st (a := 0) (k := 10) (v := 46)
end ID
