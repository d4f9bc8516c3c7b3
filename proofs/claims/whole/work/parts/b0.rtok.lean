/-! THE REFERENCE'S NEXT TOKEN -/
section RO
variable {n z C t : Nat} {u : Option Nat} {L : Nat} {tp : Nat → Nat}
def ntK (n z : Nat) : MS → Option MS := fun (S3 : MS) => bd (sI S3 (z + 83) 11 (mI S3 (z + 83) 10)) fun S4 => cl (f_X11_byteAt n (z + 83) (mI S4 (z + 83) 10) S4) fun x9 S6 => (if 0 ≤ x9 then cl (f_X11_isDigit n x9 S6) fun x13 S10 => (if x13 = 0 then cl (f_X11_isLetter n x9 S10) fun x17 S14 => (if x17 = 0 then bd (sI S14 (z + 83) 10 ((mI S14 (z + 83) 10) + (1 : Int32))) fun S18 => jn (fun (x22 : Int32) (S23 : MS) => jn (fun (q26 : Nat) (x27 : Int32) (S28 : MS) => bd (sI S28 q26 12 x27) fun S29 => jn (fun (S33 : MS) => cl (f_X11_byteAt n (z + 83) (mI S33 (z + 83) 10) S33) fun x37 S34 => (if x37 = (61 : Int32) then bd (sI S34 (z + 83) 10 ((mI S34 (z + 83) 10) + (1 : Int32))) fun S38 => (if x9 = (60 : Int32) then bd (sI S38 (z + 83) 12 (4 : Int32)) fun S42 => some S42 else bd (sI S38 (z + 83) 12 (5 : Int32)) fun S40 => some S40) else some S34)) fun j358_32 => (if x9 = (60 : Int32) then j358_32 S29 else (if x9 = (62 : Int32) then j358_32 S29 else some S29))) fun j343_25 => (if x22 = 0 then j343_25 (z + 83) (3 : Int32) S23 else j343_25 (z + 83) x9 S23)) fun j332_21 => jn (fun (S50 : MS) => j332_21 (1 : Int32) S50) fun j327_49 => (if x9 = (60 : Int32) then j327_49 S18 else (if x9 = (62 : Int32) then j327_49 S18 else (if x9 = (61 : Int32) then j327_49 S18 else (if x9 = (35 : Int32) then j327_49 S18 else (if x9 = (43 : Int32) then j327_49 S18 else (if x9 = (45 : Int32) then j327_49 S18 else (if x9 = (42 : Int32) then j327_49 S18 else (if x9 = (47 : Int32) then j327_49 S18 else (if x9 = (40 : Int32) then j327_49 S18 else (if x9 = (41 : Int32) then j327_49 S18 else (if x9 = (59 : Int32) then j327_49 S18 else (if x9 = (44 : Int32) then j327_49 S18 else j332_21 (0 : Int32) S18)))))))))))) else bd (sI S14 (z + 83) 12 (2 : Int32)) fun S54 => bd (sJ S54 (z + 83) 14 (0 : Int64)) fun S56 => jn (fun (S60 : MS) => (if ((mI S60 (z + 83) 10) - (mI S60 (z + 83) 11)) ≤ (7 : Int32) then some S60 else bd (sJ S60 (z + 83) 14 (0 : Int64)) fun S61 => some S61)) fun j223_59 => f_X11_nextToken_L161 n (z + 83) j223_59 n S56) else bd (sI S10 (z + 83) 12 (1 : Int32)) fun S88 => bd (sI S88 (z + 83) 13 (0 : Int32)) fun S90 => f_X11_nextToken_L85 n (z + 83) n S90) else bd (sI S6 (z + 83) 12 (0 : Int32)) fun S116 => some S116)
theorem nt_eq (S : MS) : f_X11_nextToken n (z + 83) S = f_X11_nextToken_L0 n (z + 83) (ntK n z) n S := rfl
/-- the kind of the token that begins there -/
def kdT (L : Nat) (tp : Nat → Nat) (p : Nat) : Nat := if L ≤ p then 0 else if ltB (tp p) = true then 2 else if dgB (tp p) = true then 1 else if (sgX (tp p) = 24 ∨ sgX (tp p) = 25) ∧ p + 1 < L ∧ tp (p + 1) = 61 then (if sgX (tp p) = 24 then 4 else 5) else if sgX (tp p) = 40 then 3 else tp p
def jPk (l : List Nat) : Int64 := if l.length ≤ 7 then nJ (pkN l) else 0
def LxR (z L : Nat) (tp : Nat → Nat) (I : Nat → Nat → Int32) (J : Nat → Nat → Int64) (p : Nat) : Prop := I (z + 83) 11 = nI p ∧ I (z + 83) 10 = nI (lx L tp p).2 ∧ I (z + 83) 12 = nI (kdT L tp p) ∧ (p < L → ¬ ltB (tp p) = true → dgB (tp p) = true → ∃ m, RvN m (valF L tp (L - p) p 0) ∧ I (z + 83) 13 = nI m) ∧ (p < L → ltB (tp p) = true → J (z + 83) 14 = jPk (byL tp (runE L tp ltB p - p) p))
def Fd5 (j : Nat) : Prop := j = 10 ∨ j = 11 ∨ j = 12 ∨ j = 13
theorem ltdg {b : Nat} : ¬ (ltB b = true ∧ dgB b = true) := fun w => by
  have h1 : (97 ≤ b ∧ b ≤ 122) ∨ (65 ≤ b ∧ b ≤ 90) := of_decide_eq_true w.1
  have h2 : 48 ≤ b ∧ b ≤ 57 := of_decide_eq_true w.2
  omega
theorem ntk_ok (hn : 100000 ≤ n) {I : Nat → Nat → Int32} {J : Nat → Nat → Int64} {p0 : Nat} (hp0 : p0 ≤ L) (hT0 : TpR z L tp I) (h0 : I (z + 83) 10 = nI p0) : ∃ I' J', f_X11_nextToken n (z + 83) (mk z C I J t u) = some (mk z C I' J' t u) ∧ OnF z Fd5 I I' ∧ OnJ z J J' ∧ LxR z L tp I' J' (skP L tp p0) := by
  have hL := hT0.2.1
  obtain ⟨I0, e0, f0, h10⟩ := q_L0 (n := n) (C := C) (t := t) (u := u) (J := J) (K := ntK n z) n p0 I (by omega) hp0 hT0 h0
  rw [nt_eq, e0]
  have hpL : skP L tp p0 ≤ L := (runE_b (tp := tp) (pr := spB) L p0 (by omega) hp0).2.1
  have hT1 := hT0.on f0 (by decide)
  generalize skP L tp p0 = p at *
  have f0' : OnF z Fd5 I I0 := f0.mo (fun j hj => Or.inl hj)
  have m10 : mI (mk z C I0 J t u) (z + 83) 10 = nI p := h10
  have F1 : OnF z Fd5 I (up2 I0 (z + 83) 11 (nI p)) := f0'.up (Or.inr (Or.inl rfl))
  have hT : TpR z L tp (up2 I0 (z + 83) 11 (nI p)) := hT0.on F1 (by unfold Fd5; omega)
  have g10 : (up2 I0 (z + 83) 11 (nI p)) (z + 83) 10 = nI p := by rw [up2_x (by omega)]; exact h10
  have g11 : (up2 I0 (z + 83) 11 (nI p)) (z + 83) 11 = nI p := up2_v
  unfold ntK
  simp only [jn, bd]
  rw [m10, sI_mk]
  generalize up2 I0 (z + 83) 11 (nI p) = I1 at *
  clear f0 f0' hT1 h10 m10 e0 h0 hp0 p0 I0
  have m10 : mI (mk z C I1 J t u) (z + 83) 10 = nI p := g10
  obtain ⟨h1, h2, h3⟩ := id hT
  have hb : ∀ j, j < L → tp j < 256 := fun j hj => (h3 j hj).2
  rw [m10, q_by hT (by omega), cl_some]
  by_cases pL : L ≤ p
  · rw [show byV L tp p = -1 from if_neg (by omega), if_neg (by decide), sI_mk]
    refine ⟨_, _, rfl, F1.up (Or.inr (Or.inr (Or.inl rfl))), fun _ _ _ => rfl, ?_, ?_, ?_, (fun w => by omega), (fun w => by omega)⟩
    · rw [up2_x (by omega)]; exact g11
    · rw [up2_x (by omega), lx_end pL]; exact g10
    · rw [up2_v]; unfold kdT; rw [if_pos pL]; rfl
  have pl : p < L := by omega
  have b2 := hb p pl
  rw [if_pos (show 0 ≤ byV L tp p by rw [show byV L tp p = nI (tp p) from if_pos pl]; exact (nI_le' (a := 0) (by omega) (by omega)).mpr (Nat.zero_le _)), q_dgr hb, cl_some, decide_eq_true pl, Bool.true_and]
  by_cases dg : dgB (tp p) = true
  · have lt : ¬ ltB (tp p) = true := fun w => ltdg ⟨w, dg⟩
    rw [dg, if_neg (by decide), sI_mk, sI_mk]
    have F2 : OnF z Fd5 I (up2 (up2 I1 (z + 83) 12 1) (z + 83) 13 0) := (F1.up (Or.inr (Or.inr (Or.inl rfl)))).up (Or.inr (Or.inr (Or.inr rfl)))
    have F12 : OnF z (fun j => j = 12 ∨ j = 13) I1 (up2 (up2 I1 (z + 83) 12 1) (z + 83) 13 0) := (OnF.ro.up (Or.inl rfl)).up (Or.inr rfl)
    obtain ⟨I', m', e, a, b, c, d⟩ := q_L85 (n := n) (z := z) (C := C) (t := t) (u := u) (J := J) (L := L) (tp := tp) n p 0 0 (up2 (up2 I1 (z + 83) 12 1) (z + 83) 13 0) (by omega) hpL (hT.on F12 (by decide)) (by rw [up2_x (by omega), up2_x (by omega)]; exact g10) up2_v ⟨by omega, by omega⟩
    refine ⟨I', J, e, F2.to (a.mo (fun j hj => by unfold Fd5; omega)), fun _ _ _ => rfl, ?_, ?_, ?_, (fun _ _ _ => ⟨m', d, c⟩), fun _ w => absurd w lt⟩
    · rw [a _ _ (by omega), up2_x (by omega), up2_x (by omega)]; exact g11
    · rw [b]; unfold lx; rw [if_neg pL, if_neg lt, if_pos dg]
    · rw [a _ _ (by omega), up2_x (by omega), up2_v]; unfold kdT; rw [if_neg pL, if_neg lt, if_pos dg]; rfl
  rw [Bool.eq_false_iff.mpr dg, if_pos (show bWC false = 0 from rfl), q_ltr hb, cl_some, decide_eq_true pl, Bool.true_and]
  by_cases lt : ltB (tp p) = true
  · rw [lt, if_neg (by decide), sI_mk, sJ_mk]
    have F2 : OnF z Fd5 I (up2 I1 (z + 83) 12 2) := F1.up (Or.inr (Or.inr (Or.inl rfl)))
    have hr := runE_b (tp := tp) (pr := ltB) (L - p) p (Nat.le_refl _) (by omega)
    obtain ⟨I', J', e, a, b, c, d⟩ := q_L161 (n := n) (z := z) (C := C) (t := t) (u := u) (L := L) (tp := tp) (K := fun (S60 : MS) => (if ((mI S60 (z + 83) 10) - (mI S60 (z + 83) 11)) ≤ (7 : Int32) then some S60 else some (sJ S60 (z + 83) 14 (0 : Int64)))) (s := p) n p (up2 I1 (z + 83) 12 2) (up2 J (z + 83) 14 0) (by omega) hpL (Nat.le_refl _) (hT0.on F2 (by unfold Fd5; omega)) (by rw [up2_x (by omega)]; exact g10) (by rw [up2_x (by omega)]; exact g11) (by rw [up2_v, Nat.sub_self]; rfl)
    have k11 : I' (z + 83) 11 = nI p := by rw [a _ _ (by omega), up2_x (by omega)]; exact g11
    have k12 : I' (z + 83) 12 = nI (kdT L tp p) := by rw [a _ _ (by omega), up2_v]; unfold kdT; rw [if_neg pL, if_pos lt]; rfl
    have k10 : I' (z + 83) 10 = nI (lx L tp p).2 := by rw [c]; unfold lx; rw [if_neg pL, if_pos lt]
    have oj : OnJ z J J' := fun q j w => (b q j w).trans (up2_x w)
    rw [e]
    show ∃ I'' J'', (if I' (z + 83) 10 - I' (z + 83) 11 ≤ (7 : Int32) then some (mk z C I' J' t u) else some (sJ (mk z C I' J' t u) (z + 83) 14 0)) = _ ∧ _
    rw [c, k11, nI_sb hr.1]
    by_cases y : runE L tp ltB p - p ≤ 7
    · rw [if_pos (show nI (runE L tp ltB p - p) ≤ (7 : Int32) from (nI_le' (b := 7) (by omega) (by omega)).mpr y)]
      refine ⟨I', J', rfl, F2.to (a.mo (fun j hj => Or.inl hj)), oj, k11, k10, k12, (fun _ w _ => absurd lt w), fun _ _ => ?_⟩
      rw [d, Nat.min_eq_left y]; unfold jPk; rw [byL_len, if_pos y]
    · rw [if_neg (show ¬ nI (runE L tp ltB p - p) ≤ (7 : Int32) from fun w => y ((nI_le' (b := 7) (by omega) (by omega)).mp w)), sJ_mk]
      refine ⟨I', _, rfl, F2.to (a.mo (fun j hj => Or.inl hj)), oj.up, k11, k10, k12, (fun _ w _ => absurd lt w), fun _ _ => ?_⟩
      rw [up2_v]; unfold jPk; rw [byL_len, if_neg y]
  rw [Bool.eq_false_iff.mpr lt, if_pos (show bWC false = 0 from rfl), m10, sI_mk, show nI p + (1 : Int32) = nI (p + 1) from nI_pl p 1, show byV L tp p = nI (tp p) from if_pos pl, ch12 b2]
  have so := sg_ok (tp p) b2
  have F3 : ∀ v, OnF z Fd5 I (up2 (up2 I1 (z + 83) 10 (nI (p + 1))) (z + 83) 12 v) := fun v => (F1.up (Or.inl rfl)).up (Or.inr (Or.inr (Or.inl rfl)))
  have n60 : nI (tp p) = (60 : Int32) ↔ tp p = 60 := nI_inj (b := 60) (by omega) (by omega)
  have n62 : nI (tp p) = (62 : Int32) ↔ tp p = 62 := nI_inj (b := 62) (by omega) (by omega)
  have one : ∀ v, ¬ ((sgX (tp p) = 24 ∨ sgX (tp p) = 25) ∧ p + 1 < L ∧ tp (p + 1) = 61) → v = (if sgX (tp p) = 40 then 3 else tp p) → LxR z L tp (up2 (up2 I1 (z + 83) 10 (nI (p + 1))) (z + 83) 12 (nI v)) J p := fun v hv ev => by
    refine ⟨?_, ?_, ?_, (fun _ _ w => absurd w dg), fun _ w => absurd w lt⟩
    · rw [up2_x (by omega), up2_x (by omega)]; exact g11
    · rw [up2_x (by omega), up2_v]; unfold lx; rw [if_neg pL, if_neg lt, if_neg dg, if_neg hv]
    · rw [up2_v]; unfold kdT; rw [if_neg pL, if_neg lt, if_neg dg, if_neg hv, ev]
  by_cases s40 : sgX (tp p) = 40
  · rw [if_pos s40, if_pos trivial, if_neg (fun w => by have := so.2.1.mpr (n60.mp w); omega), if_neg (fun w => by have := so.2.2.1.mpr (n62.mp w); omega), sI_mk]
    exact ⟨_, J, rfl, F3 3, fun _ _ _ => rfl, one 3 (by omega) (by rw [if_pos s40])⟩
  rw [if_neg s40, if_neg (show ¬ (1 : Int32) = 0 by decide), sI_mk]
  have ev : tp p = (if sgX (tp p) = 40 then 3 else tp p) := by rw [if_neg s40]
  have hT3 : TpR z L tp (up2 (up2 I1 (z + 83) 10 (nI (p + 1))) (z + 83) 12 (nI (tp p))) := hT0.on (F3 _) (by unfold Fd5; omega)
  have k10 : mI (mk z C (up2 (up2 I1 (z + 83) 10 (nI (p + 1))) (z + 83) 12 (nI (tp p))) J t u) (z + 83) 10 = nI (p + 1) := by rw [mI_mk, up2_x (by omega), up2_v]
  have bv : byV L tp (p + 1) = (61 : Int32) ↔ p + 1 < L ∧ tp (p + 1) = 61 := by
    unfold byV
    by_cases e : p + 1 < L
    · rw [if_pos e, show (61 : Int32) = nI 61 from rfl, nI_inj (by have := hb _ e; omega) (by omega)]; exact ⟨fun w => ⟨e, w⟩, fun w => w.2⟩
    · rw [if_neg e]; exact ⟨(fun w => absurd w (by decide)), fun w => absurd w.1 e⟩
  rw [k10]
  have two : ∀ w : Nat, w = (if sgX (tp p) = 24 then 4 else 5) → (sgX (tp p) = 24 ∨ sgX (tp p) = 25) → ∃ I' J', (cl (f_X11_byteAt n (z + 83) (nI (p + 1)) (mk z C (up2 (up2 I1 (z + 83) 10 (nI (p + 1))) (z + 83) 12 (nI (tp p))) J t u)) fun x37 S34 => if x37 = (61 : Int32) then some (sI (sI S34 (z + 83) 10 (mI S34 (z + 83) 10 + 1)) (z + 83) 12 (nI w)) else some S34) = some (mk z C I' J' t u) ∧ OnF z Fd5 I I' ∧ OnJ z J J' ∧ LxR z L tp I' J' p := fun w hw hs => by
    rw [q_by hT3 (by omega), cl_some]
    by_cases y : p + 1 < L ∧ tp (p + 1) = 61
    · rw [if_pos (bv.mpr y), k10, sI_mk, sI_mk, show nI (p + 1) + (1 : Int32) = nI (p + 2) from nI_pl (p + 1) 1]
      refine ⟨_, J, rfl, ((F3 _).up (Or.inl rfl)).up (Or.inr (Or.inr (Or.inl rfl))), fun _ _ _ => rfl, ?_, ?_, ?_, (fun _ _ w => absurd w dg), fun _ w => absurd w lt⟩
      · rw [up2_x (by omega), up2_x (by omega), up2_x (by omega), up2_x (by omega)]; exact g11
      · rw [up2_x (by omega), up2_v]; unfold lx; rw [if_neg pL, if_neg lt, if_neg dg, if_pos ⟨hs, y⟩]
      · rw [up2_v]; unfold kdT; rw [if_neg pL, if_neg lt, if_neg dg, if_pos ⟨hs, y⟩, hw]
    · rw [if_neg (fun w => y (bv.mp w))]
      exact ⟨_, J, rfl, F3 _, fun _ _ _ => rfl, one _ (fun w => y w.2) ev⟩
  by_cases e60 : tp p = 60
  · have s24 := so.2.1.mpr e60
    have y := two 4 (by rw [if_pos s24]) (Or.inl s24)
    rw [if_pos (n60.mpr e60)]
    simp only [if_pos (n60.mpr e60)]
    exact y
  · have s24 : ¬ sgX (tp p) = 24 := fun w => e60 (so.2.1.mp w)
    rw [if_neg (fun w => e60 (n60.mp w))]
    by_cases e62 : tp p = 62
    · have s25 := so.2.2.1.mpr e62
      have y := two 5 (by rw [if_neg s24]) (Or.inr s25)
      rw [if_pos (n62.mpr e62)]
      simp only [if_neg (show ¬ nI (tp p) = (60 : Int32) from fun w => e60 (n60.mp w))]
      exact y
    · rw [if_neg (fun w => e62 (n62.mp w))]
      exact ⟨_, J, rfl, F3 _, fun _ _ _ => rfl, one _ (fun w => by have : ¬ sgX (tp p) = 25 := fun w => e62 (so.2.2.1.mp w); omega) ev⟩
end RO
