/-! BOTH CONSTRUCTORS: the beginning -/
def rI3 (n z : Nat) (S97 : MS) : Option MS := gR S97 (mR S97 (z + 83) 0) 12 fun q99 => ck (inb (4 : Int32) (mN S97 q99)) (bd (sI S97 q99 (4 : Int32).toNatClampNeg (-1 : Int32)) fun S102 => f_X11_init_L195 n (z + 83) (fun S106 => f_X11_init_L219 n (z + 83) (fun S109 => f_X11_init_L244 n (z + 83) n (0 : Int32) S109) n (0 : Int32) S106) n (0 : Int32) S102)
def rI2 (n z : Nat) (x93 : Int32) (S94 : MS) : Option MS := bd (sI S94 (z + 83) 2 x93) fun S95 => bd (sI S95 (z + 83) 3 ((mI S95 (z + 83) 1) * (mI S95 (z + 83) 2))) fun S97 => rI3 n z S97
def rI1 (n z : Nat) (a2 x86 : Int32) (S87 : MS) : Option MS := bd (sI S87 (z + 83) 1 x86) fun S88 => (if (3 : Int32) ≤ a2 then (if a2 ≤ (6 : Int32) then rI2 n z a2 S88 else rI2 n z (6 : Int32) S88) else rI2 n z (3 : Int32) S88)
def gW9 (g : Nat → Int32) : Nat → Int32 := frW (frW (frW (ur g 4 (-1)) 85 91) 165 189) 240 288
section OI
variable {n z C W H : Nat} {K N : List Nat} {rl : List (Nat × Nat × Nat)} {I : Nat → Nat → Int32} {J : Nat → Nat → Int64} {u : Option Nat} {t : Nat} {α : Type}
theorem sI_st {a k : Nat} {v : Int32} {F : MS → Option α} : bd (sI (bk z K N rl I J) a k v) F = F (bk z K N rl (up2 I a k v) J) := rfl
theorem rI3_ok (hn : 100000 ≤ n) : rI3 n z (mk z C I J t u) = some (mk z C (upr I (z + 84) (cpR (gW9 (I (z + 84))) 0 1 340)) J t u) := by
  unfold rI3
  simp only [bd]
  have e0 : sI (mk z C I J t u) (z + 84) (4 : Int32).toNatClampNeg (-1) = mk z C (upr I (z + 84) (ur (I (z + 84)) 4 (-1))) J t u := by
    rw [sI_mk]
    congr 1
    funext b j
    by_cases y : b = z + 84
    · rw [y, upr_v, up2_r]; rfl
    · rw [upr_x y, up2_ne y]
  rw [g83_0, n84, ck_t (by decide), e0]
  refine Eq.trans (l195_ok 6 0 n _ rfl (by omega)) ?_
  refine Eq.trans (l219_ok 24 0 n _ rfl (by omega)) ?_
  exact l244_ok hn 48 0 n _ rfl (by omega)
theorem rI2_ok (hn : 100000 ≤ n) (h1 : I (z + 83) 1 = nI W) : rI2 n z (nI H) (mk z C I J t u) = some (mk z C (upr (up2 (up2 I (z + 83) 2 (nI H)) (z + 83) 3 (nI (W * H))) (z + 84) (cpR (gW9 (I (z + 84))) 0 1 340)) J t u) := by
  have e := rI3_ok (n := n) (z := z) (C := C) (I := up2 (up2 I (z + 83) 2 (nI H)) (z + 83) 3 (nI (W * H))) (J := J) (t := t) (u := u) hn
  rw [up2_ne (by omega), up2_ne (by omega)] at e
  rw [← e]
  unfold rI2
  simp only [bd]
  rw [sI_mk, show mI (mk z C (up2 I (z + 83) 2 (nI H)) J t u) (z + 83) 1 = nI W from (by rw [mI_mk, up2_x (by omega)]; exact h1), show mI (mk z C (up2 I (z + 83) 2 (nI H)) J t u) (z + 83) 2 = nI H from up2_v, nI_ml, sI_mk]
theorem i11_ok (hn : 100000 ≤ n) {w h : Int32} (q : BkW z 83 kK2 (unK2 C) rK2 I J) (hw : (nI 3 ≤ w ∧ w ≤ nI 8 ∧ w = nI W) ∨ (nI 3 ≤ w ∧ ¬ w ≤ nI 8 ∧ nI 8 = nI W) ∨ (¬ nI 3 ≤ w ∧ nI 3 = nI W)) (hh : (nI 3 ≤ h ∧ h ≤ nI 6 ∧ h = nI H) ∨ (nI 3 ≤ h ∧ ¬ h ≤ nI 6 ∧ nI 6 = nI H) ∨ (¬ nI 3 ≤ h ∧ nI 3 = nI H)) : f_X11_init n z (z + 83) w h (nw (bk z kK2 (unK2 C) rK2 I J) (z + 83) 11 0) = some (mk z C (upr (up2 (up2 (up2 (up2 (up2 I (z + 83) 8 (-1)) (z + 83) 9 (-1)) (z + 83) 1 (nI W)) (z + 83) 2 (nI H)) (z + 83) 3 (nI (W * H))) (z + 84) (cpR (gW9 (fun _ => 0)) 0 1 340)) J 0 none) := by
  have q1 := q.nwk 11 0
  have a1 := q1.alk 12 2720 (a := 83) (by omega) 0
  have a2 := a1.alk 12 2800 (a := 83) (by omega) 5
  have a3 := a2.alk 12 300 (a := 83) (by omega) 6
  have a4 := (a3.ik (a := 83) (by omega) 8 (-1)).ik (a := 83) (by omega) 9 (-1)
  have a5 := a4.alk 12 160 (a := 83) (by omega) 19
  have a6 := a5.alk 12 12 (a := 83) (by omega) 25
  have a7 := a6.alk 13 330 (a := 83) (by omega) 26
  have a8 := a7.alk 14 330 (a := 83) (by omega) 27
  have a9 := a8.alk 12 24 (a := 83) (by omega) 28
  have a10 := a9.alk 14 24 (a := 83) (by omega) 29
  have a11 := a10.alk 12 48 (a := 83) (by omega) 30
  have a12 := a11.alk 12 5 (a := 83) (by omega) 31
  have a13 := a12.alk 13 6 (a := 83) (by omega) 32
  have i84 : up2 (up2 I (z + 83) 8 (-1)) (z + 83) 9 (-1) (z + 84) = fun _ => 0 := a4.2.2.2.1 (z + 84 + 3) (by omega) |> fun _ => by rw [up2_ne (by omega), up2_ne (by omega)]; exact q.2.2.2.1 _ (by omega)
  rw [bk_nw q]
  unfold f_X11_init
  refine Eq.trans (al_st (m := 2720) q1 rfl) ?_
  refine Eq.trans (al_st (m := 2800) a1 rfl) ?_
  refine Eq.trans (al_st (m := 300) a2 rfl) ?_
  refine Eq.trans sI_st ?_
  refine Eq.trans sI_st ?_
  refine Eq.trans (al_st (m := 160) a4 rfl) ?_
  refine Eq.trans (al_st (m := 12) a5 rfl) ?_
  refine Eq.trans (al_st (m := 330) a6 rfl) ?_
  refine Eq.trans (al_st (m := 330) a7 rfl) ?_
  refine Eq.trans (al_st (m := 24) a8 rfl) ?_
  refine Eq.trans (al_st (m := 24) a9 rfl) ?_
  refine Eq.trans (al_st (m := 48) a10 rfl) ?_
  refine Eq.trans (al_st (m := 5) a11 rfl) ?_
  refine Eq.trans (al_st (m := 6) a12 rfl) ?_
  refine Eq.trans (al_st (m := 41) a13 rfl) ?_
  have eb : ∀ (Ix : Nat → Nat → Int32) (Jx : Nat → Nat → Int64), bk z kR9 (nR9 C) rR9 Ix Jx = mk z C Ix Jx 0 none := fun _ _ => bk_mk
  obtain ⟨Ix, hIx⟩ : ∃ Ix, Ix = up2 (up2 I (z + 83) 8 (-1)) (z + 83) 9 (-1) := ⟨_, rfl⟩
  have fin : ∀ S, S = mk z C Ix J 0 none → (if (3 : Int32) ≤ w then (if w ≤ (8 : Int32) then rI1 n z h w S else rI1 n z h (8 : Int32) S) else rI1 n z h (3 : Int32) S) = some (mk z C (upr (up2 (up2 (up2 Ix (z + 83) 1 (nI W)) (z + 83) 2 (nI H)) (z + 83) 3 (nI (W * H))) (z + 84) (cpR (gW9 (fun _ => 0)) 0 1 340)) J 0 none) := fun S hS => by
    have e1 : (if (3 : Int32) ≤ w then (if w ≤ (8 : Int32) then rI1 n z h w S else rI1 n z h (8 : Int32) S) else rI1 n z h (3 : Int32) S) = rI1 n z h (nI W) S := by
      rcases hw with ⟨b1, b2, b3⟩ | ⟨b1, b2, b3⟩ | ⟨b1, b3⟩
      · rw [if_pos (show (3 : Int32) ≤ w from b1), if_pos (show w ≤ (8 : Int32) from b2), ← b3]
      · rw [if_pos (show (3 : Int32) ≤ w from b1), if_neg (show ¬ w ≤ (8 : Int32) from b2), ← b3]; rfl
      · rw [if_neg (show ¬ (3 : Int32) ≤ w from b1), ← b3]; rfl
    have e2 : ∀ S', (if (3 : Int32) ≤ h then (if h ≤ (6 : Int32) then rI2 n z h S' else rI2 n z (6 : Int32) S') else rI2 n z (3 : Int32) S') = rI2 n z (nI H) S' := fun S' => by
      rcases hh with ⟨b1, b2, b3⟩ | ⟨b1, b2, b3⟩ | ⟨b1, b3⟩
      · rw [if_pos (show (3 : Int32) ≤ h from b1), if_pos (show h ≤ (6 : Int32) from b2), ← b3]
      · rw [if_pos (show (3 : Int32) ≤ h from b1), if_neg (show ¬ h ≤ (6 : Int32) from b2), ← b3]; rfl
      · rw [if_neg (show ¬ (3 : Int32) ≤ h from b1), ← b3]; rfl
    rw [e1, hS]
    unfold rI1
    simp only [bd]
    rw [sI_mk, e2, rI2_ok hn (W := W) up2_v, up2_ne (by omega), hIx, i84]
  rw [← hIx] at *
  exact fin _ (eb Ix J)
end OI
