/-! THE SKELETON: where everything lies behind the two constructors; z the first address, C the number of cells of the plain, t how many texts are made, u the reader's text -/
def tK : List Nat := [10, 8, 12, 12, 12, 12, 12, 12, 8, 12, 12, 12, 12, 12, 12, 6, 12, 4, 0, 12, 12, 12, 16, 5, 12, 12, 9, 12, 12, 12, 1, 13, 3, 12, 12, 12, 12, 12, 12, 3, 12, 12, 12, 12, 12, 12, 2, 15, 3, 12, 12, 12, 12, 12, 12, 3, 12, 12, 12, 12, 12, 12, 3, 12, 12, 12, 12, 12, 12, 3, 12, 12, 12, 12, 12, 12, 3, 12, 12, 12, 12, 12, 12, 11, 12, 12, 12, 12, 12, 13, 14, 12, 14, 12, 12, 13, 14]
def tN (C : Nat) : List Nat := [0, 0, 6, 6, 6, 6, 40, 24, 0, 6, 6, 6, 6, 40, 24, 0, 300, 0, 0, 301, 301, 301, 4, 0, 12, 64, 0, 24, 26, 24, 0, C, 0, 24, 24, 24, 6, 6, C, 0, 24, 24, 24, 6, 6, C, 0, 5, 0, 24, 24, 24, 6, 6, C, 0, 24, 24, 24, 6, 6, C, 0, 24, 24, 24, 6, 6, C, 0, 24, 24, 24, 6, 6, C, 0, 24, 24, 24, 6, 6, C, 0, 2720, 2800, 300, 160, 12, 330, 330, 24, 24, 48, 5, 6, 41]
def tR : List (List (Option Nat)) := [[some 30, some 32, some 39, some 1, some 8, some 15, some 17, some 22, some 23, some 26, some 46], [some 2, some 3, some 4, some 5, some 6, some 7], [], [], [], [], [], [], [some 9, some 10, some 11, some 12, some 13, some 14], [], [], [], [], [], [], [some 16], [], [none, none, some 18], [some 19, some 20, some 21], [], [], [], [], [some 24, some 25], [], [], [some 1, some 22, some 23, some 27, some 28, some 29], [], [], [], [none, none, none, none, none, some 31], [], [some 30, some 33, some 34, some 35, some 36, some 37, some 38], [], [], [], [], [], [], [some 30, some 40, some 41, some 42, some 43, some 44, some 45], [], [], [], [], [], [], [none, none, none, some 32, some 1, some 26, some 47], [some 48, some 55, some 62, some 69, some 76], [some 30, some 49, some 50, some 51, some 52, some 53, some 54], [], [], [], [], [], [], [some 30, some 56, some 57, some 58, some 59, some 60, some 61], [], [], [], [], [], [], [some 30, some 63, some 64, some 65, some 66, some 67, some 68], [], [], [], [], [], [], [some 30, some 70, some 71, some 72, some 73, some 74, some 75], [], [], [], [], [], [], [some 30, some 77, some 78, some 79, some 80, some 81, some 82], [], [], [], [], [], [], [some 84, none, none, none, none, some 85, some 86, none, none, none, none, none, none, none, none, none, none, none, none, some 87, none, none, none, none, none, some 88, some 89, some 90, some 91, some 92, some 93, some 94, some 95, none, none, some 96], [], [], [], [], [], [], [], [], [], [], [], [], []]
def kO (t o : Nat) : Nat := if o < 97 then tK.getD o 0 else if o < 97 + 6 * t then (if (o - 97) % 6 = 0 then 7 else 12) else 0
def nO (C t o : Nat) : Nat := if o < 97 then (tN C).getD o 0 else if o < 97 + 6 * t then [0, 20, 20, 20, 20, 300].getD ((o - 97) % 6) 0 else 0
def rO (t : Nat) (u : Option Nat) (o k : Nat) : Option Nat := if o = 22 then (if k < t then some (97 + 6 * k) else none) else if o = 17 ∧ k = 3 then u else if o < 97 then (tR.getD o []).getD k none else if o < 97 + 6 * t ∧ (o - 97) % 6 = 0 ∧ k < 5 then some (o + 1 + k) else none
def skL (z t : Nat) : List Nat := (List.range (97 + 6 * t)).map (fun o => z + o)
def mk (z C : Nat) (I : Nat → Nat → Int32) (J : Nat → Nat → Int64) (t : Nat) (u : Option Nat) : MS := (skL z t, fun a => if a < z then 0 else kO t (a - z), fun a => if a < z then 0 else nO C t (a - z), I, J, fun a k => if a < z then none else (rO t u (a - z) k).map (fun o => z + o))

section SK
variable {z C t : Nat} {I : Nat → Nat → Int32} {J : Nat → Nat → Int64} {u : Option Nat} {α β : Type}
theorem mI_mk (a k : Nat) : mI (mk z C I J t u) a k = I a k := rfl
theorem mJ_mk (a k : Nat) : mJ (mk z C I J t u) a k = J a k := rfl
theorem mIr_mk : mI (mk z C I J t u) = I := rfl
theorem mJr_mk : mJ (mk z C I J t u) = J := rfl
theorem sI_mk (a k : Nat) (v : Int32) : sI (mk z C I J t u) a k v = mk z C (up2 I a k v) J t u := rfl
theorem sJ_mk (a k : Nat) (v : Int64) : sJ (mk z C I J t u) a k v = mk z C I (up2 J a k v) t u := rfl
theorem rI_mk (a : Nat) (g : Nat → Int32) : rI (mk z C I J t u) a g = mk z C (upr I a g) J t u := rfl
theorem mN_mk (o : Nat) : mN (mk z C I J t u) (z + o) = nO C t o := by
  show (if z + o < z then 0 else nO C t (z + o - z)) = _
  rw [if_neg (by omega), Nat.add_sub_cancel_left]
theorem mK_mk (o : Nat) : mK (mk z C I J t u) (z + o) = kO t o := by
  show (if z + o < z then 0 else kO t (z + o - z)) = _
  rw [if_neg (by omega), Nat.add_sub_cancel_left]
theorem mR_mk (o k : Nat) : mR (mk z C I J t u) (z + o) k = (rO t u o k).map (fun o => z + o) := by
  show (if z + o < z then none else (rO t u (z + o - z) k).map (fun o => z + o)) = _
  rw [if_neg (by omega), Nat.add_sub_cancel_left]
theorem mL_mk {o : Nat} (h : o < 97 + 6 * t) : z + o ∈ mL (mk z C I J t u) := List.mem_map.mpr ⟨o, List.mem_range.mpr h, rfl⟩
theorem gR_some {S : MS} {ob : Option Nat} {c q : Nat} {F : Nat → Option α} (h : ob = some q) (h1 : q ∈ mL S) (h2 : mK S q = c) : gR S ob c F = F q := by
  subst h
  show (if q ∈ mL S ∧ mK S q = c then F q else none) = _
  rw [if_pos ⟨h1, h2⟩]
/-- a reference of the skeleton -/
theorem gR_mk {o k r c : Nat} {F : Nat → Option α} (hr : rO t u o k = some r) (hl : r < 97 + 6 * t) (hk : kO t r = c) : gR (mk z C I J t u) (mR (mk z C I J t u) (z + o) k) c F = F (z + r) :=
  gR_some (by rw [mR_mk, hr]; rfl) (mL_mk hl) (by rw [mK_mk, hk])

theorem g0_0 {F : Nat → Option α} : gR (mk z C I J t u) (mR (mk z C I J t u) (z + 0) 0) 1 F = F (z + 30) := gR_mk rfl (by omega) rfl
theorem g0_1 {F : Nat → Option α} : gR (mk z C I J t u) (mR (mk z C I J t u) (z + 0) 1) 3 F = F (z + 32) := gR_mk rfl (by omega) rfl
theorem g0_2 {F : Nat → Option α} : gR (mk z C I J t u) (mR (mk z C I J t u) (z + 0) 2) 3 F = F (z + 39) := gR_mk rfl (by omega) rfl
theorem g0_3 {F : Nat → Option α} : gR (mk z C I J t u) (mR (mk z C I J t u) (z + 0) 3) 8 F = F (z + 1) := gR_mk rfl (by omega) rfl
theorem g0_4 {F : Nat → Option α} : gR (mk z C I J t u) (mR (mk z C I J t u) (z + 0) 4) 8 F = F (z + 8) := gR_mk rfl (by omega) rfl
theorem g0_5 {F : Nat → Option α} : gR (mk z C I J t u) (mR (mk z C I J t u) (z + 0) 5) 6 F = F (z + 15) := gR_mk rfl (by omega) rfl
theorem g0_6 {F : Nat → Option α} : gR (mk z C I J t u) (mR (mk z C I J t u) (z + 0) 6) 4 F = F (z + 17) := gR_mk rfl (by omega) rfl
theorem g0_7 {F : Nat → Option α} : gR (mk z C I J t u) (mR (mk z C I J t u) (z + 0) 7) 16 F = F (z + 22) := gR_mk rfl (by omega) rfl
theorem g0_8 {F : Nat → Option α} : gR (mk z C I J t u) (mR (mk z C I J t u) (z + 0) 8) 5 F = F (z + 23) := gR_mk rfl (by omega) rfl
theorem g0_9 {F : Nat → Option α} : gR (mk z C I J t u) (mR (mk z C I J t u) (z + 0) 9) 9 F = F (z + 26) := gR_mk rfl (by omega) rfl
theorem g0_10 {F : Nat → Option α} : gR (mk z C I J t u) (mR (mk z C I J t u) (z + 0) 10) 2 F = F (z + 46) := gR_mk rfl (by omega) rfl
theorem g1_0 {F : Nat → Option α} : gR (mk z C I J t u) (mR (mk z C I J t u) (z + 1) 0) 12 F = F (z + 2) := gR_mk rfl (by omega) rfl
theorem g1_1 {F : Nat → Option α} : gR (mk z C I J t u) (mR (mk z C I J t u) (z + 1) 1) 12 F = F (z + 3) := gR_mk rfl (by omega) rfl
theorem g1_2 {F : Nat → Option α} : gR (mk z C I J t u) (mR (mk z C I J t u) (z + 1) 2) 12 F = F (z + 4) := gR_mk rfl (by omega) rfl
theorem g1_3 {F : Nat → Option α} : gR (mk z C I J t u) (mR (mk z C I J t u) (z + 1) 3) 12 F = F (z + 5) := gR_mk rfl (by omega) rfl
theorem g1_4 {F : Nat → Option α} : gR (mk z C I J t u) (mR (mk z C I J t u) (z + 1) 4) 12 F = F (z + 6) := gR_mk rfl (by omega) rfl
theorem g1_5 {F : Nat → Option α} : gR (mk z C I J t u) (mR (mk z C I J t u) (z + 1) 5) 12 F = F (z + 7) := gR_mk rfl (by omega) rfl
theorem g8_0 {F : Nat → Option α} : gR (mk z C I J t u) (mR (mk z C I J t u) (z + 8) 0) 12 F = F (z + 9) := gR_mk rfl (by omega) rfl
theorem g8_1 {F : Nat → Option α} : gR (mk z C I J t u) (mR (mk z C I J t u) (z + 8) 1) 12 F = F (z + 10) := gR_mk rfl (by omega) rfl
theorem g8_2 {F : Nat → Option α} : gR (mk z C I J t u) (mR (mk z C I J t u) (z + 8) 2) 12 F = F (z + 11) := gR_mk rfl (by omega) rfl
theorem g8_3 {F : Nat → Option α} : gR (mk z C I J t u) (mR (mk z C I J t u) (z + 8) 3) 12 F = F (z + 12) := gR_mk rfl (by omega) rfl
theorem g8_4 {F : Nat → Option α} : gR (mk z C I J t u) (mR (mk z C I J t u) (z + 8) 4) 12 F = F (z + 13) := gR_mk rfl (by omega) rfl
theorem g8_5 {F : Nat → Option α} : gR (mk z C I J t u) (mR (mk z C I J t u) (z + 8) 5) 12 F = F (z + 14) := gR_mk rfl (by omega) rfl
theorem g15_0 {F : Nat → Option α} : gR (mk z C I J t u) (mR (mk z C I J t u) (z + 15) 0) 12 F = F (z + 16) := gR_mk rfl (by omega) rfl
theorem g17_2 {F : Nat → Option α} : gR (mk z C I J t u) (mR (mk z C I J t u) (z + 17) 2) 0 F = F (z + 18) := gR_mk rfl (by omega) rfl
theorem g18_0 {F : Nat → Option α} : gR (mk z C I J t u) (mR (mk z C I J t u) (z + 18) 0) 12 F = F (z + 19) := gR_mk rfl (by omega) rfl
theorem g18_1 {F : Nat → Option α} : gR (mk z C I J t u) (mR (mk z C I J t u) (z + 18) 1) 12 F = F (z + 20) := gR_mk rfl (by omega) rfl
theorem g18_2 {F : Nat → Option α} : gR (mk z C I J t u) (mR (mk z C I J t u) (z + 18) 2) 12 F = F (z + 21) := gR_mk rfl (by omega) rfl
theorem g23_0 {F : Nat → Option α} : gR (mk z C I J t u) (mR (mk z C I J t u) (z + 23) 0) 12 F = F (z + 24) := gR_mk rfl (by omega) rfl
theorem g23_1 {F : Nat → Option α} : gR (mk z C I J t u) (mR (mk z C I J t u) (z + 23) 1) 12 F = F (z + 25) := gR_mk rfl (by omega) rfl
theorem g26_0 {F : Nat → Option α} : gR (mk z C I J t u) (mR (mk z C I J t u) (z + 26) 0) 8 F = F (z + 1) := gR_mk rfl (by omega) rfl
theorem g26_1 {F : Nat → Option α} : gR (mk z C I J t u) (mR (mk z C I J t u) (z + 26) 1) 16 F = F (z + 22) := gR_mk rfl (by omega) rfl
theorem g26_2 {F : Nat → Option α} : gR (mk z C I J t u) (mR (mk z C I J t u) (z + 26) 2) 5 F = F (z + 23) := gR_mk rfl (by omega) rfl
theorem g26_3 {F : Nat → Option α} : gR (mk z C I J t u) (mR (mk z C I J t u) (z + 26) 3) 12 F = F (z + 27) := gR_mk rfl (by omega) rfl
theorem g26_4 {F : Nat → Option α} : gR (mk z C I J t u) (mR (mk z C I J t u) (z + 26) 4) 12 F = F (z + 28) := gR_mk rfl (by omega) rfl
theorem g26_5 {F : Nat → Option α} : gR (mk z C I J t u) (mR (mk z C I J t u) (z + 26) 5) 12 F = F (z + 29) := gR_mk rfl (by omega) rfl
theorem g30_5 {F : Nat → Option α} : gR (mk z C I J t u) (mR (mk z C I J t u) (z + 30) 5) 13 F = F (z + 31) := gR_mk rfl (by omega) rfl
theorem g46_3 {F : Nat → Option α} : gR (mk z C I J t u) (mR (mk z C I J t u) (z + 46) 3) 3 F = F (z + 32) := gR_mk rfl (by omega) rfl
theorem g46_4 {F : Nat → Option α} : gR (mk z C I J t u) (mR (mk z C I J t u) (z + 46) 4) 8 F = F (z + 1) := gR_mk rfl (by omega) rfl
theorem g46_5 {F : Nat → Option α} : gR (mk z C I J t u) (mR (mk z C I J t u) (z + 46) 5) 9 F = F (z + 26) := gR_mk rfl (by omega) rfl
theorem g46_6 {F : Nat → Option α} : gR (mk z C I J t u) (mR (mk z C I J t u) (z + 46) 6) 15 F = F (z + 47) := gR_mk rfl (by omega) rfl
theorem g83_0 {F : Nat → Option α} : gR (mk z C I J t u) (mR (mk z C I J t u) (z + 83) 0) 12 F = F (z + 84) := gR_mk rfl (by omega) rfl
theorem g83_5 {F : Nat → Option α} : gR (mk z C I J t u) (mR (mk z C I J t u) (z + 83) 5) 12 F = F (z + 85) := gR_mk rfl (by omega) rfl
theorem g83_6 {F : Nat → Option α} : gR (mk z C I J t u) (mR (mk z C I J t u) (z + 83) 6) 12 F = F (z + 86) := gR_mk rfl (by omega) rfl
theorem g83_19 {F : Nat → Option α} : gR (mk z C I J t u) (mR (mk z C I J t u) (z + 83) 19) 12 F = F (z + 87) := gR_mk rfl (by omega) rfl
theorem g83_25 {F : Nat → Option α} : gR (mk z C I J t u) (mR (mk z C I J t u) (z + 83) 25) 12 F = F (z + 88) := gR_mk rfl (by omega) rfl
theorem g83_26 {F : Nat → Option α} : gR (mk z C I J t u) (mR (mk z C I J t u) (z + 83) 26) 13 F = F (z + 89) := gR_mk rfl (by omega) rfl
theorem g83_27 {F : Nat → Option α} : gR (mk z C I J t u) (mR (mk z C I J t u) (z + 83) 27) 14 F = F (z + 90) := gR_mk rfl (by omega) rfl
theorem g83_28 {F : Nat → Option α} : gR (mk z C I J t u) (mR (mk z C I J t u) (z + 83) 28) 12 F = F (z + 91) := gR_mk rfl (by omega) rfl
theorem g83_29 {F : Nat → Option α} : gR (mk z C I J t u) (mR (mk z C I J t u) (z + 83) 29) 14 F = F (z + 92) := gR_mk rfl (by omega) rfl
theorem g83_30 {F : Nat → Option α} : gR (mk z C I J t u) (mR (mk z C I J t u) (z + 83) 30) 12 F = F (z + 93) := gR_mk rfl (by omega) rfl
theorem g83_31 {F : Nat → Option α} : gR (mk z C I J t u) (mR (mk z C I J t u) (z + 83) 31) 12 F = F (z + 94) := gR_mk rfl (by omega) rfl
theorem g83_32 {F : Nat → Option α} : gR (mk z C I J t u) (mR (mk z C I J t u) (z + 83) 32) 13 F = F (z + 95) := gR_mk rfl (by omega) rfl
theorem g83_35 {F : Nat → Option α} : gR (mk z C I J t u) (mR (mk z C I J t u) (z + 83) 35) 14 F = F (z + 96) := gR_mk rfl (by omega) rfl
theorem g0_0z {F : Nat → Option α} (k r c : Nat) (hr : rO t u 0 k = some r) (hl : r < 97 + 6 * t) (hk : kO t r = c) : gR (mk z C I J t u) (mR (mk z C I J t u) z k) c F = F (z + r) := gR_mk (o := 0) hr hl hk
theorem g0z_0 {F : Nat → Option α} : gR (mk z C I J t u) (mR (mk z C I J t u) z 0) 1 F = F (z + 30) := g0_0z 0 30 1 rfl (by omega) rfl
theorem g0z_1 {F : Nat → Option α} : gR (mk z C I J t u) (mR (mk z C I J t u) z 1) 3 F = F (z + 32) := g0_0z 1 32 3 rfl (by omega) rfl
theorem g0z_2 {F : Nat → Option α} : gR (mk z C I J t u) (mR (mk z C I J t u) z 2) 3 F = F (z + 39) := g0_0z 2 39 3 rfl (by omega) rfl
theorem g0z_3 {F : Nat → Option α} : gR (mk z C I J t u) (mR (mk z C I J t u) z 3) 8 F = F (z + 1) := g0_0z 3 1 8 rfl (by omega) rfl
theorem g0z_4 {F : Nat → Option α} : gR (mk z C I J t u) (mR (mk z C I J t u) z 4) 8 F = F (z + 8) := g0_0z 4 8 8 rfl (by omega) rfl
theorem g0z_5 {F : Nat → Option α} : gR (mk z C I J t u) (mR (mk z C I J t u) z 5) 6 F = F (z + 15) := g0_0z 5 15 6 rfl (by omega) rfl
theorem g0z_6 {F : Nat → Option α} : gR (mk z C I J t u) (mR (mk z C I J t u) z 6) 4 F = F (z + 17) := g0_0z 6 17 4 rfl (by omega) rfl
theorem g0z_7 {F : Nat → Option α} : gR (mk z C I J t u) (mR (mk z C I J t u) z 7) 16 F = F (z + 22) := g0_0z 7 22 16 rfl (by omega) rfl
theorem g0z_8 {F : Nat → Option α} : gR (mk z C I J t u) (mR (mk z C I J t u) z 8) 5 F = F (z + 23) := g0_0z 8 23 5 rfl (by omega) rfl
theorem g0z_9 {F : Nat → Option α} : gR (mk z C I J t u) (mR (mk z C I J t u) z 9) 9 F = F (z + 26) := g0_0z 9 26 9 rfl (by omega) rfl
theorem g0z_10 {F : Nat → Option α} : gR (mk z C I J t u) (mR (mk z C I J t u) z 10) 2 F = F (z + 46) := g0_0z 10 46 2 rfl (by omega) rfl
/-- the plains: their first cells -/
def isP (o : Nat) : Prop := o = 32 ∨ o = 39 ∨ o = 48 ∨ o = 55 ∨ o = 62 ∨ o = 69 ∨ o = 76
theorem gP_0 {o : Nat} (h : isP o) {F : Nat → Option α} : gR (mk z C I J t u) (mR (mk z C I J t u) (z + o) 0) 1 F = F (z + 30) := by
  rcases h with rfl | rfl | rfl | rfl | rfl | rfl | rfl <;> exact gR_mk rfl (by omega) rfl
theorem gP_1 {o : Nat} (h : isP o) {F : Nat → Option α} : gR (mk z C I J t u) (mR (mk z C I J t u) (z + o) 1) 12 F = F (z + (o + 1)) := by
  rcases h with rfl | rfl | rfl | rfl | rfl | rfl | rfl <;> exact gR_mk rfl (by omega) rfl
theorem nP_1 {o : Nat} (h : isP o) : mN (mk z C I J t u) (z + (o + 1)) = 24 := by
  rcases h with rfl | rfl | rfl | rfl | rfl | rfl | rfl <;> exact mN_mk _
theorem gP_2 {o : Nat} (h : isP o) {F : Nat → Option α} : gR (mk z C I J t u) (mR (mk z C I J t u) (z + o) 2) 12 F = F (z + (o + 2)) := by
  rcases h with rfl | rfl | rfl | rfl | rfl | rfl | rfl <;> exact gR_mk rfl (by omega) rfl
theorem nP_2 {o : Nat} (h : isP o) : mN (mk z C I J t u) (z + (o + 2)) = 24 := by
  rcases h with rfl | rfl | rfl | rfl | rfl | rfl | rfl <;> exact mN_mk _
theorem gP_3 {o : Nat} (h : isP o) {F : Nat → Option α} : gR (mk z C I J t u) (mR (mk z C I J t u) (z + o) 3) 12 F = F (z + (o + 3)) := by
  rcases h with rfl | rfl | rfl | rfl | rfl | rfl | rfl <;> exact gR_mk rfl (by omega) rfl
theorem nP_3 {o : Nat} (h : isP o) : mN (mk z C I J t u) (z + (o + 3)) = 24 := by
  rcases h with rfl | rfl | rfl | rfl | rfl | rfl | rfl <;> exact mN_mk _
theorem gP_4 {o : Nat} (h : isP o) {F : Nat → Option α} : gR (mk z C I J t u) (mR (mk z C I J t u) (z + o) 4) 12 F = F (z + (o + 4)) := by
  rcases h with rfl | rfl | rfl | rfl | rfl | rfl | rfl <;> exact gR_mk rfl (by omega) rfl
theorem nP_4 {o : Nat} (h : isP o) : mN (mk z C I J t u) (z + (o + 4)) = 6 := by
  rcases h with rfl | rfl | rfl | rfl | rfl | rfl | rfl <;> exact mN_mk _
theorem gP_5 {o : Nat} (h : isP o) {F : Nat → Option α} : gR (mk z C I J t u) (mR (mk z C I J t u) (z + o) 5) 12 F = F (z + (o + 5)) := by
  rcases h with rfl | rfl | rfl | rfl | rfl | rfl | rfl <;> exact gR_mk rfl (by omega) rfl
theorem nP_5 {o : Nat} (h : isP o) : mN (mk z C I J t u) (z + (o + 5)) = 6 := by
  rcases h with rfl | rfl | rfl | rfl | rfl | rfl | rfl <;> exact mN_mk _
theorem gP_6 {o : Nat} (h : isP o) {F : Nat → Option α} : gR (mk z C I J t u) (mR (mk z C I J t u) (z + o) 6) 12 F = F (z + (o + 6)) := by
  rcases h with rfl | rfl | rfl | rfl | rfl | rfl | rfl <;> exact gR_mk rfl (by omega) rfl
theorem nP_6 {o : Nat} (h : isP o) : mN (mk z C I J t u) (z + (o + 6)) = C := by
  rcases h with rfl | rfl | rfl | rfl | rfl | rfl | rfl <;> exact mN_mk _
theorem n2 : mN (mk z C I J t u) (z + 2) = 6 := mN_mk 2
theorem n3 : mN (mk z C I J t u) (z + 3) = 6 := mN_mk 3
theorem n4 : mN (mk z C I J t u) (z + 4) = 6 := mN_mk 4
theorem n5 : mN (mk z C I J t u) (z + 5) = 6 := mN_mk 5
theorem n6 : mN (mk z C I J t u) (z + 6) = 40 := mN_mk 6
theorem n7 : mN (mk z C I J t u) (z + 7) = 24 := mN_mk 7
theorem n9 : mN (mk z C I J t u) (z + 9) = 6 := mN_mk 9
theorem n10 : mN (mk z C I J t u) (z + 10) = 6 := mN_mk 10
theorem n11 : mN (mk z C I J t u) (z + 11) = 6 := mN_mk 11
theorem n12 : mN (mk z C I J t u) (z + 12) = 6 := mN_mk 12
theorem n13 : mN (mk z C I J t u) (z + 13) = 40 := mN_mk 13
theorem n14 : mN (mk z C I J t u) (z + 14) = 24 := mN_mk 14
theorem n16 : mN (mk z C I J t u) (z + 16) = 300 := mN_mk 16
theorem n19 : mN (mk z C I J t u) (z + 19) = 301 := mN_mk 19
theorem n20 : mN (mk z C I J t u) (z + 20) = 301 := mN_mk 20
theorem n21 : mN (mk z C I J t u) (z + 21) = 301 := mN_mk 21
theorem n22 : mN (mk z C I J t u) (z + 22) = 4 := mN_mk 22
theorem n24 : mN (mk z C I J t u) (z + 24) = 12 := mN_mk 24
theorem n25 : mN (mk z C I J t u) (z + 25) = 64 := mN_mk 25
theorem n27 : mN (mk z C I J t u) (z + 27) = 24 := mN_mk 27
theorem n28 : mN (mk z C I J t u) (z + 28) = 26 := mN_mk 28
theorem n29 : mN (mk z C I J t u) (z + 29) = 24 := mN_mk 29
theorem n31 : mN (mk z C I J t u) (z + 31) = C := mN_mk 31
theorem n47 : mN (mk z C I J t u) (z + 47) = 5 := mN_mk 47
theorem n84 : mN (mk z C I J t u) (z + 84) = 2720 := mN_mk 84
theorem n85 : mN (mk z C I J t u) (z + 85) = 2800 := mN_mk 85
theorem n86 : mN (mk z C I J t u) (z + 86) = 300 := mN_mk 86
theorem n87 : mN (mk z C I J t u) (z + 87) = 160 := mN_mk 87
theorem n88 : mN (mk z C I J t u) (z + 88) = 12 := mN_mk 88
theorem n89 : mN (mk z C I J t u) (z + 89) = 330 := mN_mk 89
theorem n90 : mN (mk z C I J t u) (z + 90) = 330 := mN_mk 90
theorem n91 : mN (mk z C I J t u) (z + 91) = 24 := mN_mk 91
theorem n92 : mN (mk z C I J t u) (z + 92) = 24 := mN_mk 92
theorem n93 : mN (mk z C I J t u) (z + 93) = 48 := mN_mk 93
theorem n94 : mN (mk z C I J t u) (z + 94) = 5 := mN_mk 94
theorem n95 : mN (mk z C I J t u) (z + 95) = 6 := mN_mk 95
theorem n96 : mN (mk z C I J t u) (z + 96) = 41 := mN_mk 96
theorem gTried {i : Int32} (h : i = 0 ∨ i = 1 ∨ i = 2 ∨ i = 3 ∨ i = 4) {F : Nat → Option α} : gR (mk z C I J t u) (mR (mk z C I J t u) (z + 47) i.toNatClampNeg) 3 F = F (z + (48 + 7 * i.toNatClampNeg)) := by
  rcases h with rfl | rfl | rfl | rfl | rfl <;> exact gR_mk rfl (Nat.lt_of_lt_of_le (by decide) (Nat.le_add_right 97 _)) rfl
end SK
