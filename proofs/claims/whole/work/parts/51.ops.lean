/-! PURE OUT OF THE OPERATIONS: if both systems begin alike and each call keeps them alike and answers the same, the law answers 1 -/
theorem cl_some {α β : Type} (r : α) (S : MS) (k : α → MS → Option β) : cl (some (r, S)) k = k r S := rfl
theorem cv_some {β : Type} (S : MS) (k : MS → Option β) : cv (some S) k = k S := rfl
theorem ck_t {α : Type} {b : Bool} {t : Option α} (h : b = true) : ck b t = t := by rw [ck, if_pos h]
/-- bone: both answer the same and stay alike -/
def Op_bone (z : Nat) (Rel : MS → Prop) : Prop := ∀ (n : Nat), 100000 ≤ n → ∀ (S : MS) (a1 : Int32) (a2 : Int32), Rel S → ∃ (r : Int32) (S1 S2 : MS), f_X10_bone n z a1 a2 S = some (r, S1) ∧ f_X11_bone n (z + 83) a1 a2 S1 = some (r, S2) ∧ Rel S2
/-- stake: both answer the same and stay alike -/
def Op_stake (z : Nat) (Rel : MS → Prop) : Prop := ∀ (n : Nat), 100000 ≤ n → ∀ (S : MS) (a1 : Int32) (a2 : Int32), Rel S → ∃ (r : Int32) (S1 S2 : MS), f_X10_stake n z a1 a2 S = some (r, S1) ∧ f_X11_stake n (z + 83) a1 a2 S1 = some (r, S2) ∧ Rel S2
/-- well: both answer the same and stay alike -/
def Op_well (z : Nat) (Rel : MS → Prop) : Prop := ∀ (n : Nat), 100000 ≤ n → ∀ (S : MS) (a1 : Int32) (a2 : Int32), Rel S → a2 = 0 ∨ a2 = 1 → ∃ (r : Int32) (S1 S2 : MS), f_X10_well n z a1 a2 S = some (r, S1) ∧ f_X11_well n (z + 83) a1 a2 S1 = some (r, S2) ∧ Rel S2
/-- wind: both answer the same and stay alike -/
def Op_wind (z : Nat) (Rel : MS → Prop) : Prop := ∀ (n : Nat), 100000 ≤ n → ∀ (S : MS) (a1 : Int32) (a2 : Int32) (a3 : Int32) (a4 : Int32), Rel S → ∃ (r : Int32) (S1 S2 : MS), f_X10_wind n z a1 a2 a3 a4 S = some (r, S1) ∧ f_X11_wind n (z + 83) a1 a2 a3 a4 S1 = some (r, S2) ∧ Rel S2
/-- plan: both answer the same and stay alike -/
def Op_plan (z : Nat) (Rel : MS → Prop) : Prop := ∀ (n : Nat), 100000 ≤ n → ∀ (S : MS) (a1 : Int32) (a2 : Int32), Rel S → ∃ (r : Int32) (S1 S2 : MS), f_X10_plan n z a1 a2 S = some (r, S1) ∧ f_X11_plan n (z + 83) a1 a2 S1 = some (r, S2) ∧ Rel S2
/-- feed: both answer the same and stay alike -/
def Op_feed (z : Nat) (Rel : MS → Prop) : Prop := ∀ (n : Nat), 100000 ≤ n → ∀ (S : MS) (a1 : Int32) (a2 : Int32) (a3 : Int32) (a4 : Int32) (a5 : Int32), Rel S → ∃ (r : Int32) (S1 S2 : MS), f_X10_feed n z a1 a2 a3 a4 a5 S = some (r, S1) ∧ f_X11_feed n (z + 83) a1 a2 a3 a4 a5 S1 = some (r, S2) ∧ Rel S2
/-- end: both answer the same and stay alike -/
def Op_end (z : Nat) (Rel : MS → Prop) : Prop := ∀ (n : Nat), 100000 ≤ n → ∀ (S : MS) (a1 : Int32), Rel S → ∃ (r : Int32) (S1 S2 : MS), f_X10_end n z a1 S = some (r, S1) ∧ f_X11_end n (z + 83) a1 S1 = some (r, S2) ∧ Rel S2
/-- text: both answer the same and stay alike -/
def Op_text (z : Nat) (Rel : MS → Prop) : Prop := ∀ (n : Nat), 100000 ≤ n → ∀ (S : MS), Rel S → ∃ (r : Int32) (S1 S2 : MS), f_X10_text n z z S = some (r, S1) ∧ f_X11_text n (z + 83) S1 = some (r, S2) ∧ Rel S2
/-- fault: both answer the same and stay alike -/
def Op_fault (z : Nat) (Rel : MS → Prop) : Prop := ∀ (n : Nat), 100000 ≤ n → ∀ (S : MS) (a1 : Int32), Rel S → ∃ (r : Int32) (S1 S2 : MS), f_X10_fault n z a1 S = some (r, S1) ∧ f_X11_fault n (z + 83) a1 S1 = some (r, S2) ∧ Rel S2
/-- by: both answer the same and stay alike -/
def Op_by (z : Nat) (Rel : MS → Prop) : Prop := ∀ (n : Nat), 100000 ≤ n → ∀ (S : MS) (a1 : Int32), Rel S → ∃ (r : Int32) (S1 S2 : MS), f_X10_by n z a1 S = some (r, S1) ∧ f_X11_by n (z + 83) a1 S1 = some (r, S2) ∧ Rel S2
/-- draw: both answer the same and stay alike -/
def Op_draw (z : Nat) (Rel : MS → Prop) : Prop := ∀ (n : Nat), 100000 ≤ n → ∀ (S : MS) (a1 : Int32), Rel S → ∃ (r : Int32) (S1 S2 : MS), f_X10_draw n z a1 S = some (r, S1) ∧ f_X11_draw n (z + 83) a1 S1 = some (r, S2) ∧ Rel S2
/-- of: both answer the same and stay alike -/
def Op_of (z : Nat) (Rel : MS → Prop) : Prop := ∀ (n : Nat), 100000 ≤ n → ∀ (S : MS) (a1 : Int32) (a2 : Int32), Rel S → ∃ (r : Int32) (S1 S2 : MS), f_X10_of n z a1 a2 S = some (r, S1) ∧ f_X11_of n (z + 83) a1 a2 S1 = some (r, S2) ∧ Rel S2
/-- cell: both answer the same and stay alike -/
def Op_cell (z : Nat) (Rel : MS → Prop) : Prop := ∀ (n : Nat), 100000 ≤ n → ∀ (S : MS) (a1 : Int32) (a2 : Int32), Rel S → ∃ (r : Int32) (S1 S2 : MS), f_X10_cell n z a1 a2 S = some (r, S1) ∧ f_X11_cell n (z + 83) a1 a2 S1 = some (r, S2) ∧ Rel S2
/-- farmer: both answer the same and stay alike -/
def Op_farmer (z : Nat) (Rel : MS → Prop) : Prop := ∀ (n : Nat), 100000 ≤ n → ∀ (S : MS) (a1 : Int32) (a2 : Int32), Rel S → ∃ (r : Int32) (S1 S2 : MS), f_X10_farmer n z a1 a2 S = some (r, S1) ∧ f_X11_farmer n (z + 83) a1 a2 S1 = some (r, S2) ∧ Rel S2
/-- hour: both answer the same and stay alike -/
def Op_hour (z : Nat) (Rel : MS → Prop) : Prop := ∀ (n : Nat), 100000 ≤ n → ∀ (S : MS) (a1 : Int32), Rel S → ∃ (r : Int32) (S1 S2 : MS), f_X10_hour n z a1 S = some (r, S1) ∧ f_X11_hour n (z + 83) a1 S1 = some (r, S2) ∧ Rel S2
/-- sow: both answer the same and stay alike -/
def Op_sow (z : Nat) (Rel : MS → Prop) : Prop := ∀ (n : Nat), 100000 ≤ n → ∀ (S : MS) (a1 : Int32) (a2 : Int32), Rel S → ∃ (r : Int32) (S1 S2 : MS), f_X10_sow n z a1 a2 S = some (r, S1) ∧ f_X11_sow n (z + 83) a1 a2 S1 = some (r, S2) ∧ Rel S2
/-- reap: both answer the same and stay alike -/
def Op_reap (z : Nat) (Rel : MS → Prop) : Prop := ∀ (n : Nat), 100000 ≤ n → ∀ (S : MS) (a1 : Int32), Rel S → ∃ (r : Int32) (S1 S2 : MS), f_X10_reap n z a1 S = some (r, S1) ∧ f_X11_reap n (z + 83) a1 S1 = some (r, S2) ∧ Rel S2
/-- night: both answer the same and stay alike -/
def Op_night (z : Nat) (Rel Rel' : MS → Prop) : Prop := ∀ (n : Nat), 100000 ≤ n → ∀ (S : MS) (a1 : Int32) (a2 : Int32) (a3 : Int32), Rel S → ∃ (r : Int32) (S1 S2 : MS), f_X10_night n z a1 a2 a3 S = some (r, S1) ∧ f_X11_night n (z + 83) a1 a2 a3 S1 = some (r, S2) ∧ Rel' S2
/-- odds: both answer the same and stay alike -/
def Op_odds (z : Nat) (Rel : MS → Prop) : Prop := ∀ (n : Nat), 100000 ≤ n → ∀ (S : MS) (a1 : Int32) (a2 : Int32) (a3 : Int32), Rel S → ∃ (r : Int32) (S1 S2 : MS), f_X10_odds n z a1 a2 a3 S = some (r, S1) ∧ f_X11_odds n (z + 83) a1 a2 a3 S1 = some (r, S2) ∧ Rel S2
/-- mean: both answer the same and stay alike -/
def Op_mean (z : Nat) (Rel : MS → Prop) : Prop := ∀ (n : Nat), 100000 ≤ n → ∀ (S : MS) (a1 : Int32) (a2 : Int32), Rel S → ∃ (r : Int32) (S1 S2 : MS), f_X10_mean n z a1 a2 S = some (r, S1) ∧ f_X11_mean n (z + 83) a1 a2 S1 = some (r, S2) ∧ Rel S2
/-- best: both answer the same and stay alike -/
def Op_best (z : Nat) (Rel : MS → Prop) : Prop := ∀ (n : Nat), 100000 ≤ n → ∀ (S : MS) (a1 : Int32) (a2 : Int32) (a3 : Int32), Rel S → ∃ (r : Int32) (S1 S2 : MS), f_X10_best n z a1 a2 a3 S = some (r, S1) ∧ f_X11_best n (z + 83) a1 a2 a3 S1 = some (r, S2) ∧ Rel S2
/-- time: both answer the same and stay alike -/
def Op_time (z : Nat) (Rel : MS → Prop) : Prop := ∀ (n : Nat), 100000 ≤ n → ∀ (S : MS) (a1 : Int32) (a2 : Int32) (a3 : Int32), Rel S → ∃ (r : Int32) (S1 S2 : MS), f_X10_time n z a1 a2 a3 S = some (r, S1) ∧ f_X11_time n (z + 83) a1 a2 a3 S1 = some (r, S2) ∧ Rel S2
/-- keeps: both answer the same and stay alike -/
def Op_keeps (z : Nat) (Rel : MS → Prop) : Prop := ∀ (n : Nat), 100000 ≤ n → ∀ (S : MS) (a1 : Int32) (a2 : Int32) (a3 : Int32) (a4 : Int32), Rel S → ∃ (r : Int32) (S1 S2 : MS), f_X10_keeps n z a1 a2 a3 a4 S = some (r, S1) ∧ f_X11_keeps n (z + 83) a1 a2 a3 a4 S1 = some (r, S2) ∧ Rel S2
/-- calm: both answer the same and stay alike -/
def Op_calm (z : Nat) (Rel : MS → Prop) : Prop := ∀ (n : Nat), 100000 ≤ n → ∀ (S : MS), Rel S → ∃ (r : Int32) (S1 S2 : MS), f_X10_calm n z S = some (r, S1) ∧ f_X11_calm n (z + 83) S1 = some (r, S2) ∧ Rel S2
/-- disputes: both answer the same and stay alike -/
def Op_disputes (z : Nat) (Rel : MS → Prop) : Prop := ∀ (n : Nat), 100000 ≤ n → ∀ (S : MS) (a1 : Int32), Rel S → ∃ (r : Int32) (S1 S2 : MS), f_X10_disputes n z a1 S = some (r, S1) ∧ f_X11_disputes n (z + 83) a1 S1 = some (r, S2) ∧ Rel S2
/-- map: both answer the same and stay alike -/
def Op_map (z : Nat) (Rel : MS → Prop) : Prop := ∀ (n : Nat), 100000 ≤ n → ∀ (S : MS) (a1 : Int32) (a2 : Int32), Rel S → ∃ (r : Int32) (S1 S2 : MS), f_X10_map n z a1 a2 S = some (r, S1) ∧ f_X11_map n (z + 83) a1 a2 S1 = some (r, S2) ∧ Rel S2
/-- made: both answer the same and stay alike -/
def Op_made (z : Nat) (Rel : MS → Prop) : Prop := ∀ (n : Nat), 100000 ≤ n → ∀ (S : MS), Rel S → ∃ (r : Int32) (S1 S2 : MS), f_X10_made n z S = some (r, S1) ∧ f_X11_made n (z + 83) S1 = some (r, S2) ∧ Rel S2
/-- hours: both answer the same and stay alike -/
def Op_hours (z : Nat) (Rel : MS → Prop) : Prop := ∀ (n : Nat), 100000 ≤ n → ∀ (S : MS) (a1 : Int32) (a2 : Int32), Rel S → ∃ (r : Int32) (S1 S2 : MS), f_X10_hours n z a1 a2 S = some (r, S1) ∧ f_X11_hours n (z + 83) a1 a2 S1 = some (r, S2) ∧ Rel S2
/-- image: both answer the same and stay alike -/
def Op_image (z : Nat) (Rel : MS → Prop) : Prop := ∀ (n : Nat), 100000 ≤ n → ∀ (S : MS), Rel S → ∃ (r : Int32) (S1 S2 : MS), f_X10_image n z S = some (r, S1) ∧ f_X11_image n (z + 83) S1 = some (r, S2) ∧ Rel S2
/-- back: both answer the same and stay alike -/
def Op_back (z : Nat) (Rel : MS → Prop) : Prop := ∀ (n : Nat), 100000 ≤ n → ∀ (S : MS), Rel S → ∃ (r : Int32) (S1 S2 : MS), f_X10_back n z S = some (r, S1) ∧ f_X11_back n (z + 83) S1 = some (r, S2) ∧ Rel S2
/-- about: both answer the same and stay alike -/
def Op_about (z : Nat) (Rel : MS → Prop) : Prop := ∀ (n : Nat), 100000 ≤ n → ∀ (S : MS) (a1 : Int32), Rel S → ∃ (r : Int32) (S1 S2 : MS), f_X10_about n z a1 S = some (r, S1) ∧ f_X11_about n (z + 83) a1 S1 = some (r, S2) ∧ Rel S2
def Op_init (z : Nat) (Rel : MS → Prop) : Prop := ∀ (n : Nat), 100000 ≤ n → ∀ (w h : Int32), ∃ (S4 S10 : MS), f_X10_init n z z w h (nw S0 z 10 0) = some S4 ∧ (mL S4).length = 83 ∧ f_X11_init n z (z + 83) w h (nw S4 (z + 83) 11 0) = some S10 ∧ Rel S10
def Op_all (z : Nat) (Rel Rel' : MS → Prop) : Prop := Op_bone z Rel ∧ Op_stake z Rel ∧ Op_well z Rel ∧ Op_wind z Rel ∧ Op_plan z Rel ∧ Op_feed z Rel ∧ Op_end z Rel ∧ Op_text z Rel ∧ Op_fault z Rel ∧ Op_by z Rel ∧ Op_draw z Rel ∧ Op_of z Rel ∧ Op_cell z Rel ∧ Op_farmer z Rel ∧ Op_hour z Rel ∧ Op_sow z Rel ∧ Op_reap z Rel ∧ Op_night z Rel Rel' ∧ Op_odds z Rel ∧ Op_mean z Rel ∧ Op_best z Rel ∧ Op_time z Rel ∧ Op_keeps z Rel ∧ Op_calm z Rel ∧ Op_disputes z Rel ∧ Op_map z Rel ∧ Op_made z Rel ∧ Op_hours z Rel ∧ Op_image z Rel ∧ Op_back z Rel ∧ Op_about z Rel
theorem sc_in {L a : Nat} (h : a < L) (hL : L ≤ 3074) : inb (nI a) L = true := by
  simp only [inb, Bool.and_eq_true, Bool.not_eq_true', decide_eq_false_iff_not, decide_eq_true_eq]
  exact ⟨nI_pos (by omega), by rw [nI_clamp (by omega)]; exact h⟩
theorem nI_pl (a b : Nat) : nI a + nI b = nI (a + b) := (Int32.ofNat_add a b).symm
theorem law_c {L j : Nat} (hL : L ≤ 3074) (hj : 6 * j ≤ 3074) (hc : ¬ Int32.ofNat L - 6 < nI (2 + 6 * j)) : 6 * j + 8 ≤ L := by
  have h1 : (Int32.ofNat L - 6).toInt = (L : Int) - 6 := by
    rw [Int32.toInt_sub, show (Int32.ofNat L).toInt = (L : Int) from nI_toInt (n := L) (by omega), show (6 : Int32).toInt = 6 by decide]
    simp only [Int.bmod]
    omega
  have h2 : (nI (2 + 6 * j)).toInt = ((2 + 6 * j : Nat) : Int) := nI_toInt (by omega)
  have h3 : ¬ (Int32.ofNat L - 6).toInt < (nI (2 + 6 * j)).toInt := fun q => hc (Int32.lt_iff_toInt_lt.mpr q)
  rw [h1, h2] at h3
  omega
set_option maxRecDepth 100000 in
set_option maxHeartbeats 8000000 in
theorem loop_of {z : Nat} {Rel : Nat → MS → Prop} (hm : ∀ j S, Rel j S → Rel (j + 1) S) (hO : ∀ j, j < 600 → Op_all z (Rel j) (Rel (j + 1))) {n L : Nat} (hn : 100000 ≤ n) (hL : L ≤ 3074) (xs : Nat → Int32) : ∀ (k j : Nat) (S : MS), Rel j S → L + 6 ≤ 6 * (j + k) → 6 * j ≤ L → ∃ So, f_L_law_L38 n z (z + 83) z L xs k (nI (2 + 6 * j)) S = some ((1 : Int32), So) := by
  intro k
  induction k with
  | zero => intro j S hR h1 h2; omega
  | succ k ih =>
    intro j S hR h1 h2
    rw [f_L_law_L38]
    simp only [jn, bd]
    by_cases hc : Int32.ofNat L - 6 < nI (2 + 6 * j)
    · rw [if_pos hc]; exact ⟨_, rfl⟩
    rw [if_neg hc]
    have h3 := law_c hL (by omega) hc
    obtain ⟨hbone, hstake, hwell, hwind, hplan, hfeed, hend, htext, hfault, hby, hdraw, hof, hcell, hfarmer, hhour, hsow, hreap, hnight, hodds, hmean, hbest, htime, hkeeps, hcalm, hdisputes, hmap, hmade, hhours, himage, hback, habout⟩ := hO j (by omega)
    have i0 : inb (nI (2 + 6 * j)) L = true := sc_in (by omega) hL
    have i1 : inb (nI (2 + 6 * j) + (1 : Int32)) L = true := by rw [show (1 : Int32) = nI 1 from rfl, nI_pl]; exact sc_in (by omega) hL
    have i2 : inb (nI (2 + 6 * j) + (2 : Int32)) L = true := by rw [show (2 : Int32) = nI 2 from rfl, nI_pl]; exact sc_in (by omega) hL
    have i3 : inb (nI (2 + 6 * j) + (3 : Int32)) L = true := by rw [show (3 : Int32) = nI 3 from rfl, nI_pl]; exact sc_in (by omega) hL
    have i4 : inb (nI (2 + 6 * j) + (4 : Int32)) L = true := by rw [show (4 : Int32) = nI 4 from rfl, nI_pl]; exact sc_in (by omega) hL
    have i5 : inb (nI (2 + 6 * j) + (5 : Int32)) L = true := by rw [show (5 : Int32) = nI 5 from rfl, nI_pl]; exact sc_in (by omega) hL
    have i6 : nI (2 + 6 * j) + (6 : Int32) = nI (2 + 6 * (j + 1)) := by rw [show (6 : Int32) = nI 6 from rfl, nI_pl]; congr 1
    simp only [ck_t i0, ck_t i1, ck_t i2, ck_t i3, ck_t i4, ck_t i5, i6]
    have go' : ∀ S2, Rel (j + 1) S2 → ∃ So, f_L_law_L38 n z (z + 83) z L xs k (nI (2 + 6 * (j + 1))) S2 = some ((1 : Int32), So) := fun S2 h => ih (j + 1) S2 h (by omega) (by omega)
    have go : ∀ S2, Rel j S2 → ∃ So, f_L_law_L38 n z (z + 83) z L xs k (nI (2 + 6 * (j + 1))) S2 = some ((1 : Int32), So) := fun S2 h => go' S2 (hm j S2 h)
    generalize (xs (nI (2 + 6 * j)).toNatClampNeg &&& (31 : Int32)) = v
    by_cases c0 : v = (0 : Int32)
    · rw [if_pos c0]
      obtain ⟨r, S1, S2, e1, e2, hR2⟩ := hbone n hn S (xs (nI (2 + 6 * j) + (1 : Int32)).toNatClampNeg) (xs (nI (2 + 6 * j) + (2 : Int32)).toNatClampNeg) hR
      obtain ⟨So, hSo⟩ := go S2 hR2
      exact ⟨So, by rw [e1, cl_some, e2, cl_some, if_pos rfl]; exact hSo⟩
    rw [if_neg c0]
    by_cases c1 : v = (1 : Int32)
    · rw [if_pos c1]
      obtain ⟨r, S1, S2, e1, e2, hR2⟩ := hstake n hn S (xs (nI (2 + 6 * j) + (1 : Int32)).toNatClampNeg) (xs (nI (2 + 6 * j) + (2 : Int32)).toNatClampNeg) hR
      obtain ⟨So, hSo⟩ := go S2 hR2
      exact ⟨So, by rw [e1, cl_some, e2, cl_some, if_pos rfl]; exact hSo⟩
    rw [if_neg c1]
    by_cases c2 : v = (2 : Int32)
    · rw [if_pos c2]
      by_cases hw : xs (nI (2 + 6 * j) + (2 : Int32)).toNatClampNeg = 0
      · simp only [if_pos hw]
        obtain ⟨r, S1, S2, e1, e2, hR2⟩ := hwell n hn S (xs (nI (2 + 6 * j) + (1 : Int32)).toNatClampNeg) 0 hR (Or.inl rfl)
        obtain ⟨So, hSo⟩ := go S2 hR2
        exact ⟨So, by rw [e1, cl_some, e2, cl_some, if_pos rfl]; exact hSo⟩
      · simp only [if_neg hw]
        obtain ⟨r, S1, S2, e1, e2, hR2⟩ := hwell n hn S (xs (nI (2 + 6 * j) + (1 : Int32)).toNatClampNeg) 1 hR (Or.inr rfl)
        obtain ⟨So, hSo⟩ := go S2 hR2
        exact ⟨So, by rw [e1, cl_some, e2, cl_some, if_pos rfl]; exact hSo⟩
    rw [if_neg c2]
    by_cases c3 : v = (3 : Int32)
    · rw [if_pos c3]
      obtain ⟨r, S1, S2, e1, e2, hR2⟩ := hwind n hn S (xs (nI (2 + 6 * j) + (1 : Int32)).toNatClampNeg) (xs (nI (2 + 6 * j) + (2 : Int32)).toNatClampNeg) (xs (nI (2 + 6 * j) + (3 : Int32)).toNatClampNeg) (xs (nI (2 + 6 * j) + (4 : Int32)).toNatClampNeg) hR
      obtain ⟨So, hSo⟩ := go S2 hR2
      exact ⟨So, by rw [e1, cl_some, e2, cl_some, if_pos rfl]; exact hSo⟩
    rw [if_neg c3]
    by_cases c4 : v = (4 : Int32)
    · rw [if_pos c4]
      obtain ⟨r, S1, S2, e1, e2, hR2⟩ := hplan n hn S (xs (nI (2 + 6 * j) + (1 : Int32)).toNatClampNeg) (xs (nI (2 + 6 * j) + (2 : Int32)).toNatClampNeg) hR
      obtain ⟨So, hSo⟩ := go S2 hR2
      exact ⟨So, by rw [e1, cl_some, e2, cl_some, if_pos rfl]; exact hSo⟩
    rw [if_neg c4]
    by_cases c5 : v = (5 : Int32)
    · rw [if_pos c5]
      obtain ⟨r, S1, S2, e1, e2, hR2⟩ := hfeed n hn S (xs (nI (2 + 6 * j) + (1 : Int32)).toNatClampNeg) (xs (nI (2 + 6 * j) + (2 : Int32)).toNatClampNeg) (xs (nI (2 + 6 * j) + (3 : Int32)).toNatClampNeg) (xs (nI (2 + 6 * j) + (4 : Int32)).toNatClampNeg) (xs (nI (2 + 6 * j) + (5 : Int32)).toNatClampNeg) hR
      obtain ⟨So, hSo⟩ := go S2 hR2
      exact ⟨So, by rw [e1, cl_some, e2, cl_some, if_pos rfl]; exact hSo⟩
    rw [if_neg c5]
    by_cases c6 : v = (6 : Int32)
    · rw [if_pos c6]
      obtain ⟨r, S1, S2, e1, e2, hR2⟩ := hend n hn S (xs (nI (2 + 6 * j) + (1 : Int32)).toNatClampNeg) hR
      obtain ⟨So, hSo⟩ := go S2 hR2
      exact ⟨So, by rw [e1, cl_some, e2, cl_some, if_pos rfl]; exact hSo⟩
    rw [if_neg c6]
    by_cases c7 : v = (7 : Int32)
    · rw [if_pos c7]
      obtain ⟨r, S1, S2, e1, e2, hR2⟩ := htext n hn S  hR
      obtain ⟨So, hSo⟩ := go S2 hR2
      exact ⟨So, by rw [e1, cl_some, e2, cl_some, if_pos rfl]; exact hSo⟩
    rw [if_neg c7]
    by_cases c8 : v = (8 : Int32)
    · rw [if_pos c8]
      obtain ⟨r, S1, S2, e1, e2, hR2⟩ := hfault n hn S (xs (nI (2 + 6 * j) + (1 : Int32)).toNatClampNeg) hR
      obtain ⟨So, hSo⟩ := go S2 hR2
      exact ⟨So, by rw [e1, cl_some, e2, cl_some, if_pos rfl]; exact hSo⟩
    rw [if_neg c8]
    by_cases c9 : v = (9 : Int32)
    · rw [if_pos c9]
      obtain ⟨r, S1, S2, e1, e2, hR2⟩ := hby n hn S (xs (nI (2 + 6 * j) + (1 : Int32)).toNatClampNeg) hR
      obtain ⟨So, hSo⟩ := go S2 hR2
      exact ⟨So, by rw [e1, cl_some, e2, cl_some, if_pos rfl]; exact hSo⟩
    rw [if_neg c9]
    by_cases c10 : v = (10 : Int32)
    · rw [if_pos c10]
      obtain ⟨r, S1, S2, e1, e2, hR2⟩ := hdraw n hn S (xs (nI (2 + 6 * j) + (1 : Int32)).toNatClampNeg) hR
      obtain ⟨So, hSo⟩ := go S2 hR2
      exact ⟨So, by rw [e1, cl_some, e2, cl_some, if_pos rfl]; exact hSo⟩
    rw [if_neg c10]
    by_cases c11 : v = (11 : Int32)
    · rw [if_pos c11]
      obtain ⟨r, S1, S2, e1, e2, hR2⟩ := hof n hn S (xs (nI (2 + 6 * j) + (1 : Int32)).toNatClampNeg) (xs (nI (2 + 6 * j) + (2 : Int32)).toNatClampNeg) hR
      obtain ⟨So, hSo⟩ := go S2 hR2
      exact ⟨So, by rw [e1, cl_some, e2, cl_some, if_pos rfl]; exact hSo⟩
    rw [if_neg c11]
    by_cases c12 : v = (12 : Int32)
    · rw [if_pos c12]
      obtain ⟨r, S1, S2, e1, e2, hR2⟩ := hcell n hn S (xs (nI (2 + 6 * j) + (1 : Int32)).toNatClampNeg) (xs (nI (2 + 6 * j) + (2 : Int32)).toNatClampNeg) hR
      obtain ⟨So, hSo⟩ := go S2 hR2
      exact ⟨So, by rw [e1, cl_some, e2, cl_some, if_pos rfl]; exact hSo⟩
    rw [if_neg c12]
    by_cases c13 : v = (13 : Int32)
    · rw [if_pos c13]
      obtain ⟨r, S1, S2, e1, e2, hR2⟩ := hfarmer n hn S (xs (nI (2 + 6 * j) + (1 : Int32)).toNatClampNeg) (xs (nI (2 + 6 * j) + (2 : Int32)).toNatClampNeg) hR
      obtain ⟨So, hSo⟩ := go S2 hR2
      exact ⟨So, by rw [e1, cl_some, e2, cl_some, if_pos rfl]; exact hSo⟩
    rw [if_neg c13]
    by_cases c14 : v = (14 : Int32)
    · rw [if_pos c14]
      obtain ⟨r, S1, S2, e1, e2, hR2⟩ := hhour n hn S (xs (nI (2 + 6 * j) + (1 : Int32)).toNatClampNeg) hR
      obtain ⟨So, hSo⟩ := go S2 hR2
      exact ⟨So, by rw [e1, cl_some, e2, cl_some, if_pos rfl]; exact hSo⟩
    rw [if_neg c14]
    by_cases c15 : v = (15 : Int32)
    · rw [if_pos c15]
      obtain ⟨r, S1, S2, e1, e2, hR2⟩ := hsow n hn S (xs (nI (2 + 6 * j) + (1 : Int32)).toNatClampNeg) (xs (nI (2 + 6 * j) + (2 : Int32)).toNatClampNeg) hR
      obtain ⟨So, hSo⟩ := go S2 hR2
      exact ⟨So, by rw [e1, cl_some, e2, cl_some, if_pos rfl]; exact hSo⟩
    rw [if_neg c15]
    by_cases c16 : v = (16 : Int32)
    · rw [if_pos c16]
      obtain ⟨r, S1, S2, e1, e2, hR2⟩ := hreap n hn S (xs (nI (2 + 6 * j) + (1 : Int32)).toNatClampNeg) hR
      obtain ⟨So, hSo⟩ := go S2 hR2
      exact ⟨So, by rw [e1, cl_some, e2, cl_some, if_pos rfl]; exact hSo⟩
    rw [if_neg c16]
    by_cases c17 : v = (17 : Int32)
    · rw [if_pos c17]
      obtain ⟨r, S1, S2, e1, e2, hR2⟩ := hnight n hn S (xs (nI (2 + 6 * j) + (1 : Int32)).toNatClampNeg) (xs (nI (2 + 6 * j) + (2 : Int32)).toNatClampNeg) (xs (nI (2 + 6 * j) + (3 : Int32)).toNatClampNeg) hR
      obtain ⟨So, hSo⟩ := go' S2 hR2
      exact ⟨So, by rw [e1, cl_some, e2, cl_some, if_pos rfl]; exact hSo⟩
    rw [if_neg c17]
    by_cases c18 : v = (18 : Int32)
    · rw [if_pos c18]
      obtain ⟨r, S1, S2, e1, e2, hR2⟩ := hodds n hn S (xs (nI (2 + 6 * j) + (1 : Int32)).toNatClampNeg) (xs (nI (2 + 6 * j) + (2 : Int32)).toNatClampNeg) (xs (nI (2 + 6 * j) + (3 : Int32)).toNatClampNeg) hR
      obtain ⟨So, hSo⟩ := go S2 hR2
      exact ⟨So, by rw [e1, cl_some, e2, cl_some, if_pos rfl]; exact hSo⟩
    rw [if_neg c18]
    by_cases c19 : v = (19 : Int32)
    · rw [if_pos c19]
      obtain ⟨r, S1, S2, e1, e2, hR2⟩ := hmean n hn S (xs (nI (2 + 6 * j) + (1 : Int32)).toNatClampNeg) (xs (nI (2 + 6 * j) + (2 : Int32)).toNatClampNeg) hR
      obtain ⟨So, hSo⟩ := go S2 hR2
      exact ⟨So, by rw [e1, cl_some, e2, cl_some, if_pos rfl]; exact hSo⟩
    rw [if_neg c19]
    by_cases c20 : v = (20 : Int32)
    · rw [if_pos c20]
      obtain ⟨r, S1, S2, e1, e2, hR2⟩ := hbest n hn S (xs (nI (2 + 6 * j) + (1 : Int32)).toNatClampNeg) (xs (nI (2 + 6 * j) + (2 : Int32)).toNatClampNeg) (xs (nI (2 + 6 * j) + (3 : Int32)).toNatClampNeg) hR
      obtain ⟨So, hSo⟩ := go S2 hR2
      exact ⟨So, by rw [e1, cl_some, e2, cl_some, if_pos rfl]; exact hSo⟩
    rw [if_neg c20]
    by_cases c21 : v = (21 : Int32)
    · rw [if_pos c21]
      obtain ⟨r, S1, S2, e1, e2, hR2⟩ := htime n hn S (xs (nI (2 + 6 * j) + (1 : Int32)).toNatClampNeg) (xs (nI (2 + 6 * j) + (2 : Int32)).toNatClampNeg) (xs (nI (2 + 6 * j) + (3 : Int32)).toNatClampNeg) hR
      obtain ⟨So, hSo⟩ := go S2 hR2
      exact ⟨So, by rw [e1, cl_some, e2, cl_some, if_pos rfl]; exact hSo⟩
    rw [if_neg c21]
    by_cases c22 : v = (22 : Int32)
    · rw [if_pos c22]
      obtain ⟨r, S1, S2, e1, e2, hR2⟩ := hkeeps n hn S (xs (nI (2 + 6 * j) + (1 : Int32)).toNatClampNeg) (xs (nI (2 + 6 * j) + (2 : Int32)).toNatClampNeg) (xs (nI (2 + 6 * j) + (3 : Int32)).toNatClampNeg) (xs (nI (2 + 6 * j) + (4 : Int32)).toNatClampNeg) hR
      obtain ⟨So, hSo⟩ := go S2 hR2
      exact ⟨So, by rw [e1, cl_some, e2, cl_some, if_pos rfl]; exact hSo⟩
    rw [if_neg c22]
    by_cases c23 : v = (23 : Int32)
    · rw [if_pos c23]
      obtain ⟨r, S1, S2, e1, e2, hR2⟩ := hcalm n hn S  hR
      obtain ⟨So, hSo⟩ := go S2 hR2
      exact ⟨So, by rw [e1, cl_some, e2, cl_some, if_pos rfl]; exact hSo⟩
    rw [if_neg c23]
    by_cases c24 : v = (24 : Int32)
    · rw [if_pos c24]
      obtain ⟨r, S1, S2, e1, e2, hR2⟩ := hdisputes n hn S (xs (nI (2 + 6 * j) + (1 : Int32)).toNatClampNeg) hR
      obtain ⟨So, hSo⟩ := go S2 hR2
      exact ⟨So, by rw [e1, cl_some, e2, cl_some, if_pos rfl]; exact hSo⟩
    rw [if_neg c24]
    by_cases c25 : v = (25 : Int32)
    · rw [if_pos c25]
      obtain ⟨r, S1, S2, e1, e2, hR2⟩ := hmap n hn S (xs (nI (2 + 6 * j) + (1 : Int32)).toNatClampNeg) (xs (nI (2 + 6 * j) + (2 : Int32)).toNatClampNeg) hR
      obtain ⟨So, hSo⟩ := go S2 hR2
      exact ⟨So, by rw [e1, cl_some, e2, cl_some, if_pos rfl]; exact hSo⟩
    rw [if_neg c25]
    by_cases c26 : v = (26 : Int32)
    · rw [if_pos c26]
      obtain ⟨r, S1, S2, e1, e2, hR2⟩ := hmade n hn S  hR
      obtain ⟨So, hSo⟩ := go S2 hR2
      exact ⟨So, by rw [e1, cl_some, e2, cl_some, if_pos rfl]; exact hSo⟩
    rw [if_neg c26]
    by_cases c27 : v = (27 : Int32)
    · rw [if_pos c27]
      obtain ⟨r, S1, S2, e1, e2, hR2⟩ := hhours n hn S (xs (nI (2 + 6 * j) + (1 : Int32)).toNatClampNeg) (xs (nI (2 + 6 * j) + (2 : Int32)).toNatClampNeg) hR
      obtain ⟨So, hSo⟩ := go S2 hR2
      exact ⟨So, by rw [e1, cl_some, e2, cl_some, if_pos rfl]; exact hSo⟩
    rw [if_neg c27]
    by_cases c28 : v = (28 : Int32)
    · rw [if_pos c28]
      obtain ⟨r, S1, S2, e1, e2, hR2⟩ := himage n hn S  hR
      obtain ⟨So, hSo⟩ := go S2 hR2
      exact ⟨So, by rw [e1, cl_some, e2, cl_some, if_pos rfl]; exact hSo⟩
    rw [if_neg c28]
    by_cases c29 : v = (29 : Int32)
    · rw [if_pos c29]
      obtain ⟨r, S1, S2, e1, e2, hR2⟩ := hback n hn S  hR
      obtain ⟨So, hSo⟩ := go S2 hR2
      exact ⟨So, by rw [e1, cl_some, e2, cl_some, if_pos rfl]; exact hSo⟩
    rw [if_neg c29]
    by_cases c30 : v = (30 : Int32)
    · rw [if_pos c30]
      obtain ⟨r, S1, S2, e1, e2, hR2⟩ := habout n hn S (xs (nI (2 + 6 * j) + (1 : Int32)).toNatClampNeg) hR
      obtain ⟨So, hSo⟩ := go S2 hR2
      exact ⟨So, by rw [e1, cl_some, e2, cl_some, if_pos rfl]; exact hSo⟩
    rw [if_neg c30]
    exact go S hR
set_option maxRecDepth 100000 in
theorem pure_of (h : ∀ z, ∃ Rel : Nat → MS → Prop, (∀ j S, Rel j S → Rel (j + 1) S) ∧ Op_init z (Rel 0) ∧ ∀ j, j < 600 → Op_all z (Rel j) (Rel (j + 1))) : Pure := by
  intro z L xs hL
  obtain ⟨Rel, hm, hi, hO⟩ := h z
  obtain ⟨S4, S10, e1, e2, e3, hR⟩ := hi 100000 (Nat.le_refl _) (lcell L xs 0) (lcell L xs 1)
  obtain ⟨So, hSo⟩ := loop_of hm hO (n := 100000) (Nat.le_refl _) hL xs 100000 0 S10 hR (by omega) (by omega)
  refine ⟨100000, So, ?_⟩
  unfold f_L_law
  simp only [jn, bd]
  rw [show z + (mL S0).length = z from rfl, e1, cv_some, e2, e3, cv_some]
  exact hSo
