/-! A CROP TAKEN: both -/
section CR
variable {z M C : Nat} {T : TP}
/-- the plain with no crop at c -/
def crT (T : TP) (c : Nat) : TP := (tk T, th T, tc T, tw T, tl T, ts T, ur (tr T) c (-1))
theorem TW.crp (h : TW C M T) {c : Nat} : TW C M (crT T c) := by
  obtain ⟨h1, h2, h3, h4, h5, h6⟩ := h
  refine ⟨h1, h2, h3, h4, h5, fun d hd => ?_⟩
  show ur (tr T) c (-1) d = -1 ∨ ∃ g, g ≤ th T ∧ ur (tr T) c (-1) d = nI g
  by_cases hdc : d = c
  · subst hdc; rw [ur_at]; exact Or.inl rfl
  · rw [ur_ne _ _ hdc]; exact h6 d hd
theorem ClsT.crp {o c : Nat} {I : Nat → Nat → Int32} {J : Nat → Nat → Int64} (h : ClsT z C o I J T) : ClsT z C o (up2 I (z + (o + 6)) c (-1)) J (crT T c) := by
  obtain ⟨a1, a2, a3, a4, a5, a6, a7⟩ := h
  unfold ClsT
  rw [up2_ne (by omega), up2_ne (by omega), up2_ne (by omega), up2_ne (by omega), up2_ne (by omega), up2_r]
  refine ⟨a1, a2, a3, a4, fun d hd => ?_, a6, a7⟩
  show ur (I (z + (o + 6))) c (-1) d = ur (tr T) c (-1) d
  by_cases hdc : d = c
  · subst hdc; rw [ur_at, ur_at]
  · rw [ur_ne _ _ hdc, ur_ne _ _ hdc]; exact a5 d hd
theorem RefT.crpU {B c : Nat} {I : Nat → Nat → Int32} (hW : TW C M T) (h : RefT z C B I T) (hC : C ≤ 48) (hc : c < C) : RefT z C B (up2 I (z + 84) (B + 240 + c) (-1)) (crT T c) := by
  have h24 := hW.1
  have p240 : plj (240 + c) = true := by have := plj_190 (i := 50 + c) (by omega); rwa [show 190 + (50 + c) = 240 + c by omega] at this
  obtain ⟨b1, b2, b3, b4, b5, b6⟩ := h
  unfold RefT
  rw [up2_r, show B + 240 + c = B + (240 + c) by omega, pa_ur p240]
  refine ⟨?_, ?_, fun j hj => ?_, fun f hf => ?_, fun d hd => ?_, fun d hd hb => ?_⟩
  · rw [ur_ne _ _ (by omega)]; exact b1
  · rw [ur_ne _ _ (by omega)]; exact b2
  · have hj : j < tk T := hj
    obtain ⟨e1, e2, e3, e4⟩ := b3 j hj
    refine ⟨?_, ?_, ?_, ?_⟩
    · rw [ur_ne _ _ (by omega)]; exact e1
    · rw [ur_ne _ _ (by omega)]; exact e2
    · rw [ur_ne _ _ (by omega)]; exact e3
    · show ur _ (240 + c) (-1) (290 + tc T j) = nI (j + 1)
      rw [ur_ne _ _ (by omega)]; exact e4
  · rw [ur_ne _ _ (by omega)]; exact b4 f hf
  · show ur _ (240 + c) (-1) (240 + d) = ur (tr T) c (-1) d
    by_cases hdc : d = c
    · subst hdc; rw [ur_at, ur_at]
    · rw [ur_ne _ _ (by omega), ur_ne _ _ hdc]; exact b5 d hd
  · rw [ur_ne _ _ (by omega)]; exact b6 d hd hb
end CR
