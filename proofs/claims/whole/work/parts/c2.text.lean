/-! A TEXT AS READ: both hold it -/
section TX2
variable {z r N so : Nat} {I : Nat → Nat → Int32} {tk : Nat → Nat × Nat} {pl : Nat → Nat}
theorem map_gD (K : List Cl4) (j : Nat) : (K.map (fun k => k.1)).getD j 0 = (K.getD j (0, 0, 0, 0)).1 := by
  rw [List.getD_eq_getElem?_getD, List.getD_eq_getElem?_getD, List.getElem?_map]
  cases K[j]? <;> rfl
/-- any number is the mask of some so: before the first clause the reader's field 6 is of no use -/
theorem nmK_any (v : Int32) : ∃ so, v = nI (nmK so) := by
  refine ⟨v.toUInt32.toNat + 6, ?_⟩
  unfold nmK
  rw [if_neg (by omega), if_neg (by omega), if_neg (by omega), if_neg (by omega), Nat.add_sub_cancel]
  apply Int32.toBitVec_inj.mp
  apply BitVec.eq_of_toNat_eq
  show v.toBitVec.toNat = (BitVec.ofNat 32 v.toBitVec.toNat).toNat
  rw [BitVec.toNat_ofNat, Nat.mod_eq_of_lt v.toBitVec.isLt]
theorem ck_cls {K : List Cl4} {i : Nat} {c : Cd} (hK : CkS z r I K) (h : OkSt z r N so tk pl I i c) : ClsX z r I (xOf K c) := by
  obtain ⟨⟨a1, a2, a3⟩, b, c1, c2⟩ := hK
  obtain ⟨h1, h2, h3, h4, h5, h6, h7, h8, h9, h10⟩ := h
  have hml : (K.map (fun k => k.1)).length = K.length := List.length_map _
  rw [hml] at a1 a2 a3
  refine ⟨a1, h9, fun s hs => ?_, fun i hi => ?_, h10⟩
  · rcases a3 s hs with ⟨x1, x2⟩ | ⟨i0, x1, x2, x3⟩
    · refine ⟨fun i hi e => absurd ?_ x1, fun _ => x2⟩
      have e : (K.getD i (0, 0, 0, 0)).1 = s := e
      rw [← e]
      exact List.mem_map.mpr ⟨_, mem_gD hi, rfl⟩
    · refine ⟨fun i hi e => ?_, fun e => absurd ((map_gD K i0).symm.trans ((x3 i0 x1).mpr rfl)) (e i0 x1)⟩
      have e : (K.getD i (0, 0, 0, 0)).1 = s := e
      rw [x2, (x3 i hi).mp ((map_gD K i).trans e)]
  · have q := a2 i hi
    rw [map_gD] at q
    obtain ⟨b1, b2, b3⟩ := b i hi
    exact ⟨q, b1, b2, b3⟩
theorem rk_ref {J : Nat → Nat → Int64} {Tq : TQ} {K : List Cl4} {i op : Nat} {c : Cd} {p : List Nat} {w : Bool} (hK : RkS z r I K) (h : RfW z r so Tq I J i c p op w) : RefX z r I (xOf K c) := ⟨hK.1, fun i hi => hK.2 i hi, h.2.2.2.1⟩
end TX2
