theorem i_up {k : Nat} {u : SX} {v : SY} (h : i_Rel k u v) : i_Rel (k + 4) u v := h
theorem rb_new {R : Nat} (hR : 2 ≤ R) (hR2 : R ≤ 36) : i_Rel 1 (nI R, fun _ => 0, fun _ => 0, fun _ => 0, fun _ => 0, fun _ => 0, fun _ => 0) (nI R, fun _ => 0) :=
  rb_rel (V := fun _ => 0) 1 hR hR2 (fun _ _ => rb_pp hR 24) (fun _ _ => rb_Hz (fun _ _ => rfl)) (fun _ _ => rb_Hz (fun _ _ => rfl))
theorem i_vc0 (k0 : Int32) : wpX_init (fun u => wpY_init (fun v => i_Rel 1 u v) k0) k0 := by
  rcases rb_ixO k0 with g | ⟨o, h1, h2, rfl⟩
  · by_cases z : k0 < 2
    · exact br_f (Int32.not_le.mpr z) (br_f (Int32.not_le.mpr z) (rb_new (R := 2) (by decide) (by decide)))
    · have z2 : (2 : Int32) ≤ k0 := Int32.not_lt.mp z
      have z3 : ¬ k0 ≤ 36 := Int32.not_le.mpr (g.resolve_left z)
      exact br_t z2 (br_f z3 (br_t z2 (br_f z3 (rb_new (R := 36) (by decide) (by decide)))))
  · have z2 : (2 : Int32) ≤ nI o := nI_le (a := 2) h1 (by omega)
    have z3 : nI o ≤ (36 : Int32) := nI_le (b := 36) h2 (by decide)
    exact br_t z2 (br_t z3 (br_t z2 (br_t z3 (rb_new h1 h2))))
