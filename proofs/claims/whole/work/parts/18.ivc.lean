def i_Rel (_ : Nat) (u : SX) (v : SY) : Prop := ∃ (R : Nat) (V : Nat → Nat) (c l r q s p y : Nat → Int32), u = (nI R, c, l, r, q, s, p) ∧ v = (nI R, y) ∧ 2 ≤ R ∧ R ≤ 36 ∧ rb_B R V ∧ rb_X R V c ∧ rb_Y R V y
theorem rb_rel {R : Nat} {V : Nat → Nat} {c l r q s p y : Nat → Int32} (k : Nat) (hR : 2 ≤ R) (hR2 : R ≤ 36) (hB : rb_B R V) (hX : rb_X R V c) (hY : rb_Y R V y) : i_Rel k (nI R, c, l, r, q, s, p) (nI R, y) :=
  ⟨R, V, c, l, r, q, s, p, y, rfl, rfl, hR, hR2, hB, hX, hY⟩
theorem i_vc_radix {k : Nat} {u : SX} {v : SY} (I : i_Rel k u v) (hk : k + 4 ≤ 2049) : wpX_radix (fun r => wpY_radix (fun r' => r' = r ∧ i_Rel (k + 4) u v) v) u := by
  obtain ⟨R, V, c, l, r, q, s, p, y, rfl, rfl, hR, hR2, hB, hX, hY⟩ := I
  exact ⟨rfl, rb_rel _ hR hR2 hB hX hY⟩
theorem i_vc_add {k : Nat} {u : SX} {v : SY} (I : i_Rel k u v) (hk : k + 4 ≤ 2049) (v1 : Int32) (v2 : Int32) : wpX_add (fun r u' => wpY_add (fun r' v' => r' = r ∧ i_Rel (k + 4) u' v') v v1 v2) u v1 v2 := by
  obtain ⟨R, V, c, l, r, q, s, p, y, rfl, rfl, hR, hR2, hB, hX, hY⟩ := I
  rcases rb_reg v1 with g1 | ⟨a, ha, rfl⟩
  · exact xn_add g1 (yn_add g1 ⟨rfl, rb_rel _ hR hR2 hB hX hY⟩)
  · rcases rb_reg v2 with g2 | ⟨b, hb, rfl⟩
    · exact xm_add ha g2 (ym_add ha g2 ⟨rfl, rb_rel _ hR hR2 hB hX hY⟩)
    · refine xx_add hR hR2 hB hX ha hb (fun z c1 l1 r1 q1 s1 p1 hX1 => ?_) (fun z c1 l1 r1 q1 s1 p1 hX1 => ?_)
      · exact yy_add hR hR2 hB hY ha hb (fun _ y1 hY1 => ⟨rfl, rb_rel _ hR hR2 (rb_Bs hB z) hX1 hY1⟩) (fun z2 => absurd z2 (by omega))
      · exact yy_add hR hR2 hB hY ha hb (fun z2 => absurd z2 (by omega)) (fun _ y1 hY1 => ⟨rfl, rb_rel _ hR hR2 hB hX1 hY1⟩)
theorem i_vc_subtract {k : Nat} {u : SX} {v : SY} (I : i_Rel k u v) (hk : k + 4 ≤ 2049) (v1 : Int32) (v2 : Int32) : wpX_subtract (fun r u' => wpY_subtract (fun r' v' => r' = r ∧ i_Rel (k + 4) u' v') v v1 v2) u v1 v2 := by
  obtain ⟨R, V, c, l, r, q, s, p, y, rfl, rfl, hR, hR2, hB, hX, hY⟩ := I
  rcases rb_reg v1 with g1 | ⟨a, ha, rfl⟩
  · exact xn_subtract g1 (yn_subtract g1 ⟨rfl, rb_rel _ hR hR2 hB hX hY⟩)
  · rcases rb_reg v2 with g2 | ⟨b, hb, rfl⟩
    · exact xm_subtract ha g2 (ym_subtract ha g2 ⟨rfl, rb_rel _ hR hR2 hB hX hY⟩)
    · refine xx_subtract hR hR2 hB hX ha hb (fun z c1 l1 r1 q1 s1 p1 hX1 => ?_) (fun z c1 l1 r1 q1 s1 p1 hX1 => ?_)
      · exact yy_subtract hR hR2 hB hY ha hb (fun _ y1 hY1 => ⟨rfl, rb_rel _ hR hR2 (rb_Bs hB (Nat.lt_of_le_of_lt (Nat.sub_le _ _) (hB a ha))) hX1 hY1⟩) (fun z2 => absurd z2 (by omega))
      · exact yy_subtract hR hR2 hB hY ha hb (fun z2 => absurd z2 (by omega)) (fun _ y1 hY1 => ⟨rfl, rb_rel _ hR hR2 hB hX1 hY1⟩)
theorem i_vc_multiply {k : Nat} {u : SX} {v : SY} (I : i_Rel k u v) (hk : k + 4 ≤ 2049) (v1 : Int32) (v2 : Int32) : wpX_multiply (fun r u' => wpY_multiply (fun r' v' => r' = r ∧ i_Rel (k + 4) u' v') v v1 v2) u v1 v2 := by
  obtain ⟨R, V, c, l, r, q, s, p, y, rfl, rfl, hR, hR2, hB, hX, hY⟩ := I
  rcases rb_reg v1 with g1 | ⟨a, ha, rfl⟩
  · exact xn_multiply g1 (yn_multiply g1 ⟨rfl, rb_rel _ hR hR2 hB hX hY⟩)
  · rcases rb_reg v2 with g2 | ⟨b, hb, rfl⟩
    · exact xm_multiply ha g2 (ym_multiply ha g2 ⟨rfl, rb_rel _ hR hR2 hB hX hY⟩)
    · refine xx_multiply hR hR2 hB hX ha hb (fun z c1 l1 r1 q1 s1 p1 hX1 => ?_) (fun z c1 l1 r1 q1 s1 p1 hX1 => ?_)
      · exact yy_multiply hR hR2 hB hY ha hb (fun _ y1 hY1 => ⟨rfl, rb_rel _ hR hR2 (rb_Bs hB z) hX1 hY1⟩) (fun z2 => absurd z2 (Nat.not_le.mpr z))
      · exact yy_multiply hR hR2 hB hY ha hb (fun z2 => absurd z2 (Nat.not_lt.mpr z)) (fun _ y1 hY1 => ⟨rfl, rb_rel _ hR hR2 hB hX1 hY1⟩)
theorem i_vc_multiplyLow {k : Nat} {u : SX} {v : SY} (I : i_Rel k u v) (hk : k + 4 ≤ 2049) (v1 : Int32) (v2 : Int32) : wpX_multiplyLow (fun r u' => wpY_multiplyLow (fun r' v' => r' = r ∧ i_Rel (k + 4) u' v') v v1 v2) u v1 v2 := by
  obtain ⟨R, V, c, l, r, q, s, p, y, rfl, rfl, hR, hR2, hB, hX, hY⟩ := I
  rcases rb_reg v1 with g1 | ⟨a, ha, rfl⟩
  · exact xn_multiplyLow g1 (yn_multiplyLow g1 ⟨rfl, rb_rel _ hR hR2 hB hX hY⟩)
  · rcases rb_reg v2 with g2 | ⟨b, hb, rfl⟩
    · exact xm_multiplyLow ha g2 (ym_multiplyLow ha g2 ⟨rfl, rb_rel _ hR hR2 hB hX hY⟩)
    · refine xx_multiplyLow hR hR2 hB hX ha hb (fun z c1 l1 r1 q1 s1 p1 hX1 => ?_) (fun z c1 l1 r1 q1 s1 p1 hX1 => ?_)
      · exact yy_multiplyLow hR hR2 hB hY ha hb (fun _ y1 hY1 => ⟨rfl, rb_rel _ hR hR2 (rb_Bs hB (Nat.mod_lt _ (rb_pp hR 24))) hX1 hY1⟩) (fun z2 => absurd z2 (Nat.not_le.mpr z))
      · exact yy_multiplyLow hR hR2 hB hY ha hb (fun z2 => absurd z2 (Nat.not_lt.mpr z)) (fun _ y1 hY1 => ⟨rfl, rb_rel _ hR hR2 (rb_Bs hB (Nat.mod_lt _ (rb_pp hR 24))) hX1 hY1⟩)
theorem i_vc_copy {k : Nat} {u : SX} {v : SY} (I : i_Rel k u v) (hk : k + 4 ≤ 2049) (v1 : Int32) (v2 : Int32) : wpX_copy (fun r u' => wpY_copy (fun r' v' => r' = r ∧ i_Rel (k + 4) u' v') v v1 v2) u v1 v2 := by
  obtain ⟨R, V, c, l, r, q, s, p, y, rfl, rfl, hR, hR2, hB, hX, hY⟩ := I
  rcases rb_reg v1 with g1 | ⟨a, ha, rfl⟩
  · exact xn_copy g1 (yn_copy g1 ⟨rfl, rb_rel _ hR hR2 hB hX hY⟩)
  · rcases rb_reg v2 with g2 | ⟨b, hb, rfl⟩
    · exact xm_copy ha g2 (ym_copy ha g2 ⟨rfl, rb_rel _ hR hR2 hB hX hY⟩)
    · exact xx_copy hR hB hX ha hb (fun c1 l1 r1 q1 s1 p1 hX1 => yy_copy hY ha hb (fun y1 hY1 => ⟨rfl, rb_rel _ hR hR2 (rb_Bs hB (hB b hb)) hX1 hY1⟩))
theorem i_vc_compare {k : Nat} {u : SX} {v : SY} (I : i_Rel k u v) (hk : k + 4 ≤ 2049) (v1 : Int32) (v2 : Int32) : wpX_compare (fun r u' => wpY_compare (fun r' => r' = r ∧ i_Rel (k + 4) u' v) v v1 v2) u v1 v2 := by
  obtain ⟨R, V, c, l, r, q, s, p, y, rfl, rfl, hR, hR2, hB, hX, hY⟩ := I
  rcases rb_reg v1 with g1 | ⟨a, ha, rfl⟩
  · exact xn_compare g1 (yn_compare g1 ⟨rfl, rb_rel _ hR hR2 hB hX hY⟩)
  · rcases rb_reg v2 with g2 | ⟨b, hb, rfl⟩
    · exact xm_compare ha g2 (ym_compare ha g2 ⟨rfl, rb_rel _ hR hR2 hB hX hY⟩)
    · refine xx_compare hR hR2 hB hX ha hb (fun z c1 l1 r1 q1 s1 p1 hX1 => ?_) (fun z c1 l1 r1 q1 s1 p1 hX1 => ?_) (fun z c1 l1 r1 q1 s1 p1 hX1 => ?_)
      · exact yy_compare hR hR2 hB hY ha hb (fun _ => ⟨rfl, rb_rel _ hR hR2 hB hX1 hY⟩) (fun z2 => absurd z2 (by omega)) (fun z2 => absurd z2 (by omega))
      · exact yy_compare hR hR2 hB hY ha hb (fun z2 => absurd z2 (by omega)) (fun _ => ⟨rfl, rb_rel _ hR hR2 hB hX1 hY⟩) (fun z2 => absurd z2 (by omega))
      · exact yy_compare hR hR2 hB hY ha hb (fun z2 => absurd z2 (by omega)) (fun z2 => absurd z2 (by omega)) (fun _ => ⟨rfl, rb_rel _ hR hR2 hB hX1 hY⟩)
theorem i_vc_divisor {k : Nat} {u : SX} {v : SY} (I : i_Rel k u v) (hk : k + 4 ≤ 2049) (v1 : Int32) (v2 : Int32) : wpX_divisor (fun r u' => wpY_divisor (fun r' v' => r' = r ∧ i_Rel (k + 4) u' v') v v1 v2) u v1 v2 := by
  obtain ⟨R, V, c, l, r, q, s, p, y, rfl, rfl, hR, hR2, hB, hX, hY⟩ := I
  rcases rb_reg v1 with g1 | ⟨a, ha, rfl⟩
  · exact xn_divisor g1 (yn_divisor g1 ⟨rfl, rb_rel _ hR hR2 hB hX hY⟩)
  · rcases rb_reg v2 with g2 | ⟨b, hb, rfl⟩
    · exact xm_divisor ha g2 (ym_divisor ha g2 ⟨rfl, rb_rel _ hR hR2 hB hX hY⟩)
    · have gb : Nat.gcd (V a) (V b) < R ^ 24 := by
        by_cases z : V a = 0
        · rw [z, Nat.gcd_zero_left]
          exact hB b hb
        · exact Nat.lt_of_le_of_lt (Nat.gcd_le_left _ (Nat.pos_of_ne_zero z)) (hB a ha)
      exact xx_divisor hR hR2 hB hX ha hb (fun c1 l1 r1 q1 s1 p1 hX1 => yy_divisor hR hR2 hB hY ha hb (fun y1 hY1 => ⟨rfl, rb_rel _ hR hR2 (rb_Bs hB gb) hX1 hY1⟩))
theorem i_vc_root {k : Nat} {u : SX} {v : SY} (I : i_Rel k u v) (hk : k + 4 ≤ 2049) (v1 : Int32) : wpX_root (fun r u' => wpY_root (fun r' v' => r' = r ∧ i_Rel (k + 4) u' v') v v1) u v1 := by
  obtain ⟨R, V, c, l, r, q, s, p, y, rfl, rfl, hR, hR2, hB, hX, hY⟩ := I
  rcases rb_reg v1 with g1 | ⟨a, ha, rfl⟩
  · exact xn_root g1 (yn_root g1 ⟨rfl, rb_rel _ hR hR2 hB hX hY⟩)
  · obtain ⟨t, h1, h2⟩ := rb_sq (V a)
    have tb : t < R ^ 24 := Nat.lt_of_lt_of_le (rb_sqb (hB a ha) h1) (rb_pm hR (by omega))
    exact xx_root hR hR2 hB hX ha h1 h2 (fun c1 l1 r1 q1 s1 p1 hX1 => yy_root hR hR2 hB hY ha h1 h2 (fun y1 hY1 => ⟨rfl, rb_rel _ hR hR2 (rb_Bs hB tb) hX1 hY1⟩))
theorem i_vc_length {k : Nat} {u : SX} {v : SY} (I : i_Rel k u v) (hk : k + 4 ≤ 2049) (v1 : Int32) : wpX_length (fun r => wpY_length (fun r' => r' = r ∧ i_Rel (k + 4) u v) v v1) u v1 := by
  obtain ⟨R, V, c, l, r, q, s, p, y, rfl, rfl, hR, hR2, hB, hX, hY⟩ := I
  rcases rb_reg v1 with g1 | ⟨a, ha, rfl⟩
  · exact xn_length g1 (yn_length g1 ⟨rfl, rb_rel _ hR hR2 hB hX hY⟩)
  · exact xx_length hR hR2 hX ha (fun n n1 n2 n3 => yy_length hR hR2 hY ha (fun m m1 m2 m3 => ⟨congrArg nI (rb_lnu m1 n1 m2 m3 n2 n3), rb_rel _ hR hR2 hB hX hY⟩))
theorem i_vc_digit {k : Nat} {u : SX} {v : SY} (I : i_Rel k u v) (hk : k + 4 ≤ 2049) (v1 : Int32) (v2 : Int32) : wpX_digit (fun r => wpY_digit (fun r' => r' = r ∧ i_Rel (k + 4) u v) v v1 v2) u v1 v2 := by
  obtain ⟨R, V, c, l, r, q, s, p, y, rfl, rfl, hR, hR2, hB, hX, hY⟩ := I
  rcases rb_reg v1 with g1 | ⟨a, ha, rfl⟩
  · exact xn_digit g1 (yn_digit g1 ⟨rfl, rb_rel _ hR hR2 hB hX hY⟩)
  · rcases pk_ix v2 (n := 24) (by decide) with g | g | ⟨i, hi, rfl⟩
    · exact xo_digit ha (Or.inl g) (yo_digit ha (Or.inl g) ⟨rfl, rb_rel _ hR hR2 hB hX hY⟩)
    · exact xo_digit ha (Or.inr g) (yo_digit ha (Or.inr g) ⟨rfl, rb_rel _ hR hR2 hB hX hY⟩)
    · exact xx_digitAt hX ha hi (yy_digitAt hY ha hi ⟨rfl, rb_rel _ hR hR2 hB hX hY⟩)
theorem i_vc_set {k : Nat} {u : SX} {v : SY} (I : i_Rel k u v) (hk : k + 4 ≤ 2049) (v1 : Int32) (v2 : Int32) (v3 : Int32) : wpX_set (fun r u' => wpY_set (fun r' v' => r' = r ∧ i_Rel (k + 4) u' v') v v1 v2 v3) u v1 v2 v3 := by
  obtain ⟨R, V, c, l, r, q, s, p, y, rfl, rfl, hR, hR2, hB, hX, hY⟩ := I
  rcases rb_reg v1 with g1 | ⟨a, ha, rfl⟩
  · exact xn_set g1 (yn_set g1 ⟨rfl, rb_rel _ hR hR2 hB hX hY⟩)
  · rcases rb_ix24 v2 with g | ⟨i, hi, rfl⟩
    · exact xo_set ha g (yo_set ha g ⟨rfl, rb_rel _ hR hR2 hB hX hY⟩)
    · rcases rb_ixR v3 hR2 with g | ⟨d, hd, rfl⟩
      · exact xp_set hR2 ha hi g (yp_set hR2 ha hi g ⟨rfl, rb_rel _ hR hR2 hB hX hY⟩)
      · obtain ⟨n, n1, n2⟩ := rb_set hR (hB a ha) hi hd
        exact xx_set hR2 hX ha hi hd n2 (fun c1 l1 r1 q1 s1 p1 hX1 => yy_set hR2 hY ha hi hd n2 (fun y1 hY1 => ⟨rfl, rb_rel _ hR hR2 (rb_Bs hB n1) hX1 hY1⟩))
theorem i_vc_feed {k : Nat} {u : SX} {v : SY} (I : i_Rel k u v) (hk : k + 4 ≤ 2049) (v1 : Int32) (v2 : Int32) : wpX_feed (fun r u' => wpY_feed (fun r' v' => r' = r ∧ i_Rel (k + 4) u' v') v v1 v2) u v1 v2 := by
  obtain ⟨R, V, c, l, r, q, s, p, y, rfl, rfl, hR, hR2, hB, hX, hY⟩ := I
  rcases rb_reg v1 with g1 | ⟨a, ha, rfl⟩
  · exact xn_feed g1 (yn_feed g1 ⟨rfl, rb_rel _ hR hR2 hB hX hY⟩)
  · rcases rb_ixR v2 hR2 with g | ⟨d, hd, rfl⟩
    · exact xo_feed hR2 ha g (yo_feed hR2 ha g ⟨rfl, rb_rel _ hR hR2 hB hX hY⟩)
    · exact xx_feed hR hR2 hB hX ha hd (fun c1 l1 r1 q1 s1 p1 hX1 => yy_feed hR hR2 hB hY ha hd (fun y1 hY1 => ⟨rfl, rb_rel _ hR hR2 (rb_Bs hB (Nat.mod_lt _ (rb_pp hR 24))) hX1 hY1⟩))
theorem i_vc_shift {k : Nat} {u : SX} {v : SY} (I : i_Rel k u v) (hk : k + 4 ≤ 2049) (v1 : Int32) (v2 : Int32) : wpX_shift (fun r u' => wpY_shift (fun r' v' => r' = r ∧ i_Rel (k + 4) u' v') v v1 v2) u v1 v2 := by
  obtain ⟨R, V, c, l, r, q, s, p, y, rfl, rfl, hR, hR2, hB, hX, hY⟩ := I
  rcases rb_reg v1 with g1 | ⟨a, ha, rfl⟩
  · exact xn_shift g1 (yn_shift g1 ⟨rfl, rb_rel _ hR hR2 hB hX hY⟩)
  · by_cases g1 : v2 < -24
    · exact xo_shift ha (Or.inl g1) (yo_shift ha (Or.inl g1) ⟨rfl, rb_rel _ hR hR2 hB hX hY⟩)
    · by_cases g2 : v2 ≤ 24
      · obtain ⟨n, n1, n2⟩ := rb_shN (v := V a) hR v2
        exact xx_shift hR hR2 hB hX ha g1 g2 n2 (fun c1 l1 r1 q1 s1 p1 hX1 => yy_shift hR hR2 hY ha g1 g2 n1 n2 (fun y1 hY1 => ⟨rfl, rb_rel _ hR hR2 (rb_Bs hB n1) hX1 hY1⟩))
      · exact xo_shift ha (Or.inr g2) (yo_shift ha (Or.inr g2) ⟨rfl, rb_rel _ hR hR2 hB hX hY⟩)
theorem i_vc_power {k : Nat} {u : SX} {v : SY} (I : i_Rel k u v) (hk : k + 4 ≤ 2049) (v1 : Int32) (v2 : Int32) : wpX_power (fun r u' => wpY_power (fun r' v' => r' = r ∧ i_Rel (k + 4) u' v') v v1 v2) u v1 v2 := by
  obtain ⟨R, V, c, l, r, q, s, p, y, rfl, rfl, hR, hR2, hB, hX, hY⟩ := I
  rcases rb_reg v1 with g1 | ⟨a, ha, rfl⟩
  · exact xn_power g1 (yn_power g1 ⟨rfl, rb_rel _ hR hR2 hB hX hY⟩)
  · rcases rb_ix101 v2 with g | ⟨n, hn, rfl⟩
    · exact xo_power ha g (yo_power ha g ⟨rfl, rb_rel _ hR hR2 hB hX hY⟩)
    · refine xx_power hR hR2 hB hX ha hn (fun z c1 l1 r1 q1 s1 p1 hX1 => ?_) (fun z c1 l1 r1 q1 s1 p1 hX1 => ?_)
      · exact yy_power hR hR2 hB hY ha hn (fun _ y1 hY1 => ⟨rfl, rb_rel _ hR hR2 (rb_Bs hB (z n (Nat.le_refl n))) hX1 hY1⟩) (fun ⟨j, j1, j2⟩ => absurd j2 (Nat.not_le.mpr (z j j1)))
      · obtain ⟨j, j1, j2⟩ := z
        exact yy_power hR hR2 hB hY ha hn (fun z2 => absurd j2 (Nat.not_le.mpr (z2 j j1))) (fun _ y1 hY1 => ⟨rfl, rb_rel _ hR hR2 hB hX1 hY1⟩)
theorem i_vc_digitIn {k : Nat} {u : SX} {v : SY} (I : i_Rel k u v) (hk : k + 4 ≤ 2049) (v1 : Int32) (v2 : Int32) (v3 : Int32) : wpX_digitIn (fun r u' => wpY_digitIn (fun r' v' => r' = r ∧ i_Rel (k + 4) u' v') v v1 v2 v3) u v1 v2 v3 := by
  obtain ⟨R, V, c, l, r, q, s, p, y, rfl, rfl, hR, hR2, hB, hX, hY⟩ := I
  rcases rb_reg v1 with g1 | ⟨a, ha, rfl⟩
  · exact xn_digitIn g1 (yn_digitIn g1 ⟨rfl, rb_rel _ hR hR2 hB hX hY⟩)
  · rcases rb_ixO v2 with g | ⟨o, ho, ho2, rfl⟩
    · exact xo_digitIn ha g (yo_digitIn ha g ⟨rfl, rb_rel _ hR hR2 hB hX hY⟩)
    · rcases rb_ix128 v3 with g | ⟨i, hi, rfl⟩
      · exact xp_digitIn ha ho ho2 g (yp_digitIn ha ho ho2 g ⟨rfl, rb_rel _ hR hR2 hB hX hY⟩)
      · exact xx_digitIn hR hR2 hB hX ha ho ho2 hi (fun c1 l1 r1 q1 s1 p1 hX1 => yy_digitIn hR hR2 hB hY ha ho ho2 hi (fun y1 hY1 => ⟨rfl, rb_rel _ hR hR2 hB hX1 hY1⟩))
theorem i_vc_lengthIn {k : Nat} {u : SX} {v : SY} (I : i_Rel k u v) (hk : k + 4 ≤ 2049) (v1 : Int32) (v2 : Int32) : wpX_lengthIn (fun r u' => wpY_lengthIn (fun r' v' => r' = r ∧ i_Rel (k + 4) u' v') v v1 v2) u v1 v2 := by
  obtain ⟨R, V, c, l, r, q, s, p, y, rfl, rfl, hR, hR2, hB, hX, hY⟩ := I
  rcases rb_reg v1 with g1 | ⟨a, ha, rfl⟩
  · exact xn_lengthIn g1 (yn_lengthIn g1 ⟨rfl, rb_rel _ hR hR2 hB hX hY⟩)
  · rcases rb_ixO v2 with g | ⟨o, ho, ho2, rfl⟩
    · exact xo_lengthIn ha g (yo_lengthIn ha g ⟨rfl, rb_rel _ hR hR2 hB hX hY⟩)
    · exact xx_lengthIn hR hR2 hB hX ha ho ho2 (fun n n1 n2 n3 c1 l1 r1 q1 s1 p1 hX1 => yy_lengthIn hR hR2 hB hY ha ho ho2 (fun m m1 m2 m3 y1 hY1 => ⟨congrArg nI (rb_liu m1 n1 m2 m3 n2 n3), rb_rel _ hR hR2 hB hX1 hY1⟩))
theorem i_vc_remainder {k : Nat} {u : SX} {v : SY} (I : i_Rel k u v) (hk : k + 4 ≤ 2049) (v1 : Int32) (v2 : Int32) : wpX_remainder (fun r => wpY_remainder (fun r' v' => r' = r ∧ i_Rel (k + 4) u v') v v1 v2) u v1 v2 := by
  obtain ⟨R, V, c, l, r, q, s, p, y, rfl, rfl, hR, hR2, hB, hX, hY⟩ := I
  rcases rb_reg v1 with g1 | ⟨a, ha, rfl⟩
  · exact xn_remainder g1 (yn_remainder g1 ⟨rfl, rb_rel _ hR hR2 hB hX hY⟩)
  · rcases rb_ixM v2 with g | ⟨m, hm, hm2, rfl⟩
    · exact xo_remainder ha g (yo_remainder ha g ⟨rfl, rb_rel _ hR hR2 hB hX hY⟩)
    · exact xx_remainder hR hR2 hB hX ha hm hm2 (yy_remainder hR hR2 hB hY ha hm hm2 (fun y1 hY1 => ⟨rfl, rb_rel _ hR hR2 hB hX hY1⟩))
theorem i_vc_divide {k : Nat} {u : SX} {v : SY} (I : i_Rel k u v) (hk : k + 4 ≤ 2049) (v1 : Int32) (v2 : Int32) (v3 : Int32) : wpX_divide (fun r u' => wpY_divide (fun r' v' => r' = r ∧ i_Rel (k + 4) u' v') v v1 v2 v3) u v1 v2 v3 := by
  obtain ⟨R, V, c, l, r, q, s, p, y, rfl, rfl, hR, hR2, hB, hX, hY⟩ := I
  rcases rb_reg v1 with g1 | ⟨d, hd, rfl⟩
  · exact xn_divide g1 (yn_divide g1 ⟨rfl, rb_rel _ hR hR2 hB hX hY⟩)
  · rcases rb_reg v2 with g2 | ⟨a, ha, rfl⟩
    · exact xm_divide hd g2 (ym_divide hd g2 ⟨rfl, rb_rel _ hR hR2 hB hX hY⟩)
    · rcases rb_reg v3 with g3 | ⟨b, hb, rfl⟩
      · exact xk_divide hd ha g3 (yk_divide hd ha g3 ⟨rfl, rb_rel _ hR hR2 hB hX hY⟩)
      · by_cases n1 : d = a
        · exact xe_divide hd ha hb (Or.inl n1) (ye_divide hd ha hb (Or.inl n1) ⟨rfl, rb_rel _ hR hR2 hB hX hY⟩)
        · by_cases n2 : d = b
          · exact xe_divide hd ha hb (Or.inr (Or.inl n2)) (ye_divide hd ha hb (Or.inr (Or.inl n2)) ⟨rfl, rb_rel _ hR hR2 hB hX hY⟩)
          · by_cases n3 : a = b
            · exact xe_divide hd ha hb (Or.inr (Or.inr n3)) (ye_divide hd ha hb (Or.inr (Or.inr n3)) ⟨rfl, rb_rel _ hR hR2 hB hX hY⟩)
            · refine xx_divide hR hR2 hB hX hd ha hb n1 n2 n3 (fun z c1 l1 r1 q1 s1 p1 hX1 => ?_) (fun z c1 l1 r1 q1 s1 p1 hX1 => ?_)
              · have b1 : V a / V b < R ^ 24 := Nat.lt_of_le_of_lt (Nat.div_le_self _ _) (hB a ha)
                have b2 : V a % V b < R ^ 24 := Nat.lt_of_le_of_lt (Nat.mod_le _ _) (hB a ha)
                exact yy_divide hR hR2 hB hY hd ha hb n1 n2 n3 (fun _ y1 hY1 => ⟨rfl, rb_rel _ hR hR2 (rb_Bs (rb_Bs hB b1) b2) hX1 hY1⟩) (fun z2 => absurd z2 z)
              · exact yy_divide hR hR2 hB hY hd ha hb n1 n2 n3 (fun z2 => absurd z z2) (fun _ y1 hY1 => ⟨rfl, rb_rel _ hR hR2 hB hX1 hY1⟩)
