theorem rb_y50 (t : Nat) : (50 : Int32) * nI t = nI (50 * t) := by
  rw [show (50 : Int32) = nI 50 from rfl, pk_mul]
/-! copyRow -/
theorem yl_copyRow {post : SY → Prop} {F : Int32} {a : Nat → Int32} {f t : Nat} (hf : f < 10) (ht : t < 10)
    (h : post (F, rb_ov a (50 * t) 0 50 (fun k => a (50 * f + k)))) :
    ∀ d i, i + d = 50 → wY_copyRow_2 post (nI f) (nI t) F (d + 1) (nI i) (rb_ov a (50 * t) 0 i (fun k => a (50 * f + k)))
  | 0, i, e => br_t (nI_le (a := 50) (by omega) (by omega)) (by
      have e2 : i = 50 := by omega
      subst e2
      exact h)
  | d + 1, i, e => br_f (nI_ge (b := 50) (by omega) (by decide))
      ⟨pk_in (50 * f + i) 500 (by omega) (rb_x50 f i), pk_in (50 * t + i) 500 (by omega) (rb_x50 t i),
        nm_r (rb_wu (rb_x50 t i) (by omega) (by rw [rb_ci (rb_x50 f i) (by omega), rb_ovO (by omega)]) (Nat.zero_le i))
          (nm_r (nI_1 i) (yl_copyRow hf ht h d (i + 1) (by omega)))⟩
theorem yy_copyRow {post : SY → Prop} {F : Int32} {a : Nat → Int32} {f t : Nat} (hf : f < 10) (ht : t < 10) {R v : Nat} (H : rb_H R a (50 * f) 50 v)
    (h : ∀ b, rb_H R b (50 * t) 50 v → rb_K t a b → post (F, b)) : wpY_copyRow post (F, a) (nI f) (nI t) := by
  have g : post (F, rb_ov a (50 * t) 0 50 (fun k => a (50 * f + k))) := h _ (rb_ovF (fun i hi => H i hi)) (rb_ovK (by omega))
  have w := yl_copyRow hf ht g 50 0 (by omega)
  rw [rb_ovE] at w
  exact ⟨_, w⟩
/-! setRow -/
theorem yl_setRow {post : SY → Prop} {F : Int32} {a : Nat → Int32} {t : Nat} {x : Int32} (ht : t < 10)
    (h : post (F, upd (rb_ov a (50 * t) 0 50 (fun _ => 0)) (50 * t) x)) :
    ∀ d i, i + d = 50 → wY_setRow_2 post (nI t) x F (d + 1) (nI i) (rb_ov a (50 * t) 0 i (fun _ => 0))
  | 0, i, e => br_t (nI_le (a := 50) (by omega) (by omega)) ⟨pk_in (50 * t) 500 (by omega) (rb_y50 t), nm_r (by
      have e2 : i = 50 := by omega
      subst e2
      rw [rb_y50, nI_clamp (by omega)]) h⟩
  | d + 1, i, e => br_f (nI_ge (b := 50) (by omega) (by decide))
      ⟨pk_in (50 * t + i) 500 (by omega) (rb_x50 t i),
        nm_r (rb_wu (rb_x50 t i) (by omega) rfl (Nat.zero_le i))
          (nm_r (nI_1 i) (yl_setRow ht h d (i + 1) (by omega)))⟩
theorem yy_setRow {post : SY → Prop} {F : Int32} {a : Nat → Int32} {t d : Nat} (ht : t < 10) {R : Nat} (hR : 2 ≤ R) (hd : d < R)
    (h : ∀ b, rb_H R b (50 * t) 50 d → rb_K t a b → post (F, b)) : wpY_setRow post (F, a) (nI t) (nI d) := by
  have g : post (F, upd (rb_ov a (50 * t) 0 50 (fun _ => 0)) (50 * t) (nI d)) := by
    refine h _ ?_ ?_
    · intro i hi
      cases i with
      | zero =>
        rw [Nat.add_zero, pk_us, rb_d0, Nat.mod_eq_of_lt hd]
      | succ i =>
        rw [pk_un (by omega), rb_ovI (Nat.zero_le _) hi, rb_hi (n := 1) hR (by rw [Nat.pow_one]; exact hd) (by omega)]
        rfl
    · exact rb_Kt (rb_ovK (by omega)) (rb_Ku (i := 0) (by omega))
  have w := yl_setRow (x := nI d) ht g 50 0 (by omega)
  rw [rb_ovE] at w
  exact ⟨_, w⟩
/-! order -/
theorem yl_order {post : Int32 → Prop} {F : Int32} {a : Nat → Int32} {r s R v w : Nat} (hr : r < 10) (hs : s < 10) (hR : 2 ≤ R) (hR2 : R ≤ 36)
    (Hv : rb_H R a (50 * r) 50 v) (Hw : rb_H R a (50 * s) 50 w) (h0 : v = w → post 0) (h1 : w < v → post 1) (h2 : v < w → post (-1)) :
    ∀ e, e ≤ 50 → v / R ^ e = w / R ^ e → wY_order_3 post (nI r) (nI s) F a (e + 1) (nI e + (-1))
  | 0, _, q => br_t (by rw [nI_0]; decide) (h0 (rb_o1 q))
  | e + 1, l, q => by
    rw [pk_m1]
    have b1 := rb_dgb hR hR2 v e
    have b2 := rb_dgb hR hR2 w e
    refine br_f (nI_pos (by omega)) ⟨pk_in (50 * r + e) 500 (by omega) (rb_x50 r e), nm_r (rb_rH Hv (by omega) (rb_x50 r e) (by omega))
      ⟨pk_in (50 * s + e) 500 (by omega) (rb_x50 s e), nm_r (rb_rH Hw (by omega) (rb_x50 s e) (by omega)) ?_⟩⟩
    refine pk_eq (rb_dg R v e) (rb_dg R w e) (fun c => nm_e (yl_order hr hs hR hR2 Hv Hw h0 h1 h2 e (by omega) (rb_oe q c))) (fun c => ?_)
    refine pk_le (rb_dg R w e) (rb_dg R v e) (fun c2 => h1 (rb_og q (by omega))) (fun c2 => h2 (rb_og q.symm (by omega)))
theorem yy_order {post : Int32 → Prop} {F : Int32} {a : Nat → Int32} {r s R v w : Nat} (hr : r < 10) (hs : s < 10) (hR : 2 ≤ R) (hR2 : R ≤ 36)
    (Hv : rb_H R a (50 * r) 50 v) (Hw : rb_H R a (50 * s) 50 w) (hv : v < R ^ 50) (hw : w < R ^ 50) (h0 : v = w → post 0) (h1 : w < v → post 1) (h2 : v < w → post (-1)) :
    wpY_order post (F, a) (nI r) (nI s) :=
  ⟨_, yl_order hr hs hR hR2 Hv Hw h0 h1 h2 50 (by omega) (rb_o0 hv hw)⟩
/-! tooLong, zero -/
theorem yl_tooLong {post : Int32 → Prop} {F : Int32} {a : Nat → Int32} {r R v : Nat} (hr : r < 10) (hR : 2 ≤ R) (hR2 : R ≤ 36) (Hv : rb_H R a (50 * r) 50 v) (hv : v < R ^ 50)
    (h0 : v < R ^ 24 → post 0) (h1 : R ^ 24 ≤ v → post 1) :
    ∀ d i, i + d = 50 → 24 ≤ i → (∀ k, 24 ≤ k → k < i → rb_dg R v k = 0) → wY_tooLong_3 post (nI r) F a (d + 1) (nI i)
  | 0, i, e, _, z => br_t (nI_le (a := 50) (by omega) (by omega)) (h0 (rb_top (m := 24) hR 26 hv (fun k k1 k2 => z k k1 (by omega))))
  | d + 1, i, e, l, z => br_f (nI_ge (b := 50) (by omega) (by decide))
      ⟨pk_in (50 * r + i) 500 (by omega) (rb_x50 r i), by
        have b1 := rb_dgb hR hR2 v i
        refine pk_eq (rb_dg R v i) 0 (fun c => nm_r (nI_1 i) (yl_tooLong hr hR hR2 Hv hv h0 h1 d (i + 1) (by omega) (by omega) ?_)) (fun c => h1 (rb_big hR l c)) (rb_rH Hv (by omega) (rb_x50 r i) (by omega))
        intro k k1 k2
        by_cases q : k = i
        · rw [q]
          exact c
        · exact z k k1 (by omega)⟩
theorem yy_tooLong {post : Int32 → Prop} {F : Int32} {a : Nat → Int32} {r R v : Nat} (hr : r < 10) (hR : 2 ≤ R) (hR2 : R ≤ 36) (Hv : rb_H R a (50 * r) 50 v) (hv : v < R ^ 50)
    (h0 : v < R ^ 24 → post 0) (h1 : R ^ 24 ≤ v → post 1) : wpY_tooLong post (F, a) (nI r) :=
  ⟨_, yl_tooLong hr hR hR2 Hv hv h0 h1 26 24 (by omega) (by omega) (fun k k1 k2 => absurd k2 (by omega))⟩
theorem yl_zero {post : Int32 → Prop} {F : Int32} {a : Nat → Int32} {r R v : Nat} (hr : r < 10) (hR : 2 ≤ R) (hR2 : R ≤ 36) (Hv : rb_H R a (50 * r) 50 v) (hv : v < R ^ 50)
    (h0 : v ≠ 0 → post 0) (h1 : v = 0 → post 1) :
    ∀ d i, i + d = 50 → (∀ k, k < i → rb_dg R v k = 0) → wY_zero_2 post (nI r) F a (d + 1) (nI i)
  | 0, i, e, z => br_t (nI_le (a := 50) (by omega) (by omega)) (h1 (rb_zero hR hv (fun k k1 => z k (by omega))))
  | d + 1, i, e, z => br_f (nI_ge (b := 50) (by omega) (by decide))
      ⟨pk_in (50 * r + i) 500 (by omega) (rb_x50 r i), by
        have b1 := rb_dgb hR hR2 v i
        refine pk_eq (rb_dg R v i) 0 (fun c => nm_r (nI_1 i) (yl_zero hr hR hR2 Hv hv h0 h1 d (i + 1) (by omega) ?_)) (fun c => h0 (rb_ne c)) (rb_rH Hv (by omega) (rb_x50 r i) (by omega))
        intro k k1
        by_cases q : k = i
        · rw [q]
          exact c
        · exact z k (by omega)⟩
theorem yy_zero {post : Int32 → Prop} {F : Int32} {a : Nat → Int32} {r R v : Nat} (hr : r < 10) (hR : 2 ≤ R) (hR2 : R ≤ 36) (Hv : rb_H R a (50 * r) 50 v) (hv : v < R ^ 50)
    (h0 : v ≠ 0 → post 0) (h1 : v = 0 → post 1) : wpY_zero post (F, a) (nI r) :=
  ⟨_, yl_zero hr hR hR2 Hv hv h0 h1 50 0 (by omega) (fun k k1 => absurd k1 (by omega))⟩
/-! addRow, takeRow -/
theorem yl_addRow {post : SY → Prop} {a : Nat → Int32} {r s R v w : Nat} (hr : r < 10) (hs : s < 10) (hrs : s ≠ r) (hR : 2 ≤ R) (hR2 : R ≤ 36)
    (Hv : rb_H R a (50 * r) 50 v) (Hw : rb_H R a (50 * s) 50 w) (h : post (nI R, rb_ov a (50 * r) 0 50 (fun k => nI (rb_dg R (v + w) k)))) :
    ∀ d i, i + d = 50 → wY_addRow_5 post (nI r) (nI s) (nI R) (d + 1) (nI (rb_ca R v w i)) (nI i) (rb_ov a (50 * r) 0 i (fun k => nI (rb_dg R (v + w) k)))
  | 0, i, e => br_t (nI_le (a := 50) (by omega) (by omega)) (by
      have e2 : i = 50 := by omega
      subst e2
      exact h)
  | d + 1, i, e => by
    have b1 := rb_lt hR v i
    have b2 := rb_lt hR w i
    have b3 := rb_ca1 hR v w i
    have hc := rb_cse (rb_cal hR v w i) (rb_lt hR (v + w) i) (rb_ca1 hR v w (i + 1))
    have r1 : rb_ov a (50 * r) 0 i (fun k => nI (rb_dg R (v + w) k)) (50 * nI r + nI i).toNatClampNeg = nI (rb_dg R v i) := by
      rw [rb_ci (rb_x50 r i) (by omega)]
      exact rb_ovH Hv (by omega) (by omega)
    have r2 : rb_ov a (50 * r) 0 i (fun k => nI (rb_dg R (v + w) k)) (50 * nI s + nI i).toNatClampNeg = nI (rb_dg R w i) := by
      rw [rb_ci (rb_x50 s i) (by omega)]
      exact rb_ovH Hw (by omega) (by omega)
    refine br_f (nI_ge (b := 50) (by omega) (by decide)) ⟨pk_in (50 * r + i) 500 (by omega) (rb_x50 r i), pk_in (50 * s + i) 500 (by omega) (rb_x50 s i), nm_r (e' := nI (rb_dg R v i + rb_dg R w i + rb_ca R v w i)) (by rw [r1, r2, nI_add, nI_add]) ?_⟩
    have ih := yl_addRow hr hs hrs hR hR2 Hv Hw h d (i + 1) (by omega)
    refine pk_lt (rb_dg R v i + rb_dg R w i + rb_ca R v w i) R (fun c => ?_) (fun c => ?_)
    · obtain ⟨c1, c2⟩ := hc.1 c
      rw [c1] at ih
      exact ⟨pk_in (50 * r + i) 500 (by omega) (rb_x50 r i), nm_r (rb_wu (rb_x50 r i) (by omega) (by rw [rb_a0, c2]) (Nat.zero_le i)) (nm_r (nI_1 i) ih)⟩
    · obtain ⟨c1, c2⟩ := hc.2 c
      rw [c1] at ih
      exact ⟨pk_in (50 * r + i) 500 (by omega) (rb_x50 r i), nm_r (rb_wu (rb_x50 r i) (by omega) (by rw [rb_a1 c, c2]) (Nat.zero_le i)) (nm_r (nI_1 i) ih)⟩
theorem yy_addRow {post : SY → Prop} {a : Nat → Int32} {r s R v w : Nat} (hr : r < 10) (hs : s < 10) (hrs : s ≠ r) (hR : 2 ≤ R) (hR2 : R ≤ 36)
    (Hv : rb_H R a (50 * r) 50 v) (Hw : rb_H R a (50 * s) 50 w) (h : ∀ b, rb_H R b (50 * r) 50 (v + w) → rb_K r a b → post (nI R, b)) : wpY_addRow post (nI R, a) (nI r) (nI s) := by
  have g : post (nI R, rb_ov a (50 * r) 0 50 (fun k => nI (rb_dg R (v + w) k))) := h _ (rb_ovF (fun i hi => rfl)) (rb_ovK (by omega))
  have w := yl_addRow hr hs hrs hR hR2 Hv Hw g 50 0 (by omega)
  rw [rb_ovE, rb_ca0] at w
  exact ⟨_, w⟩
theorem rb_tk {u w b b' v R : Nat} (h : u + w + b = b' * R + v) (hu : u < R) (hb : b' ≤ 1) (hv : v < R) : (v < w + b → b' = 1 ∧ v + R - (w + b) = u) ∧ (w + b ≤ v → b' = 0 ∧ v - (w + b) = u) := by
  rcases Nat.le_one_iff_eq_zero_or_eq_one.mp hb with e | e
  · subst e
    rw [Nat.zero_mul, Nat.zero_add] at h
    omega
  · subst e
    rw [Nat.one_mul] at h
    omega
theorem yl_takeRow {post : SY → Prop} {a : Nat → Int32} {r s R u w : Nat} (hr : r < 10) (hs : s < 10) (hrs : s ≠ r) (hR : 2 ≤ R) (hR2 : R ≤ 36)
    (Hv : rb_H R a (50 * r) 50 (u + w)) (Hw : rb_H R a (50 * s) 50 w) (h : post (nI R, rb_ov a (50 * r) 0 50 (fun k => nI (rb_dg R u k)))) :
    ∀ d i, i + d = 50 → wY_takeRow_5 post (nI r) (nI s) (nI R) (d + 1) (nI (rb_ca R u w i)) (nI i) (rb_ov a (50 * r) 0 i (fun k => nI (rb_dg R u k)))
  | 0, i, e => br_t (nI_le (a := 50) (by omega) (by omega)) (by
      have e2 : i = 50 := by omega
      subst e2
      exact h)
  | d + 1, i, e => by
    have b1 := rb_lt hR (u + w) i
    have b2 := rb_lt hR w i
    have b3 := rb_ca1 hR u w i
    have hc := rb_tk (rb_cal hR u w i) (rb_lt hR u i) (rb_ca1 hR u w (i + 1)) (rb_lt hR (u + w) i)
    have r1 : rb_ov a (50 * r) 0 i (fun k => nI (rb_dg R u k)) (50 * nI r + nI i).toNatClampNeg = nI (rb_dg R (u + w) i) := by
      rw [rb_ci (rb_x50 r i) (by omega)]
      exact rb_ovH Hv (by omega) (by omega)
    have r2 : rb_ov a (50 * r) 0 i (fun k => nI (rb_dg R u k)) (50 * nI s + nI i).toNatClampNeg = nI (rb_dg R w i) := by
      rw [rb_ci (rb_x50 s i) (by omega)]
      exact rb_ovH Hw (by omega) (by omega)
    refine br_f (nI_ge (b := 50) (by omega) (by decide)) ⟨pk_in (50 * r + i) 500 (by omega) (rb_x50 r i), pk_in (50 * s + i) 500 (by omega) (rb_x50 s i), nm_r (e' := nI (rb_dg R (u + w) i) - nI (rb_dg R w i) - nI (rb_ca R u w i)) (by rw [r1, r2]) ?_⟩
    have ih := yl_takeRow hr hs hrs hR hR2 Hv Hw h d (i + 1) (by omega)
    by_cases c : rb_dg R (u + w) i < rb_dg R w i + rb_ca R u w i
    · obtain ⟨c1, c2⟩ := hc.1 c
      rw [c1] at ih
      refine br_f (Int32.not_le.mpr (rb_sn c (by omega))) (⟨pk_in (50 * r + i) 500 (by omega) (rb_x50 r i), nm_r (rb_wu (rb_x50 r i) (by omega) (by rw [rb_s1 (by omega), c2]) (Nat.zero_le i)) (nm_r (nI_1 i) ih)⟩)
    · obtain ⟨c1, c2⟩ := hc.2 (by omega)
      rw [c1] at ih
      refine br_t (by rw [rb_s0 (by omega)]; exact nI_pos' (by omega)) (⟨pk_in (50 * r + i) 500 (by omega) (rb_x50 r i), nm_r (rb_wu (rb_x50 r i) (by omega) (by rw [rb_s2 (by omega), c2]) (Nat.zero_le i)) (nm_r (nI_1 i) ih)⟩)
theorem yy_takeRow {post : SY → Prop} {a : Nat → Int32} {r s R v w : Nat} (hr : r < 10) (hs : s < 10) (hrs : s ≠ r) (hR : 2 ≤ R) (hR2 : R ≤ 36)
    (Hv : rb_H R a (50 * r) 50 v) (Hw : rb_H R a (50 * s) 50 w) (hl : w ≤ v) (h : ∀ b, rb_H R b (50 * r) 50 (v - w) → rb_K r a b → post (nI R, b)) : wpY_takeRow post (nI R, a) (nI r) (nI s) := by
  obtain ⟨u, rfl⟩ : ∃ u, v = u + w := ⟨v - w, by omega⟩
  rw [Nat.add_sub_cancel] at h
  have g : post (nI R, rb_ov a (50 * r) 0 50 (fun k => nI (rb_dg R u k))) := h _ (rb_ovF (fun i hi => rfl)) (rb_ovK (by omega))
  have w := yl_takeRow hr hs hrs hR hR2 Hv Hw g 50 0 (by omega)
  rw [rb_ovE, rb_ca0] at w
  exact ⟨_, w⟩
/-! feedRow: from place 49 down to 1 -/
theorem yl_feedRow {post : SY → Prop} {F : Int32} {a : Nat → Int32} {r : Nat} {x : Int32} (hr : r < 10)
    (h : post (F, upd (rb_ov a (50 * r) 1 50 (fun k => a (50 * r + (k - 1)))) (50 * r) x)) :
    ∀ e, e < 50 → wY_feedRow_3 post (nI r) x F (e + 1) (nI e) (rb_ov a (50 * r) (e + 1) 50 (fun k => a (50 * r + (k - 1))))
  | 0, _ => br_t (by rw [nI_0]; decide) ⟨pk_in (50 * r) 500 (by omega) (rb_y50 r), nm_r (by rw [rb_y50, nI_clamp (by omega)]) h⟩
  | e + 1, l => by
    have x1 : (50 : Int32) * nI r + nI (e + 1) - 1 = nI (50 * r + e) := by
      rw [rb_x50, ← Nat.add_assoc, nI_pred]
    refine br_f (nI_nle (by omega) (by omega)) ⟨pk_in (50 * r + e) 500 (by omega) x1, pk_in (50 * r + (e + 1)) 500 (by omega) (rb_x50 r (e + 1)),
      nm_r (rb_wd (rb_x50 r (e + 1)) (by omega) ?_ l) (nm_r (pk_m1 e) (yl_feedRow hr h e (by omega)))⟩
    exact (rb_rd x1 (by omega)).trans ((rb_ovO (by omega)).trans (congrArg a (by omega)))
theorem yy_feedRow {post : SY → Prop} {F : Int32} {a : Nat → Int32} {r d R v : Nat} (hr : r < 10) (hR : 2 ≤ R) (hd : d < R) (Hv : rb_H R a (50 * r) 50 v)
    (h : ∀ b, rb_H R b (50 * r) 50 (v * R + d) → rb_K r a b → post (F, b)) : wpY_feedRow post (F, a) (nI r) (nI d) := by
  have g : post (F, upd (rb_ov a (50 * r) 1 50 (fun k => a (50 * r + (k - 1)))) (50 * r) (nI d)) := by
    refine h _ ?_ ?_
    · intro i hi
      cases i with
      | zero => rw [Nat.add_zero, pk_us, rb_pl v d hd]
      | succ i =>
        rw [pk_un (by omega), rb_ovI (by omega) hi, rb_ph hR v d i hd, Nat.add_sub_cancel]
        exact Hv i (by omega)
    · exact rb_Kt (rb_ovK (by omega)) (rb_Ku (i := 0) (by omega))
  have w := yl_feedRow (x := nI d) hr g 49 (by omega)
  rw [rb_ovE] at w
  exact ⟨_, w⟩
/-! multiplyRow -/
theorem yl_mulIn {post : SY → Prop} {J : Int32 → (Nat → Int32) → Prop} {b : Nat → Int32} {t r s R v w i : Nat} (ht : t < 10) (hr : r < 10) (hs : s < 10) (htr : r ≠ t) (hts : s ≠ t) (hR : 2 ≤ R) (hR2 : R ≤ 36)
    (hw : w < R ^ 24) (hi : i < 24) (HT : rb_H R b (50 * t) 50 (v % R ^ i * w)) (Hr : rb_H R b (50 * r) 24 v) (Hs : rb_H R b (50 * s) 24 w)
    (hJ : ∀ b', rb_H R b' (50 * t) 50 (v % R ^ (i + 1) * w) → rb_K t b b' → J (nI (i + 1)) b') :
    ∀ d j, j + d = 26 → wY_multiplyRow_40 post J (nI t) (nI r) (nI s) (nI R) (nI i) (nI R) (d + 1) (nI (rb_cs R (rb_mc R (v % R ^ i * w) (rb_dg R v i) w i) j / R ^ j)) (nI j) (rb_ov b (50 * t) i (i + j) (fun k => nI (rb_dg R (v % R ^ (i + 1) * w) k)))
  | 0, j, e => br_t (nI_le (a := 26) (by omega) (by omega)) (nm_r (nI_1 i) (by
      have e2 : j = 26 := by omega
      subst e2
      refine hJ _ ?_ (rb_ovK (by omega))
      intro k hk
      by_cases c : i ≤ k ∧ k < i + 26
      · exact rb_ovI c.1 c.2
      · rw [rb_ovO (by omega), HT k hk]
        by_cases c2 : k < i
        · rw [rb_mlo hR v w c2]
        · rw [rb_mhi hR v hw (by omega)]))
  | d + 1, j, e => by
    have b1 := rb_mcb hR hR2 (v % R ^ i * w) v w i i j
    have b2 := rb_ccb (B := 1260) hR (rb_mc R (v % R ^ i * w) (rb_dg R v i) w i) j (fun k _ => rb_mcb hR hR2 _ v w i i k)
    have ih := yl_mulIn (post := post) ht hr hs htr hts hR hR2 hw hi HT Hr Hs hJ d (j + 1) (by omega)
    rw [rb_cc hR] at ih
    have m1 := rb_mmid hR v (i := i) hw (by omega : j < 26)
    have x1 : (50 : Int32) * nI t + nI i + nI j = nI (50 * t + (i + j)) := by
      rw [rb_x50, nI_add, Nat.add_assoc]
    have r1 : rb_ov b (50 * t) i (i + j) (fun k => nI (rb_dg R (v % R ^ (i + 1) * w) k)) (50 * nI t + nI i + nI j).toNatClampNeg = nI (rb_dg R (v % R ^ i * w) (i + j)) := by
      rw [rb_ci x1 (by omega)]
      exact rb_ovH HT (by omega) (by omega)
    have r2 : rb_ov b (50 * t) i (i + j) (fun k => nI (rb_dg R (v % R ^ (i + 1) * w) k)) (50 * nI r + nI i).toNatClampNeg = nI (rb_dg R v i) := by
      rw [rb_ci (rb_x50 r i) (by omega)]
      exact rb_ovH Hr (by omega) (by omega)
    have fin : wY_multiplyRow_70 post J (wY_multiplyRow_40 post J (nI t) (nI r) (nI s) (nI R) (nI i) (nI R) (d + 1)) (nI t) (nI r) (nI s) (nI R) (nI i) (nI (rb_cs R (rb_mc R (v % R ^ i * w) (rb_dg R v i) w i) j / R ^ j)) (nI j) (nI (rb_dg R w j)) (nI R) (rb_ov b (50 * t) i (i + j) (fun k => nI (rb_dg R (v % R ^ (i + 1) * w) k))) := by
      refine ⟨pk_in (50 * t + (i + j)) 500 (by omega) x1, pk_in (50 * r + i) 500 (by omega) (rb_x50 r i), nm_r (e' := nI (rb_mc R (v % R ^ i * w) (rb_dg R v i) w i j + rb_cs R (rb_mc R (v % R ^ i * w) (rb_dg R v i) w i) j / R ^ j)) (by rw [r1, r2, pk_mul, nI_add, nI_add]; rfl) ?_⟩
      refine ⟨nI_ne0 (by omega) (by omega), pk_in (50 * t + (i + j)) 500 (by omega) x1, nm_r (rb_wu x1 (by omega) (by rw [pk_rem (by omega) (by omega) (by omega), ← m1]) (by omega)) ⟨nI_ne0 (by omega) (by omega), nm_r (pk_div (by omega) (by omega) (by omega)) (nm_r (nI_1 j) ih)⟩⟩
    refine br_f (nI_ge (b := 26) (by omega) (by decide)) ?_
    by_cases c : j < 24
    · refine br_f (nI_ge (b := 24) c (by decide)) ⟨pk_in (50 * s + j) 500 (by omega) (rb_x50 s j), ?_⟩
      have r3 : rb_ov b (50 * t) i (i + j) (fun k => nI (rb_dg R (v % R ^ (i + 1) * w) k)) (50 * nI s + nI j).toNatClampNeg = nI (rb_dg R w j) := by
        rw [rb_ci (rb_x50 s j) (by omega)]
        exact rb_ovH Hs c (by omega)
      rw [r3]
      exact fin
    · refine br_t (nI_le (a := 24) (by omega) (by omega)) ?_
      rw [rb_hi hR hw (by omega)] at fin
      exact fin
theorem yl_mulOut {post : SY → Prop} {a : Nat → Int32} {t r s R v w : Nat} (ht : t < 10) (hr : r < 10) (hs : s < 10) (htr : r ≠ t) (hts : s ≠ t) (hR : 2 ≤ R) (hR2 : R ≤ 36)
    (hv : v < R ^ 24) (hw : w < R ^ 24) (Hr : rb_H R a (50 * r) 24 v) (Hs : rb_H R a (50 * s) 24 w)
    (h : ∀ b, rb_H R b (50 * t) 50 (v * w) → rb_K t a b → post (nI R, b)) :
    ∀ d i b, i + d = 24 → rb_H R b (50 * t) 50 (v % R ^ i * w) → rb_K t a b → wY_multiplyRow_27 post (nI t) (nI r) (nI s) (nI R) (nI R) (d + 1) (nI i) b
  | 0, i, b, e, H, k => br_t (nI_le (a := 24) (by omega) (by omega)) (by
      have e2 : i = 24 := by omega
      subst e2
      rw [Nat.mod_eq_of_lt hv] at H
      exact h b H k)
  | d + 1, i, b, e, H, k => by
    refine br_f (nI_ge (b := 24) (by omega) (by decide)) ⟨27, ?_⟩
    have w1 := yl_mulIn (post := post) (J := wY_multiplyRow_27 post (nI t) (nI r) (nI s) (nI R) (nI R) (d + 1)) ht hr hs htr hts hR hR2 hw (by omega : i < 24) H (rb_KH k htr (by omega) Hr) (rb_KH k hts (by omega) Hs)
      (fun b' H' k' => yl_mulOut ht hr hs htr hts hR hR2 hv hw Hr Hs h d (i + 1) b' (by omega) H' (rb_Kt k k')) 26 0 (by omega)
    rw [Nat.add_zero i, rb_ovE] at w1
    have z : rb_cs R (rb_mc R (v % R ^ i * w) (rb_dg R v i) w i) 0 / R ^ 0 = 0 := Nat.zero_div _
    rw [z] at w1
    exact w1
theorem yy_multiplyRow {post : SY → Prop} {a : Nat → Int32} {t r s R v w : Nat} (ht : t < 10) (hr : r < 10) (hs : s < 10) (htr : r ≠ t) (hts : s ≠ t) (hR : 2 ≤ R) (hR2 : R ≤ 36)
    (hv : v < R ^ 24) (hw : w < R ^ 24) (Hr : rb_H R a (50 * r) 24 v) (Hs : rb_H R a (50 * s) 24 w)
    (h : ∀ b, rb_H R b (50 * t) 50 (v * w) → rb_K t a b → post (nI R, b)) : wpY_multiplyRow post (nI R, a) (nI t) (nI r) (nI s) := by
  refine br_t (nI_le (a := 2) hR (by omega)) (yy_setRow (R := R) (d := 0) ht hR (by omega) (fun b H k => ⟨25, ?_⟩))
  refine yl_mulOut ht hr hs htr hts hR hR2 hv hw (rb_KH k htr (by omega) Hr) (rb_KH k hts (by omega) Hs) (fun b' H' k' => h b' H' (rb_Kt k k')) 24 0 b (by omega) ?_ (rb_Kr _ _)
  rw [Nat.pow_zero, Nat.mod_one, Nat.zero_mul]
  exact H
/-! cut -/
theorem yl_cut {post : Int32 → SY → Prop} {a : Nat → Int32} {R v m : Nat} (hR : 2 ≤ R) (hR2 : R ≤ 36) (hm : 0 < m) (hm2 : m ≤ 1000000) (H : rb_H R a 250 24 v)
    (h : post (nI (v % m)) (nI R, rb_ov a 250 0 24 (fun k => nI (rb_dg R (v / m) k)))) :
    ∀ e, e ≤ 24 → wY_cut_17 post (nI m) (nI R) (e + 1) (nI (v / R ^ e % m)) (nI e + (-1)) (rb_ov a 250 e 24 (fun k => nI (rb_dg R (v / m) k)))
  | 0, _ => br_t (by rw [nI_0]; decide) (by rw [Nat.pow_zero, Nat.div_one]; exact h)
  | e + 1, l => by
    rw [pk_m1]
    have b1 := rb_lt hR v e
    have b2 := Nat.mod_lt (v / R ^ (e + 1)) hm
    have b3 := rb_ldb hR hm v e
    have b4 : m * R ≤ 1000000 * 36 := Nat.mul_le_mul hm2 hR2
    have x1 : (250 : Int32) + nI e = nI (250 + e) := by rw [show (250 : Int32) = nI 250 from rfl, nI_add]
    have ih := yl_cut hR hR2 hm hm2 H h e (by omega)
    rw [← rb_ldr hm] at ih
    have q := rb_ldq hR hm v e
    have r1 : rb_ov a 250 (e + 1) 24 (fun k => nI (rb_dg R (v / m) k)) (250 + nI e).toNatClampNeg = nI (rb_dg R v e) := by
      rw [rb_ci x1 (by omega)]
      exact rb_ovH H (by omega) (by omega)
    exact br_f (nI_pos (by omega)) ⟨pk_in (250 + e) 500 (by omega) x1, nm_r (e' := nI (v / R ^ (e + 1) % m * R + rb_dg R v e)) (by rw [r1, pk_mul, nI_add])
      ⟨nI_ne0 hm (by omega), pk_in (250 + e) 500 (by omega) x1, nm_r (rb_wd x1 (by omega) (by rw [pk_div (by omega) hm (by omega), q]) (by omega)) ⟨nI_ne0 hm (by omega), nm_r (pk_rem (by omega) hm (by omega)) (nm_e ih)⟩⟩⟩
