theorem rb_shN {R v : Nat} (hR : 2 ≤ R) (p : Int32) : ∃ n, n < R ^ 24 ∧ ∀ k, k < 24 → rb_dg R n k = rb_sE p (rb_dg R v) 24 k :=
  rb_mk hR (rb_sE p (rb_dg R v) 24) 24 (fun i _ => rb_sEl hR (rb_lt hR v) 24 i)
theorem xl_shift {post : Int32 → SX → Prop} {c l q s p : Nat → Int32} {R v n a : Nat} {V : Nat → Nat} {x : Int32} (hR : 2 ≤ R) (hR2 : R ≤ 36) (hX : rb_X R V c) (ha : a < 4) (Hl : rb_H R l 0 25 v) (hn : ∀ k, k < 24 → rb_dg R n k = rb_sE x (rb_dg R v) 24 k)
    (h : rb_PX R (rb_up V a n) (post (nI (rb_sL x (rb_dg R v) 24)))) :
    ∀ d i r, i + d = 24 → (∀ k, k < 24 → r k = nI (rb_sE x (rb_dg R v) i k)) → wX_shift_45 post (nI a) x (nI R) (d + 1) (nI (rb_sL x (rb_dg R v) i)) (nI i) c l r q s p
  | 0, i, r, e, hr => br_t (nI_le (a := 24) (by omega) (by omega)) (by
      have e2 : i = 24 := by omega
      subst e2
      refine xx_store_right ha (v := n) (rb_H0i (fun k hk => by rw [hr k hk, hn k hk])) (fun c1 H1 K => h _ _ _ _ _ _ (rb_Xs hX H1 K)))
  | d + 1, i, r, e, hr => by
    have b1 := rb_dgb hR hR2 v i
    have r1 : l (nI i).toNatClampNeg = nI (rb_dg R v i) := rb_rH0 Hl (by omega) rfl (by omega)
    have b2 := rb_sLl (p := x) (d := rb_dg R v) i
    refine br_f (nI_ge (b := 24) (by omega) (by decide)) (nm_e ?_)
    rcases rb_tgt x i with g | g
    · obtain ⟨t, ht, et⟩ := rb_tin g
      refine xx_placeI g (br_f (by decide) ⟨pk_in i 25 (by omega), pk_in t 25 (by omega) et, nm_r (e' := upd r t (nI (rb_dg R v i))) (by rw [et, nI_clamp (by omega), r1]) (nm_r (nI_1 i) ?_)⟩)
      have ih := xl_shift (q := q) (s := s) (p := p) hR hR2 hX ha Hl hn h d (i + 1) (upd r t (nI (rb_dg R v i))) (by omega) (fun k hk => ?_)
      · rw [rb_sLin (Or.inl g)] at ih
        exact ih
      · rw [rb_sEin ht hk et]
        by_cases e9 : k = t
        · rw [e9, pk_us, if_pos rfl]
        · rw [pk_un e9, if_neg e9, hr k hk]
    · have hr2 : ∀ k, k < 24 → r k = nI (rb_sE x (rb_dg R v) (i + 1) k) := fun k hk => by rw [rb_sEout hk g, hr k hk]
      have ih := xl_shift (q := q) (s := s) (p := p) hR hR2 hX ha Hl hn h d (i + 1) r (by omega) hr2
      refine xx_placeO g (br_t rfl ⟨pk_in i 25 (by omega), pk_eq (rb_dg R v i) 0 (fun z => nm_r (nI_1 i) ?_) (fun z => nm_r (nI_1 _) (nm_r (nI_1 i) ?_)) r1⟩)
      · rw [rb_sLin (Or.inr z)] at ih
        exact ih
      · rw [rb_sLout g z] at ih
        exact ih
theorem xx_shift {post : Int32 → SX → Prop} {c l r q s p : Nat → Int32} {R n a : Nat} {V : Nat → Nat} {x : Int32} (hR : 2 ≤ R) (hR2 : R ≤ 36) (hB : rb_B R V) (hX : rb_X R V c) (ha : a < 4) (h1 : ¬ x < -24) (h2 : x ≤ 24) (hn : ∀ k, k < 24 → rb_dg R n k = rb_sE x (rb_dg R (V a)) 24 k)
    (h : rb_PX R (rb_up V a n) (post (nI (rb_sL x (rb_dg R (V a)) 24)))) : wpX_shift post (nI R, c, l, r, q, s, p) (nI a) x := by
  unfold wpX_shift
  dsimp only
  refine xx_reg ha (br_f (by decide) (br_f h1 (br_t h2 ?_)))
  refine xx_load_left ha hR (hX a ha) (hB a ha) (fun l1 Hl => ?_)
  refine xx_clear_right (R := R) (fun r1 H1 => ⟨25, ?_⟩)
  exact xl_shift hR hR2 hX ha Hl hn h 24 0 r1 (by omega) (fun k hk => by rw [rb_H0 H1 (by omega), rb_z]; rfl)
theorem yl_shift {post : Int32 → SY → Prop} {R v n a : Nat} {V : Nat → Nat} {x : Int32} (hR : 2 ≤ R) (hR2 : R ≤ 36) (ha : a < 4) (hn0 : n < R ^ 24) (hn : ∀ k, k < 24 → rb_dg R n k = rb_sE x (rb_dg R v) 24 k)
    (h : rb_PY R (rb_up V a n) (post (nI (rb_sL x (rb_dg R v) 24)))) :
    ∀ d i y, i + d = 24 → (∀ k, k < 24 → y (50 * a + k) = nI (rb_sE x (rb_dg R v) i k)) → (∀ k, 24 ≤ k → k < 50 → y (50 * a + k) = 0) → rb_H R y (50 * 4) 50 v → (∀ r, r < 4 → r ≠ a → rb_H R y (50 * r) 50 (V r)) → wY_shift_42 post (nI a) x (nI R) (d + 1) (nI (rb_sL x (rb_dg R v) i)) (nI i) y
  | 0, i, y, e, h1, h2, h3, h4 => br_t (nI_le (a := 24) (by omega) (by omega)) (by
      have e2 : i = 24 := by omega
      subst e2
      refine h _ (fun r hr => ?_)
      by_cases e9 : r = a
      · rw [e9, rb_upS]
        exact rb_HX (n := 24) hR (fun k hk => by rw [h1 k hk, hn k hk]) hn0 h2
      · rw [rb_upN e9]
        exact h4 r hr e9)
  | d + 1, i, y, e, h1, h2, h3, h4 => by
    have b1 := rb_dgb hR hR2 v i
    have x1 : (200 : Int32) + nI i = nI (50 * 4 + i) := by rw [show (200 : Int32) = nI 200 from rfl, nI_add]
    have r1 : y (200 + nI i).toNatClampNeg = nI (rb_dg R v i) := rb_rH h3 (by omega) x1 (by omega)
    have b2 := rb_sLl (p := x) (d := rb_dg R v) i
    refine br_f (nI_ge (b := 24) (by omega) (by decide)) (nm_e ?_)
    rcases rb_tgt x i with g | g
    · obtain ⟨t, ht, et⟩ := rb_tin g
      have z1 : (50 : Int32) * nI a + (nI i + x) = nI (50 * a + t) := by rw [et, rb_x50]
      refine br_f (Int32.not_lt.mpr g.1) (br_f (Int32.not_le.mpr g.2) ⟨pk_in (50 * 4 + i) 500 (by omega) x1, pk_in (50 * a + t) 500 (by omega) z1, nm_r (e' := upd y (50 * a + t) (nI (rb_dg R v i))) (by rw [z1, nI_clamp (by omega), r1]) (nm_r (nI_1 i) ?_)⟩)
      have ih := yl_shift hR hR2 ha hn0 hn h d (i + 1) (upd y (50 * a + t) (nI (rb_dg R v i))) (by omega) (fun k hk => ?_) (fun k k1 k2 => by rw [pk_un (by omega), h2 k k1 k2]) (rb_KH (rb_Ku (t := a) (by omega)) (by omega) (by omega) h3) (fun r hr hra => rb_KH (rb_Ku (t := a) (by omega)) hra (by omega) (h4 r hr hra))
      · rw [rb_sLin (Or.inl g)] at ih
        exact ih
      · rw [rb_sEin ht hk et]
        by_cases e9 : k = t
        · rw [e9, pk_us, if_pos rfl]
        · rw [pk_un (by omega), if_neg e9, h1 k hk]
    · have hr2 : ∀ k, k < 24 → y (50 * a + k) = nI (rb_sE x (rb_dg R v) (i + 1) k) := fun k hk => by rw [rb_sEout hk g, h1 k hk]
      have ih := yl_shift hR hR2 ha hn0 hn h d (i + 1) y (by omega) hr2 h2 h3 h4
      have fin : wY_shift_93 post (wY_shift_42 post (nI a) x (nI R) (d + 1)) (nI a) x (nI (rb_sL x (rb_dg R v) i)) (nI i) (nI R) y := by
        refine ⟨pk_in (50 * 4 + i) 500 (by omega) x1, pk_eq (rb_dg R v i) 0 (fun z => nm_r (nI_1 i) ?_) (fun z => nm_r (nI_1 _) (nm_r (nI_1 i) ?_)) r1⟩
        · rw [rb_sLin (Or.inr z)] at ih
          exact ih
        · rw [rb_sLout g z] at ih
          exact ih
      by_cases z : nI i + x < 0
      · exact br_t z fin
      · exact br_f z (br_t (Int32.not_lt.mp (fun w => g ⟨Int32.not_lt.mp z, w⟩)) fin)
theorem yy_shift {post : Int32 → SY → Prop} {y : Nat → Int32} {R n a : Nat} {V : Nat → Nat} {x : Int32} (hR : 2 ≤ R) (hR2 : R ≤ 36) (hY : rb_Y R V y) (ha : a < 4) (h1 : ¬ x < -24) (h2 : x ≤ 24) (hn0 : n < R ^ 24) (hn : ∀ k, k < 24 → rb_dg R n k = rb_sE x (rb_dg R (V a)) 24 k)
    (h : rb_PY R (rb_up V a n) (post (nI (rb_sL x (rb_dg R (V a)) 24)))) : wpY_shift post (nI R, y) (nI a) x := by
  unfold wpY_shift
  dsimp only
  refine yy_ok ha (br_t rfl (br_f h1 (br_t h2 ?_)))
  refine yy_copyRow (f := a) (t := 4) (by omega) (by omega) (hY a ha) (fun y1 H1 K1 => ?_)
  refine yy_setRow (R := R) (t := a) (d := 0) (by omega) hR (by omega) (fun y2 H2 K2 => ⟨25, ?_⟩)
  exact yl_shift hR hR2 ha hn0 hn h 24 0 y2 (by omega) (fun k hk => by rw [H2 k (by omega), rb_z]; rfl) (fun k k1 k2 => by rw [H2 k k2, rb_z]; rfl) (rb_KH K2 (by omega) (by omega) H1) (fun r hr hra => rb_KH K2 hra (by omega) (rb_KH K1 (by omega) (by omega) (hY r hr)))
