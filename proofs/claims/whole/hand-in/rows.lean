section
theorem pk_us {f : Nat → Int32} {k : Nat} {x : Int32} : upd f k x k = x := if_pos rfl
theorem pk_un {f : Nat → Int32} {k j : Nat} {x : Int32} (h : j ≠ k) : upd f k x j = f j := if_neg h
theorem pk_sub {a b : Nat} (h : b ≤ a) : nI a - nI b = nI (a - b) := by
  obtain ⟨c, rfl⟩ : ∃ c, a = c + b := ⟨a - b, by omega⟩
  rw [← nI_add, Int32.add_sub_cancel, Nat.add_sub_cancel]
theorem pk_m1 (n : Nat) : nI (n + 1) + (-1) = nI n := by
  rw [← nI_1, Int32.add_assoc, show (1 : Int32) + (-1) = 0 from rfl, Int32.add_zero]
theorem pk_mul (a b : Nat) : nI a * nI b = nI (a * b) := (Int32.ofNat_mul a b).symm
theorem pk_div {a d : Nat} (ha : a < 2 ^ 31) (h0 : 0 < d) (hd : d < 2 ^ 31) : nI a / nI d = nI (a / d) := by
  apply Int32.toInt_inj.mp
  rw [lg_idiv_nonneg (by rw [nI_toInt ha]; omega) (by rw [nI_toInt hd]; omega), nI_toInt ha, nI_toInt hd, nI_toInt (Nat.lt_of_le_of_lt (Nat.div_le_self a d) ha)]
  first | rfl | exact (Int.natCast_ediv _ _).symm
theorem pk_rem {a d : Nat} (ha : a < 2 ^ 31) (h0 : 0 < d) (hd : d < 2 ^ 31) : nI a - nI a / nI d * nI d = nI (a % d) := by
  rw [pk_div ha h0 hd, pk_mul, pk_sub (Nat.div_mul_le_self a d)]
  exact congrArg nI (by have := Nat.div_add_mod' a d; omega)
theorem pk_sub_toInt {a b : Nat} (ha : a < 2 ^ 30) (hb : b < 2 ^ 30) : (nI a - nI b).toInt = (a : Int) - b := by
  rw [Int32.toInt_sub, nI_toInt (by omega), nI_toInt (by omega)]
  exact Int.bmod_eq_of_le (by omega) (by omega)
theorem pk_sneg {a b : Nat} (hb : b < 2 ^ 30) (h : a < b) : nI a - nI b < 0 := by
  rw [Int32.lt_iff_toInt_lt, pk_sub_toInt (by omega) hb, show (0 : Int32).toInt = 0 from by decide]
  omega
theorem pk_ix (x : Int32) {n : Nat} (hn : n < 2 ^ 31) : x < 0 ∨ nI n ≤ x ∨ ∃ j : Nat, j < n ∧ x = nI j := by
  by_cases h : x < 0
  · exact Or.inl h
  · obtain ⟨j, hj, rfl⟩ := nI_of h
    by_cases h2 : j < n
    · exact Or.inr (Or.inr ⟨j, h2, rfl⟩)
    · exact Or.inr (Or.inl (nI_le (by omega) hj))
theorem pk_le {x y : Int32} {A B : Prop} (a b : Nat) (f : a ≤ b → A) (g : b < a → B) (hx : x = nI a := by rfl) (hy : y = nI b := by rfl) (ha : a < 2 ^ 31 := by omega) (hb : b < 2 ^ 31 := by omega) : (x ≤ y → A) ∧ (¬ x ≤ y → B) := by
  subst hx hy
  rw [nI_leI ha hb]
  exact ⟨f, fun z => g (by omega)⟩
theorem pk_lt {x y : Int32} {A B : Prop} (a b : Nat) (f : a < b → A) (g : b ≤ a → B) (hx : x = nI a := by rfl) (hy : y = nI b := by rfl) (ha : a < 2 ^ 31 := by omega) (hb : b < 2 ^ 31 := by omega) : (x < y → A) ∧ (¬ x < y → B) := by
  subst hx hy
  rw [nI_ltI ha hb]
  exact ⟨f, fun z => g (by omega)⟩
theorem pk_eq {x y : Int32} {A B : Prop} (a b : Nat) (f : a = b → A) (g : a ≠ b → B) (hx : x = nI a := by rfl) (hy : y = nI b := by rfl) (ha : a < 2 ^ 31 := by omega) (hb : b < 2 ^ 31 := by omega) : (x = y → A) ∧ (¬ x = y → B) := by
  subst hx hy
  rw [nI_eq ha hb]
  exact ⟨f, g⟩
theorem pk_in {x : Int32} (n N : Nat) (h : n < N) (hx : x = nI n := by rfl) (hN : N < 2 ^ 31 := by omega) : vp_in x N := by
  subst hx
  exact vp_in_nI h hN
theorem pk_cl {x : Int32} (n : Nat) (hx : x = nI n := by rfl) (h : n < 2 ^ 31 := by omega) : x.toNatClampNeg = n := by
  subst hx
  exact nI_clamp h
theorem pk_loop {σ : Type} (W : Nat → Nat → σ → Prop) (I : Nat → σ → Prop) (e i0 : Nat) (s : σ) (hi : i0 ≤ e) (h0 : I i0 s) (hx : ∀ n s, I e s → W (n + 1) e s)
    (hs : ∀ n i s, i < e → I i s → (∀ s', I (i + 1) s' → W n (i + 1) s') → W (n + 1) i s) : ∃ n, W n i0 s :=
  ⟨e + 1, loop_i W I e hx hs (e + 1) i0 s hi (by omega) h0⟩
theorem pk_loopD {σ : Type} (W : Nat → Nat → σ → Prop) (I : Nat → σ → Prop) (hx : ∀ n s, I 0 s → W (n + 1) 0 s)
    (hs : ∀ n i s, I (i + 1) s → (∀ s', I i s' → W n i s') → W (n + 1) (i + 1) s) : ∀ (e : Nat) (s : σ), I e s → W (e + 1) e s := by
  intro e
  induction e with
  | zero => exact fun s h => hx 0 s h
  | succ e ih => exact fun s h => hs (e + 1) e s h (fun s' h' => ih s' h')
theorem lp1 {A1 : Type} (W : Nat → A1 → Prop) (I : A1 → Prop) (μ : A1 → Nat) (hs : ∀ (n : Nat) (a1 : A1), I a1 → (∀ (b1 : A1), I b1 → μ b1 < μ a1 → W n b1) → W (n + 1) a1) (a1 : A1) (h : I a1) : ∃ n, W n a1 :=
  loop_m (σ := A1) (fun n s => W n s) (fun s => I s) (fun s => μ s) (fun n s hI hk => hs n s hI (fun b1 h9 hm => hk b1 h9 hm)) a1 h
theorem lp2 {A1 A2 : Type} (W : Nat → A1 → A2 → Prop) (I : A1 → A2 → Prop) (μ : A1 → A2 → Nat) (hs : ∀ (n : Nat) (a1 : A1) (a2 : A2), I a1 a2 → (∀ (b1 : A1) (b2 : A2), I b1 b2 → μ b1 b2 < μ a1 a2 → W n b1 b2) → W (n + 1) a1 a2) (a1 : A1) (a2 : A2) (h : I a1 a2) : ∃ n, W n a1 a2 :=
  loop_m (σ := A1 × A2) (fun n s => W n s.1 s.2) (fun s => I s.1 s.2) (fun s => μ s.1 s.2) (fun n s hI hk => hs n s.1 s.2 hI (fun b1 b2 h9 hm => hk (b1, b2) h9 hm)) (a1, a2) h
theorem lp3 {A1 A2 A3 : Type} (W : Nat → A1 → A2 → A3 → Prop) (I : A1 → A2 → A3 → Prop) (μ : A1 → A2 → A3 → Nat) (hs : ∀ (n : Nat) (a1 : A1) (a2 : A2) (a3 : A3), I a1 a2 a3 → (∀ (b1 : A1) (b2 : A2) (b3 : A3), I b1 b2 b3 → μ b1 b2 b3 < μ a1 a2 a3 → W n b1 b2 b3) → W (n + 1) a1 a2 a3) (a1 : A1) (a2 : A2) (a3 : A3) (h : I a1 a2 a3) : ∃ n, W n a1 a2 a3 :=
  loop_m (σ := A1 × A2 × A3) (fun n s => W n s.1 s.2.1 s.2.2) (fun s => I s.1 s.2.1 s.2.2) (fun s => μ s.1 s.2.1 s.2.2) (fun n s hI hk => hs n s.1 s.2.1 s.2.2 hI (fun b1 b2 b3 h9 hm => hk (b1, b2, b3) h9 hm)) (a1, a2, a3) h
theorem lp4 {A1 A2 A3 A4 : Type} (W : Nat → A1 → A2 → A3 → A4 → Prop) (I : A1 → A2 → A3 → A4 → Prop) (μ : A1 → A2 → A3 → A4 → Nat) (hs : ∀ (n : Nat) (a1 : A1) (a2 : A2) (a3 : A3) (a4 : A4), I a1 a2 a3 a4 → (∀ (b1 : A1) (b2 : A2) (b3 : A3) (b4 : A4), I b1 b2 b3 b4 → μ b1 b2 b3 b4 < μ a1 a2 a3 a4 → W n b1 b2 b3 b4) → W (n + 1) a1 a2 a3 a4) (a1 : A1) (a2 : A2) (a3 : A3) (a4 : A4) (h : I a1 a2 a3 a4) : ∃ n, W n a1 a2 a3 a4 :=
  loop_m (σ := A1 × A2 × A3 × A4) (fun n s => W n s.1 s.2.1 s.2.2.1 s.2.2.2) (fun s => I s.1 s.2.1 s.2.2.1 s.2.2.2) (fun s => μ s.1 s.2.1 s.2.2.1 s.2.2.2) (fun n s hI hk => hs n s.1 s.2.1 s.2.2.1 s.2.2.2 hI (fun b1 b2 b3 b4 h9 hm => hk (b1, b2, b3, b4) h9 hm)) (a1, a2, a3, a4) h
end
section
/-! digits of a number, column sums, long division, roots, Euclid: numbers alone -/
def rb_dg (R v i : Nat) : Nat := v / R ^ i % R
def rb_cs (R : Nat) (s : Nat → Nat) : Nat → Nat
  | 0 => 0
  | k + 1 => rb_cs R s k + s k * R ^ k
theorem rb_pp {R : Nat} (hR : 2 ≤ R) (i : Nat) : 0 < R ^ i := Nat.pow_pos (by omega)
theorem rb_dv (R v i : Nat) : v / R ^ (i + 1) = v / R ^ i / R := by
  rw [Nat.pow_succ, Nat.div_div_eq_div_mul]
theorem rb_sp (R v i : Nat) : v / R ^ i = v / R ^ (i + 1) * R + rb_dg R v i := by
  rw [rb_dv, rb_dg]
  exact (Nat.div_add_mod' _ _).symm
theorem rb_lt {R : Nat} (hR : 2 ≤ R) (v i : Nat) : rb_dg R v i < R := Nat.mod_lt _ (by omega)
theorem rb_pm {R a b : Nat} (hR : 2 ≤ R) (h : a ≤ b) : R ^ a ≤ R ^ b := Nat.pow_le_pow_right (by omega) h
theorem rb_hi {R n v i : Nat} (hR : 2 ≤ R) (hv : v < R ^ n) (h : n ≤ i) : rb_dg R v i = 0 := by
  unfold rb_dg
  rw [Nat.div_eq_of_lt (Nat.lt_of_lt_of_le hv (rb_pm hR h)), Nat.zero_mod]
theorem rb_z (R i : Nat) : rb_dg R 0 i = 0 := by
  unfold rb_dg
  rw [Nat.zero_div, Nat.zero_mod]
theorem rb_d0 (R v : Nat) : rb_dg R v 0 = v % R := by
  unfold rb_dg
  rw [Nat.pow_zero, Nat.div_one]
theorem rb_top {R v m : Nat} (hR : 2 ≤ R) : ∀ j, v < R ^ (m + j) → (∀ i, m ≤ i → i < m + j → rb_dg R v i = 0) → v < R ^ m
  | 0, hv, _ => hv
  | j + 1, hv, h => by
    have e := h (m + j) (by omega) (by omega)
    have l : v / R ^ (m + j) < R := by
      rw [Nat.div_lt_iff_lt_mul (rb_pp hR _), Nat.mul_comm, ← Nat.pow_succ]
      exact hv
    unfold rb_dg at e
    rw [Nat.mod_eq_of_lt l] at e
    have l2 : v < 1 * R ^ (m + j) := (Nat.div_lt_iff_lt_mul (rb_pp hR _)).mp (by omega)
    rw [Nat.one_mul] at l2
    exact rb_top hR j l2 (fun i a b => h i a (by omega))
theorem rb_zero {R n v : Nat} (hR : 2 ≤ R) (hv : v < R ^ n) (h : ∀ i, i < n → rb_dg R v i = 0) : v = 0 := by
  have := rb_top (m := 0) hR n (by rw [Nat.zero_add]; exact hv) (fun i _ b => h i (by omega))
  rw [Nat.pow_zero] at this
  omega
theorem rb_ne {R v i : Nat} (h : rb_dg R v i ≠ 0) : v ≠ 0 := by
  intro e
  rw [e, rb_z] at h
  exact h rfl
theorem rb_big {R v i m : Nat} (hR : 2 ≤ R) (hm : m ≤ i) (h : rb_dg R v i ≠ 0) : R ^ m ≤ v := by
  apply Nat.le_of_not_lt
  intro l
  exact h (rb_hi hR l hm)
theorem rb_csc {R : Nat} {s t : Nat → Nat} : ∀ n, (∀ i, i < n → s i = t i) → rb_cs R s n = rb_cs R t n
  | 0, _ => rfl
  | n + 1, h => by
    show rb_cs R s n + s n * R ^ n = rb_cs R t n + t n * R ^ n
    rw [rb_csc n (fun i hi => h i (by omega)), h n (by omega)]
theorem rb_csd (R v : Nat) : ∀ n, rb_cs R (rb_dg R v) n = v % R ^ n
  | 0 => by rw [Nat.pow_zero, Nat.mod_one]; rfl
  | n + 1 => by
    show rb_cs R (rb_dg R v) n + rb_dg R v n * R ^ n = v % R ^ (n + 1)
    rw [rb_csd R v n, Nat.pow_succ, Nat.mod_mul, Nat.mul_comm (R ^ n) (v / R ^ n % R)]
    rfl
theorem rb_csD {R v n : Nat} (h : v < R ^ n) : rb_cs R (rb_dg R v) n = v := by
  rw [rb_csd, Nat.mod_eq_of_lt h]
theorem rb_ext {R v w n : Nat} (hv : v < R ^ n) (hw : w < R ^ n) (h : ∀ i, i < n → rb_dg R v i = rb_dg R w i) : v = w := by
  rw [← rb_csD hv, ← rb_csD hw]
  exact rb_csc n h
theorem rb_csA (R : Nat) (s t : Nat → Nat) : ∀ n, rb_cs R (fun j => s j + t j) n = rb_cs R s n + rb_cs R t n
  | 0 => rfl
  | n + 1 => by
    show rb_cs R (fun j => s j + t j) n + (s n + t n) * R ^ n = rb_cs R s n + s n * R ^ n + (rb_cs R t n + t n * R ^ n)
    rw [rb_csA R s t n, Nat.add_mul]
    omega
theorem rb_csM (R d : Nat) (t : Nat → Nat) : ∀ n, rb_cs R (fun j => d * t j) n = d * rb_cs R t n
  | 0 => rfl
  | n + 1 => by
    show rb_cs R (fun j => d * t j) n + d * t n * R ^ n = d * (rb_cs R t n + t n * R ^ n)
    rw [rb_csM R d t n, Nat.mul_add, Nat.mul_assoc]
theorem rb_cs0 (R : Nat) : ∀ n, rb_cs R (fun _ => 0) n = 0
  | 0 => rfl
  | n + 1 => by
    show rb_cs R (fun _ => 0) n + 0 * R ^ n = 0
    rw [rb_cs0 R n, Nat.zero_mul]
theorem rb_csU (R : Nat) (s : Nat → Nat) (m d : Nat) : ∀ n, rb_cs R (fun k => if k = m then s k + d else s k) n = rb_cs R s n + (if m < n then d * R ^ m else 0)
  | 0 => by rw [if_neg (Nat.not_lt_zero m)]; rfl
  | n + 1 => by
    show rb_cs R (fun k => if k = m then s k + d else s k) n + (if n = m then s n + d else s n) * R ^ n = rb_cs R s n + s n * R ^ n + (if m < n + 1 then d * R ^ m else 0)
    rw [rb_csU R s m d n]
    by_cases e : n = m
    · subst e
      rw [if_pos rfl, if_neg (Nat.lt_irrefl n), if_pos (show n < n + 1 by omega), Nat.add_mul]
      omega
    · rw [if_neg e]
      by_cases l : m < n
      · rw [if_pos l, if_pos (show m < n + 1 by omega)]
        omega
      · rw [if_neg l, if_neg (show ¬ m < n + 1 by omega)]
        omega
theorem rb_dgA {R : Nat} (hR : 2 ≤ R) (a b k : Nat) : rb_dg R (a + b * R ^ (k + 1)) k = rb_dg R a k := by
  unfold rb_dg
  rw [Nat.pow_succ, Nat.mul_comm (R ^ k) R, ← Nat.mul_assoc, Nat.add_mul_div_right _ _ (rb_pp hR k), Nat.add_mul_mod_self_right]
theorem rb_dgL {R : Nat} (hR : 2 ≤ R) (a b : Nat) {k m : Nat} (h : k < m) : rb_dg R (a + b * R ^ m) k = rb_dg R a k := by
  obtain ⟨c, rfl⟩ : ∃ c, m = c + (k + 1) := ⟨m - (k + 1), by omega⟩
  rw [Nat.pow_add, ← Nat.mul_assoc]
  exact rb_dgA hR _ _ _
theorem rb_dgM {R : Nat} (hR : 2 ≤ R) (v : Nat) {k m : Nat} (h : k < m) : rb_dg R (v % R ^ m) k = rb_dg R v k := by
  have e := Nat.div_add_mod' v (R ^ m)
  rw [← rb_dgL hR (v % R ^ m) (v / R ^ m) h, Nat.add_comm, e]
/-- the column's digit -/
theorem rb_cd {R : Nat} (hR : 2 ≤ R) (s : Nat → Nat) (k : Nat) : ∀ m, rb_dg R (rb_cs R s (k + 1 + m)) k = (s k + rb_cs R s k / R ^ k) % R
  | 0 => by
    show rb_dg R (rb_cs R s k + s k * R ^ k) k = _
    unfold rb_dg
    rw [Nat.add_mul_div_right _ _ (rb_pp hR k), Nat.add_comm]
  | m + 1 => by
    show rb_dg R (rb_cs R s (k + 1 + m) + s (k + 1 + m) * R ^ (k + 1 + m)) k = _
    rw [rb_dgL hR _ _ (by omega), rb_cd hR s k m]
theorem rb_cdn {R : Nat} (hR : 2 ≤ R) (s : Nat → Nat) {k n : Nat} (h : k < n) : rb_dg R (rb_cs R s n) k = (s k + rb_cs R s k / R ^ k) % R := by
  obtain ⟨m, rfl⟩ : ∃ m, n = k + 1 + m := ⟨n - (k + 1), by omega⟩
  exact rb_cd hR s k m
/-- the column's carry -/
theorem rb_cc {R : Nat} (hR : 2 ≤ R) (s : Nat → Nat) (k : Nat) : rb_cs R s (k + 1) / R ^ (k + 1) = (s k + rb_cs R s k / R ^ k) / R := by
  rw [rb_dv]
  show (rb_cs R s k + s k * R ^ k) / R ^ k / R = _
  rw [Nat.add_mul_div_right _ _ (rb_pp hR k), Nat.add_comm]
theorem rb_csl {R : Nat} (hR : 2 ≤ R) {s : Nat → Nat} : ∀ n, (∀ i, i < n → s i < R) → rb_cs R s n < R ^ n
  | 0, _ => by rw [Nat.pow_zero]; exact Nat.one_pos
  | n + 1, h => by
    have a := rb_csl hR n (fun i hi => h i (by omega))
    have b := h n (by omega)
    show rb_cs R s n + s n * R ^ n < R ^ (n + 1)
    rw [Nat.pow_succ, Nat.mul_comm (R ^ n) R]
    have c : (s n + 1) * R ^ n ≤ R * R ^ n := Nat.mul_le_mul_right _ b
    rw [Nat.add_mul, Nat.one_mul] at c
    omega
theorem rb_mk {R : Nat} (hR : 2 ≤ R) (s : Nat → Nat) (n : Nat) (h : ∀ i, i < n → s i < R) : ∃ v, v < R ^ n ∧ ∀ i, i < n → rb_dg R v i = s i := by
  refine ⟨rb_cs R s n, rb_csl hR n h, fun i hi => ?_⟩
  rw [rb_cdn hR s hi, Nat.div_eq_of_lt (rb_csl hR i (fun j hj => h j (by omega))), Nat.add_zero, Nat.mod_eq_of_lt (h i hi)]
/-- carry of v + w ahead of place k -/
def rb_ca (R v w k : Nat) : Nat := (v % R ^ k + w % R ^ k) / R ^ k
theorem rb_ca0 (R v w : Nat) : rb_ca R v w 0 = 0 := by
  unfold rb_ca
  rw [Nat.pow_zero, Nat.mod_one, Nat.mod_one]
theorem rb_cae (R v w k : Nat) : rb_ca R v w k = rb_cs R (fun j => rb_dg R v j + rb_dg R w j) k / R ^ k := by
  rw [rb_csA, rb_csd, rb_csd]
  rfl
theorem rb_cas {R : Nat} (hR : 2 ≤ R) (v w k : Nat) : rb_ca R v w (k + 1) = (rb_dg R v k + rb_dg R w k + rb_ca R v w k) / R := by
  rw [rb_cae, rb_cae, rb_cc hR]
theorem rb_cad {R : Nat} (hR : 2 ≤ R) (v w k : Nat) : rb_dg R (v + w) k = (rb_dg R v k + rb_dg R w k + rb_ca R v w k) % R := by
  have h := rb_cd hR (fun j => rb_dg R v j + rb_dg R w j) k 0
  rw [Nat.add_zero, rb_csA, rb_csd, rb_csd, ← rb_cae] at h
  rw [← h]
  have e1 := Nat.div_add_mod' v (R ^ (k + 1))
  have e2 := Nat.div_add_mod' w (R ^ (k + 1))
  have e3 : v + w = v % R ^ (k + 1) + w % R ^ (k + 1) + (v / R ^ (k + 1) + w / R ^ (k + 1)) * R ^ (k + 1) := by
    rw [Nat.add_mul]
    omega
  rw [e3, rb_dgA hR]
theorem rb_ca1 {R : Nat} (hR : 2 ≤ R) (v w k : Nat) : rb_ca R v w k ≤ 1 := by
  have a := Nat.mod_lt v (rb_pp hR k)
  have b := Nat.mod_lt w (rb_pp hR k)
  have : rb_ca R v w k < 2 := by
    unfold rb_ca
    rw [Nat.div_lt_iff_lt_mul (rb_pp hR k)]
    omega
  omega
/-- the whole row of an addition at place k -/
theorem rb_cal {R : Nat} (hR : 2 ≤ R) (v w k : Nat) : rb_dg R v k + rb_dg R w k + rb_ca R v w k = rb_ca R v w (k + 1) * R + rb_dg R (v + w) k := by
  rw [rb_cas hR, rb_cad hR]
  exact (Nat.div_add_mod' _ _).symm
/-- long division by o, one place -/
theorem rb_ldl {R o : Nat} (hR : 2 ≤ R) (ho : 0 < o) (r d : Nat) (hr : r < o) (hd : d < R) : r * R + d < o * R := by
  have c : (r + 1) * R ≤ o * R := Nat.mul_le_mul_right _ hr
  rw [Nat.add_mul, Nat.one_mul] at c
  omega
theorem rb_ldb {R o : Nat} (hR : 2 ≤ R) (ho : 0 < o) (v i : Nat) : v / R ^ (i + 1) % o * R + rb_dg R v i < o * R :=
  rb_ldl hR ho _ _ (Nat.mod_lt _ ho) (rb_lt hR v i)
theorem rb_lde {R o : Nat} (ho : 0 < o) (v i : Nat) : v / R ^ i = o * (v / R ^ (i + 1) / o * R) + (v / R ^ (i + 1) % o * R + rb_dg R v i) := by
  rw [rb_sp R v i]
  generalize v / R ^ (i + 1) = A
  have e := Nat.div_add_mod A o
  generalize rb_dg R v i = d
  rw [← Nat.add_assoc, ← Nat.mul_assoc, ← Nat.add_mul, e]
theorem rb_ldq {R o : Nat} (hR : 2 ≤ R) (ho : 0 < o) (v i : Nat) : (v / R ^ (i + 1) % o * R + rb_dg R v i) / o = rb_dg R (v / o) i := by
  have b := rb_ldb hR ho v i
  have e := rb_lde (R := R) ho v i
  unfold rb_dg at b e ⊢
  rw [Nat.div_div_eq_div_mul, Nat.mul_comm o, ← Nat.div_div_eq_div_mul]
  generalize v / R ^ (i + 1) % o * R + v / R ^ i % R = x at b e ⊢
  rw [e, Nat.mul_add_div ho, Nat.add_comm, Nat.add_mul_mod_self_right]
  have : x / o < R := by
    rw [Nat.div_lt_iff_lt_mul ho, Nat.mul_comm]
    exact b
  exact (Nat.mod_eq_of_lt this).symm
theorem rb_ldr {R o : Nat} (ho : 0 < o) (v i : Nat) : (v / R ^ (i + 1) % o * R + rb_dg R v i) % o = v / R ^ i % o := by
  have e := rb_lde (R := R) ho v i
  rw [e, Nat.mul_add_mod]
/-- order from the top -/
theorem rb_og {R v w i : Nat} (h : v / R ^ (i + 1) = w / R ^ (i + 1)) (hd : rb_dg R w i < rb_dg R v i) : w < v := by
  apply Nat.lt_of_not_le
  intro l
  have a : v / R ^ i ≤ w / R ^ i := Nat.div_le_div_right l
  rw [rb_sp R v i, rb_sp R w i, h] at a
  omega
theorem rb_oe {R v w i : Nat} (h : v / R ^ (i + 1) = w / R ^ (i + 1)) (hd : rb_dg R v i = rb_dg R w i) : v / R ^ i = w / R ^ i := by
  rw [rb_sp R v i, rb_sp R w i, h, hd]
theorem rb_o0 {R n v w : Nat} (hv : v < R ^ n) (hw : w < R ^ n) : v / R ^ n = w / R ^ n := by
  rw [Nat.div_eq_of_lt hv, Nat.div_eq_of_lt hw]
theorem rb_o1 {R v w : Nat} (h : v / R ^ 0 = w / R ^ 0) : v = w := by
  rw [Nat.pow_zero, Nat.div_one, Nat.div_one] at h
  exact h
/-- a digit pushed in from below -/
theorem rb_ph {R : Nat} (hR : 2 ≤ R) (v d k : Nat) (hd : d < R) : rb_dg R (v * R + d) (k + 1) = rb_dg R v k := by
  unfold rb_dg
  rw [Nat.pow_succ, Nat.mul_comm (R ^ k) R, ← Nat.div_div_eq_div_mul, Nat.add_comm, Nat.add_mul_div_right _ _ (by omega : 0 < R), Nat.div_eq_of_lt hd, Nat.zero_add]
theorem rb_pl {R : Nat} (v d : Nat) (hd : d < R) : rb_dg R (v * R + d) 0 = d := by
  rw [rb_d0, Nat.add_comm, Nat.add_mul_mod_self_right, Nat.mod_eq_of_lt hd]
theorem rb_pb {R n v d : Nat} (hR : 2 ≤ R) (hv : v < R ^ n) (hd : d < R) : v * R + d < R ^ (n + 1) := by
  rw [Nat.pow_succ]
  exact rb_ldl hR (rb_pp hR n) v d hv hd
end
section
/-! products, roots, Euclid, lengths, shifts: numbers alone -/
theorem rb_mm (R w j : Nat) : w % R ^ (j + 1) = w % R ^ j + R ^ j * rb_dg R w j := by
  rw [Nat.pow_succ, Nat.mod_mul]
  rfl
theorem rb_mT (R v w i : Nat) : v % R ^ (i + 1) * w = v % R ^ i * w + rb_dg R v i * w * R ^ i := by
  rw [rb_mm, Nat.add_mul, Nat.mul_comm (R ^ i) (rb_dg R v i), Nat.mul_assoc (rb_dg R v i), Nat.mul_comm (R ^ i) w, ← Nat.mul_assoc]
theorem rb_gs {R i j v w S : Nat} (h : S = v % R ^ i * w + rb_dg R v i * R ^ i * (w % R ^ j)) : S + rb_dg R v i * rb_dg R w j * R ^ (i + j) = v % R ^ i * w + rb_dg R v i * R ^ i * (w % R ^ (j + 1)) := by
  have e : rb_dg R v i * rb_dg R w j * (R ^ i * R ^ j) = rb_dg R v i * R ^ i * (R ^ j * rb_dg R w j) := by ac_rfl
  rw [h, rb_mm, Nat.mul_add, Nat.pow_add, e, Nat.add_assoc]
theorem rb_ge {R i v w S : Nat} (hw : w < R ^ 24) (h : S = v % R ^ i * w + rb_dg R v i * R ^ i * (w % R ^ 24)) : S = v % R ^ (i + 1) * w := by
  rw [h, rb_mT, Nat.mod_eq_of_lt hw, Nat.mul_assoc, Nat.mul_assoc, Nat.mul_comm (R ^ i) w]
theorem rb_ccb {R B : Nat} (hR : 2 ≤ R) (s : Nat → Nat) : ∀ n, (∀ k, k < n → s k ≤ B) → rb_cs R s n / R ^ n ≤ B
  | 0, _ => by
    show 0 / R ^ 0 ≤ B
    rw [Nat.zero_div]
    exact Nat.zero_le B
  | n + 1, h => by
    have a := rb_ccb hR s n (fun k hk => h k (by omega))
    have b := h n (by omega)
    rw [rb_cc hR]
    have c : s n + rb_cs R s n / R ^ n ≤ R * B := Nat.le_trans (by omega : _ ≤ 2 * B) (Nat.mul_le_mul_right B hR)
    exact Nat.div_le_of_le_mul c
theorem rb_dd {R : Nat} (hR : 2 ≤ R) (hR2 : R ≤ 36) (v w i j : Nat) : rb_dg R v i * rb_dg R w j ≤ 1225 := by
  have a := rb_lt hR v i
  have b := rb_lt hR w j
  exact Nat.mul_le_mul (by omega : _ ≤ 35) (by omega : _ ≤ 35)
theorem rb_dgI {R : Nat} (hR : 2 ≤ R) {N r i : Nat} (hr : r < R ^ i) (j : Nat) : rb_dg R (r + N * R ^ i) (i + j) = rb_dg R N j := by
  unfold rb_dg
  rw [Nat.pow_add, ← Nat.div_div_eq_div_mul, Nat.add_mul_div_right _ _ (rb_pp hR i), Nat.div_eq_of_lt hr, Nat.zero_add]
theorem rb_dgS (R T i j : Nat) : rb_dg R T (i + j) = rb_dg R (T / R ^ i) j := by
  unfold rb_dg
  rw [Nat.pow_add, Nat.div_div_eq_div_mul]
theorem rb_mlt {R a b v w : Nat} (hv : v < R ^ a) (hw : w < R ^ b) : v * w < R ^ (a + b) := by
  rw [Nat.pow_add]
  exact Nat.mul_lt_mul'' hv hw
theorem rb_mTb {R : Nat} (hR : 2 ≤ R) {v w : Nat} (i : Nat) (hw : w < R ^ 24) : v % R ^ i * w < R ^ (i + 24) :=
  rb_mlt (Nat.mod_lt _ (rb_pp hR i)) hw
/-- one row of a product: the columns from place i on -/
def rb_mc (R T d w i : Nat) : Nat → Nat := fun j => rb_dg R T (i + j) + d * rb_dg R w j
theorem rb_mcs {R : Nat} (hR : 2 ≤ R) {v w i : Nat} (hw : w < R ^ 24) :
    rb_cs R (rb_mc R (v % R ^ i * w) (rb_dg R v i) w i) 26 = v % R ^ i * w / R ^ i + rb_dg R v i * w := by
  have e : rb_cs R (rb_mc R (v % R ^ i * w) (rb_dg R v i) w i) 26 = rb_cs R (fun j => rb_dg R (v % R ^ i * w / R ^ i) j + rb_dg R v i * rb_dg R w j) 26 :=
    rb_csc 26 (fun j _ => by unfold rb_mc; rw [rb_dgS])
  have b1 : v % R ^ i * w / R ^ i < R ^ 26 := by
    refine Nat.lt_of_lt_of_le ?_ (rb_pm hR (by omega : 24 ≤ 26))
    rw [Nat.div_lt_iff_lt_mul (rb_pp hR i), Nat.mul_comm (R ^ 24) (R ^ i), ← Nat.pow_add]
    exact rb_mTb hR i hw
  have b2 : w < R ^ 26 := Nat.lt_of_lt_of_le hw (rb_pm hR (by omega))
  rw [e, rb_csA R (rb_dg R (v % R ^ i * w / R ^ i)) (fun j => rb_dg R v i * rb_dg R w j), rb_csM, rb_csD b1, rb_csD b2]
theorem rb_mN {R : Nat} (v w i : Nat) : v % R ^ (i + 1) * w = v % R ^ i * w % R ^ i + (v % R ^ i * w / R ^ i + rb_dg R v i * w) * R ^ i := by
  rw [rb_mT, Nat.add_mul]
  have := Nat.div_add_mod' (v % R ^ i * w) (R ^ i)
  omega
theorem rb_mlo {R : Nat} (hR : 2 ≤ R) (v w : Nat) {i k : Nat} (hk : k < i) : rb_dg R (v % R ^ (i + 1) * w) k = rb_dg R (v % R ^ i * w) k := by
  rw [rb_mN, rb_dgL hR _ _ hk, rb_dgM hR _ hk]
theorem rb_mhi {R : Nat} (hR : 2 ≤ R) (v : Nat) {w i k : Nat} (hw : w < R ^ 24) (hk : i + 26 ≤ k) : rb_dg R (v % R ^ (i + 1) * w) k = rb_dg R (v % R ^ i * w) k := by
  rw [rb_hi hR (rb_mTb hR (i + 1) hw) (by omega), rb_hi hR (rb_mTb hR i hw) (by omega)]
theorem rb_mmid {R : Nat} (hR : 2 ≤ R) (v : Nat) {w i j : Nat} (hw : w < R ^ 24) (hj : j < 26) :
    rb_dg R (v % R ^ (i + 1) * w) (i + j) = (rb_mc R (v % R ^ i * w) (rb_dg R v i) w i j + rb_cs R (rb_mc R (v % R ^ i * w) (rb_dg R v i) w i) j / R ^ j) % R := by
  rw [rb_mN, rb_dgI hR (Nat.mod_lt _ (rb_pp hR i)), ← rb_mcs hR hw, rb_cdn hR _ hj]
theorem rb_mcb {R : Nat} (hR : 2 ≤ R) (hR2 : R ≤ 36) (T v w i k j : Nat) : rb_mc R T (rb_dg R v k) w i j ≤ 1260 := by
  have a := rb_lt hR T (i + j)
  have b := rb_dd hR hR2 v w k j
  unfold rb_mc
  omega
/-! roots -/
theorem rb_sq (A : Nat) : ∃ s, s * s ≤ A ∧ A < (s + 1) * (s + 1) := by
  induction A with
  | zero => exact ⟨0, Nat.le_refl _, by decide⟩
  | succ A ih =>
    obtain ⟨s, h1, h2⟩ := ih
    by_cases h : (s + 1) * (s + 1) ≤ A + 1
    · have := Nat.mul_self_lt_mul_self (by omega : s + 1 < s + 1 + 1)
      exact ⟨s + 1, h, by omega⟩
    · exact ⟨s, by omega, by omega⟩
theorem rb_sqc {A s : Nat} (c : Nat) (h1 : s * s ≤ A) (h2 : A < (s + 1) * (s + 1)) : c * c ≤ A ↔ c ≤ s := by
  constructor
  · intro h
    apply Nat.le_of_not_lt
    intro l
    have := Nat.mul_self_le_mul_self (by omega : s + 1 ≤ c)
    omega
  · intro h
    exact Nat.le_trans (Nat.mul_self_le_mul_self h) h1
theorem rb_sqb {R A s : Nat} (hA : A < R ^ 24) (h1 : s * s ≤ A) : s < R ^ 12 := by
  apply Nat.lt_of_not_le
  intro l
  have h := Nat.mul_self_le_mul_self l
  rw [← Nat.pow_add] at h
  exact absurd (Nat.lt_of_le_of_lt (Nat.le_trans h h1) hA) (Nat.lt_irrefl _)
/-- the root's places above i, with digit d at place i -/
def rb_rc (R s i d : Nat) : Nat := s / R ^ (i + 1) * R ^ (i + 1) + d * R ^ i
theorem rb_rce (R s i d : Nat) : rb_rc R s i d = (s / R ^ (i + 1) * R + d) * R ^ i := by
  unfold rb_rc
  rw [Nat.add_mul, Nat.mul_assoc, Nat.pow_succ, Nat.mul_comm (R ^ i) R]
theorem rb_rcl {R : Nat} (hR : 2 ≤ R) (s i d : Nat) : rb_rc R s i d ≤ s ↔ d ≤ rb_dg R s i := by
  rw [rb_rce, ← Nat.le_div_iff_mul_le (rb_pp hR i), rb_sp R s i]
  omega
theorem rb_rcs (R s i : Nat) : rb_rc R s i (rb_dg R s i) = s / R ^ i * R ^ i := by
  rw [rb_rce, ← rb_sp]
theorem rb_rcb {R : Nat} (hR : 2 ≤ R) {s i d n : Nat} (hs : s < R ^ n) (hi : i < n) (hd : d < R) : rb_rc R s i d < R ^ n := by
  obtain ⟨m, rfl⟩ : ∃ m, n = m + 1 + i := ⟨n - 1 - i, by omega⟩
  rw [rb_rce, Nat.pow_add R (m + 1) i, Nat.mul_lt_mul_right (rb_pp hR i)]
  refine rb_pb hR ?_ hd
  rw [Nat.div_lt_iff_lt_mul (rb_pp hR _), ← Nat.pow_add]
  have e : m + (i + 1) = m + 1 + i := by omega
  rw [e]
  exact hs
theorem rb_rcd {R : Nat} (hR : 2 ≤ R) (s : Nat) {i d : Nat} (k : Nat) (hd : d < R) : rb_dg R (rb_rc R s i d) k = if k < i then 0 else if k = i then d else rb_dg R s k := by
  by_cases h : k < i
  · rw [if_pos h, rb_rce]
    have := rb_dgL hR 0 (s / R ^ (i + 1) * R + d) h
    rw [Nat.zero_add, rb_z] at this
    exact this
  · rw [if_neg h]
    by_cases e : k = i
    · rw [if_pos e, e, rb_rce]
      have := rb_dgI hR (N := s / R ^ (i + 1) * R + d) (rb_pp hR i) 0
      rw [Nat.zero_add, Nat.add_zero, rb_pl _ _ hd] at this
      exact this
    · rw [if_neg e]
      obtain ⟨m, rfl⟩ : ∃ m, k = i + 1 + m := ⟨k - (i + 1), by omega⟩
      have l : d * R ^ i < R ^ (i + 1) := by
        rw [Nat.pow_succ, Nat.mul_comm (R ^ i) R]
        exact (Nat.mul_lt_mul_right (rb_pp hR i)).mpr hd
      unfold rb_rc
      rw [Nat.add_comm, rb_dgI hR l, rb_dgS]
theorem rb_rtd {R : Nat} (hR : 2 ≤ R) (s i k : Nat) : rb_dg R (s / R ^ i * R ^ i) k = if k < i then 0 else rb_dg R s k := by
  by_cases h : k < i
  · have := rb_dgL hR 0 (s / R ^ i) h
    rw [Nat.zero_add, rb_z] at this
    rw [if_pos h, this]
  · rw [if_neg h]
    obtain ⟨m, rfl⟩ : ∃ m, k = i + m := ⟨k - i, by omega⟩
    have := rb_dgI hR (N := s / R ^ i) (rb_pp hR i) m
    rw [Nat.zero_add] at this
    rw [this, rb_dgS]
/-! Euclid -/
def rb_E (k u w : Nat) : Prop := (k = 0 ∧ u * w < 2 ^ 250) ∨ ∃ j, k = j + 1 ∧ w < u ∧ u * w * 2 ^ j < 2 ^ 250
theorem rb_Es {k u w : Nat} (hw : 0 < w) (h : rb_E k u w) : rb_E (k + 1) w (u % w) := by
  have l := Nat.mod_lt u hw
  rcases h with ⟨e, h⟩ | ⟨j, e, h1, h2⟩
  · refine Or.inr ⟨0, by omega, l, ?_⟩
    rw [Nat.pow_zero, Nat.mul_one, Nat.mul_comm]
    exact Nat.lt_of_le_of_lt (Nat.mul_le_mul_right w (Nat.mod_le u w)) h
  · refine Or.inr ⟨j + 1, by omega, l, ?_⟩
    have a := Nat.div_add_mod u w
    have b : 1 ≤ u / w := (Nat.le_div_iff_mul_le hw).mpr (by omega)
    have c : w * 1 ≤ w * (u / w) := Nat.mul_le_mul_left w b
    have d : u % w * 2 ≤ u := by omega
    have f : w * (u % w) * 2 ^ (j + 1) = u % w * 2 * w * 2 ^ j := by
      rw [Nat.pow_succ]
      ac_rfl
    rw [f]
    exact Nat.lt_of_le_of_lt (Nat.mul_le_mul_right _ (Nat.mul_le_mul_right w d)) h2
theorem rb_Ee {k u w : Nat} (h : rb_E k u w) (hk : 251 ≤ k) : w = 0 := by
  rcases h with ⟨e, _⟩ | ⟨j, e, h1, h2⟩
  · omega
  · apply Nat.eq_zero_of_not_pos
    intro hw
    have a : 1 ≤ u * w := Nat.mul_pos (by omega) hw
    have b : 2 ^ 250 ≤ 2 ^ j := Nat.pow_le_pow_right (by decide) (by omega)
    have c : 1 * 2 ^ j ≤ u * w * 2 ^ j := Nat.mul_le_mul_right _ a
    rw [Nat.one_mul] at c
    exact absurd (Nat.lt_of_le_of_lt (Nat.le_trans b c) h2) (Nat.lt_irrefl _)
theorem rb_E0 {R u w : Nat} (hR2 : R ≤ 36) (hu : u < R ^ 24) (hw : w < R ^ 24) : rb_E 0 u w := by
  have a : R ^ 24 ≤ 2 ^ 125 := Nat.le_trans (Nat.pow_le_pow_left hR2 24) (by decide)
  refine Or.inl ⟨rfl, ?_⟩
  have b := Nat.mul_lt_mul'' (Nat.lt_of_lt_of_le hu a) (Nat.lt_of_lt_of_le hw a)
  rw [← Nat.pow_add] at b
  exact b
theorem rb_gc (u w : Nat) : Nat.gcd w (u % w) = Nat.gcd u w := by
  rw [Nat.gcd_comm w (u % w), ← Nat.gcd_rec, Nat.gcd_comm]
/-! lengths -/
theorem rb_lnu {d : Nat → Nat} {a b n : Nat} (ha : a ≤ n) (hb : b ≤ n) (h1 : ∀ i, a ≤ i → i < n → d i = 0) (h2 : 0 < a → d (a - 1) ≠ 0)
    (h3 : ∀ i, b ≤ i → i < n → d i = 0) (h4 : 0 < b → d (b - 1) ≠ 0) : a = b := by
  apply Nat.le_antisymm
  · apply Nat.le_of_not_lt
    intro l
    exact h2 (by omega) (h3 (a - 1) (by omega) (by omega))
  · apply Nat.le_of_not_lt
    intro l
    exact h4 (by omega) (h1 (b - 1) (by omega) (by omega))
theorem rb_liu {f : Nat → Nat} {a b n : Nat} (ha : a ≤ n) (hb : b ≤ n) (h1 : ∀ j, j < a → f j ≠ 0) (h2 : a = n ∨ f a = 0)
    (h3 : ∀ j, j < b → f j ≠ 0) (h4 : b = n ∨ f b = 0) : a = b := by
  apply Nat.le_antisymm
  · apply Nat.le_of_not_lt
    intro l
    rcases h4 with e | e
    · omega
    · exact h1 b l e
  · apply Nat.le_of_not_lt
    intro l
    rcases h2 with e | e
    · omega
    · exact h3 a l e
/-! shifts: the digit at place t after the digits below i have gone p places up, and how many were lost -/
def rb_sE (p : Int32) (d : Nat → Nat) : Nat → Nat → Nat
  | 0 => fun _ => 0
  | i + 1 => fun t => if nI i + p = nI t then d i else rb_sE p d i t
def rb_sL (p : Int32) (d : Nat → Nat) : Nat → Nat
  | 0 => 0
  | i + 1 => if (0 ≤ nI i + p ∧ nI i + p < 24) ∨ d i = 0 then rb_sL p d i else rb_sL p d i + 1
theorem rb_sEl {R : Nat} (hR : 2 ≤ R) {p : Int32} {d : Nat → Nat} (h : ∀ i, d i < R) : ∀ i t, rb_sE p d i t < R
  | 0, t => by
    show 0 < R
    omega
  | i + 1, t => by
    show (if nI i + p = nI t then d i else rb_sE p d i t) < R
    by_cases c : nI i + p = nI t
    · rw [if_pos c]
      exact h i
    · rw [if_neg c]
      exact rb_sEl hR h i t
theorem rb_sLl {p : Int32} {d : Nat → Nat} : ∀ i, rb_sL p d i ≤ i
  | 0 => Nat.le_refl 0
  | i + 1 => by
    have := rb_sLl (p := p) (d := d) i
    show (if (0 ≤ nI i + p ∧ nI i + p < 24) ∨ d i = 0 then rb_sL p d i else rb_sL p d i + 1) ≤ i + 1
    split <;> omega
end
section
/-! arrays that hold a number's digits; arrays with a stretch written over -/
def rb_H (R : Nat) (a : Nat → Int32) (o n v : Nat) : Prop := ∀ i, i < n → a (o + i) = nI (rb_dg R v i)
def rb_ov (a : Nat → Int32) (o lo hi : Nat) (g : Nat → Int32) : Nat → Int32 := fun j => if o + lo ≤ j ∧ j < o + hi then g (j - o) else a j
/-- all but row t is as it was -/
def rb_K (t : Nat) (a b : Nat → Int32) : Prop := ∀ j, (j < 50 * t ∨ 50 * t + 50 ≤ j) → b j = a j
def rb_up (V : Nat → Nat) (i x : Nat) : Nat → Nat := fun r => if r = i then x else V r
theorem rb_upS (V : Nat → Nat) (i x : Nat) : rb_up V i x i = x := if_pos rfl
theorem rb_upN {V : Nat → Nat} {i x r : Nat} (h : r ≠ i) : rb_up V i x r = V r := if_neg h
theorem rb_ovE (a : Nat → Int32) (o lo : Nat) (g : Nat → Int32) : rb_ov a o lo lo g = a := by
  funext j
  exact if_neg (by omega)
theorem rb_ovI {a : Nat → Int32} {o lo hi k : Nat} {g : Nat → Int32} (h1 : lo ≤ k) (h2 : k < hi) : rb_ov a o lo hi g (o + k) = g k := by
  unfold rb_ov
  rw [if_pos (by omega), Nat.add_sub_cancel_left]
theorem rb_ovO {a : Nat → Int32} {o lo hi j : Nat} {g : Nat → Int32} (h : j < o + lo ∨ o + hi ≤ j) : rb_ov a o lo hi g j = a j := if_neg (by omega)
theorem rb_ovU {a : Nat → Int32} {o lo hi : Nat} {g : Nat → Int32} (h : lo ≤ hi) : upd (rb_ov a o lo hi g) (o + hi) (g hi) = rb_ov a o lo (hi + 1) g := by
  funext j
  show (if j = o + hi then g hi else rb_ov a o lo hi g j) = rb_ov a o lo (hi + 1) g j
  by_cases e : j = o + hi
  · subst e
    rw [if_pos rfl, rb_ovI h (Nat.lt_succ_self _)]
  · rw [if_neg e]
    unfold rb_ov
    by_cases c : o + lo ≤ j ∧ j < o + hi
    · rw [if_pos c, if_pos (by omega)]
    · rw [if_neg c, if_neg (by omega)]
theorem rb_ovD {a : Nat → Int32} {o lo hi : Nat} {g : Nat → Int32} (h : lo < hi) : upd (rb_ov a o (lo + 1) hi g) (o + lo) (g lo) = rb_ov a o lo hi g := by
  funext j
  show (if j = o + lo then g lo else rb_ov a o (lo + 1) hi g j) = rb_ov a o lo hi g j
  by_cases e : j = o + lo
  · subst e
    rw [if_pos rfl, rb_ovI (Nat.le_refl _) h]
  · rw [if_neg e]
    unfold rb_ov
    by_cases c : o + (lo + 1) ≤ j ∧ j < o + hi
    · rw [if_pos c, if_pos (by omega)]
    · rw [if_neg c, if_neg (by omega)]
/-- a store at the upper, at the lower end of the stretch -/
theorem rb_wu {a : Nat → Int32} {o lo i : Nat} {g : Nat → Int32} {x y : Int32} (hx : x = nI (o + i)) (hb : o + i < 2 ^ 31) (hy : y = g i) (h : lo ≤ i) : upd (rb_ov a o lo i g) x.toNatClampNeg y = rb_ov a o lo (i + 1) g := by
  rw [hx, nI_clamp hb, hy]
  exact rb_ovU h
theorem rb_wu0 {a : Nat → Int32} {lo i : Nat} {g : Nat → Int32} {x y : Int32} (hx : x = nI i) (hb : i < 2 ^ 31) (hy : y = g i) (h : lo ≤ i) : upd (rb_ov a 0 lo i g) x.toNatClampNeg y = rb_ov a 0 lo (i + 1) g :=
  rb_wu (o := 0) (by rw [Nat.zero_add]; exact hx) (by omega) hy h
theorem rb_wd {a : Nat → Int32} {o i hi : Nat} {g : Nat → Int32} {x y : Int32} (hx : x = nI (o + i)) (hb : o + i < 2 ^ 31) (hy : y = g i) (h : i < hi) : upd (rb_ov a o (i + 1) hi g) x.toNatClampNeg y = rb_ov a o i hi g := by
  rw [hx, nI_clamp hb, hy]
  exact rb_ovD h
theorem rb_wd0 {a : Nat → Int32} {i hi : Nat} {g : Nat → Int32} {x y : Int32} (hx : x = nI i) (hb : i < 2 ^ 31) (hy : y = g i) (h : i < hi) : upd (rb_ov a 0 (i + 1) hi g) x.toNatClampNeg y = rb_ov a 0 i hi g :=
  rb_wd (o := 0) (by rw [Nat.zero_add]; exact hx) (by omega) hy h
/-- a read -/
theorem rb_ci {x : Int32} {n : Nat} (hx : x = nI n) (h : n < 2 ^ 31) : x.toNatClampNeg = n := by
  rw [hx, nI_clamp h]
theorem rb_rd {a : Nat → Int32} {x : Int32} {n : Nat} (hx : x = nI n) (h : n < 2 ^ 31) : a x.toNatClampNeg = a n := by
  rw [hx, nI_clamp h]
theorem rb_rH {R : Nat} {a : Nat → Int32} {o n v i : Nat} {x : Int32} (H : rb_H R a o n v) (hi : i < n) (hx : x = nI (o + i)) (h : o + i < 2 ^ 31) : a x.toNatClampNeg = nI (rb_dg R v i) := by
  rw [rb_ci hx h, H i hi]
theorem rb_H0 {R : Nat} {a : Nat → Int32} {n v i : Nat} (H : rb_H R a 0 n v) (hi : i < n) : a i = nI (rb_dg R v i) := by
  have := H i hi
  rw [Nat.zero_add] at this
  exact this
theorem rb_H0i {R : Nat} {a : Nat → Int32} {n v : Nat} (h : ∀ i, i < n → a i = nI (rb_dg R v i)) : rb_H R a 0 n v := by
  intro i hi
  rw [Nat.zero_add]
  exact h i hi
theorem rb_rH0 {R : Nat} {a : Nat → Int32} {n v i : Nat} {x : Int32} (H : rb_H R a 0 n v) (hi : i < n) (hx : x = nI i) (h : i < 2 ^ 31) : a x.toNatClampNeg = nI (rb_dg R v i) := by
  rw [rb_ci hx h, rb_H0 H hi]
/-- what is read off the stretch is as it was -/
theorem rb_ovH {R : Nat} {a : Nat → Int32} {o lo hi o2 n v : Nat} {g : Nat → Int32} {i : Nat} (H : rb_H R a o2 n v) (hi2 : i < n) (h : o2 + i < o + lo ∨ o + hi ≤ o2 + i) : rb_ov a o lo hi g (o2 + i) = nI (rb_dg R v i) := by
  rw [rb_ovO h, H i hi2]
theorem rb_ovF {R : Nat} {a : Nat → Int32} {o n v : Nat} {g : Nat → Int32} (h : ∀ i, i < n → g i = nI (rb_dg R v i)) : rb_H R (rb_ov a o 0 n g) o n v := by
  intro i hi
  rw [rb_ovI (Nat.zero_le _) hi, h i hi]
theorem rb_ovK {a : Nat → Int32} {t lo hi : Nat} {g : Nat → Int32} (h : hi ≤ 50) : rb_K t a (rb_ov a (50 * t) lo hi g) := by
  intro j hj
  exact rb_ovO (by omega)
theorem rb_Kr (t : Nat) (a : Nat → Int32) : rb_K t a a := fun _ _ => rfl
theorem rb_Kt {t : Nat} {a b c : Nat → Int32} (h : rb_K t a b) (k : rb_K t b c) : rb_K t a c := by
  intro j hj
  rw [k j hj, h j hj]
theorem rb_KH {R t r n v : Nat} {a b : Nat → Int32} (k : rb_K t a b) (h : r ≠ t) (hn : n ≤ 50) (H : rb_H R a (50 * r) n v) : rb_H R b (50 * r) n v := by
  intro i hi
  rw [k (50 * r + i) (by omega), H i hi]
theorem rb_Ku {t i : Nat} {a : Nat → Int32} {x : Int32} (h : i < 50) : rb_K t a (upd a (50 * t + i) x) := by
  intro j hj
  exact if_neg (by omega)
theorem rb_Hm {R : Nat} {a : Nat → Int32} {o n m v : Nat} (H : rb_H R a o n v) (h : m ≤ n) : rb_H R a o m v := fun i hi => H i (by omega)
theorem rb_Hz {R : Nat} {a : Nat → Int32} {o n : Nat} (h : ∀ i, i < n → a (o + i) = 0) : rb_H R a o n 0 := by
  intro i hi
  rw [h i hi, rb_z]
  rfl
/-- the same digits: the number modulo R^m in m places -/
theorem rb_HM {R : Nat} (hR : 2 ≤ R) {a : Nat → Int32} {o n m v : Nat} (H : rb_H R a o n v) (h : m ≤ n) : rb_H R a o m (v % R ^ m) := by
  intro i hi
  rw [H i (by omega), rb_dgM hR v hi]
/-- beyond a number's length stand zeros -/
theorem rb_HX {R : Nat} (hR : 2 ≤ R) {a : Nat → Int32} {o n m v : Nat} (H : rb_H R a o n v) (hv : v < R ^ n) (h : ∀ i, n ≤ i → i < m → a (o + i) = 0) : rb_H R a o m v := by
  intro i hi
  by_cases c : i < n
  · exact H i c
  · rw [h i (by omega) hi, rb_hi hR hv (by omega)]
    rfl
/-! numbers of the machine -/
theorem rb_x50 (t i : Nat) : (50 : Int32) * nI t + nI i = nI (50 * t + i) := by
  rw [show (50 : Int32) = nI 50 from rfl, pk_mul, nI_add]
theorem rb_x24 (t i : Nat) : nI t * 24 + nI i = nI (24 * t + i) := by
  rw [show (24 : Int32) = nI 24 from rfl, pk_mul, nI_add, Nat.mul_comm]
theorem rb_a0 (s R : Nat) : nI s - 0 * nI R = nI s := by
  rw [Int32.zero_mul, Int32.sub_zero]
theorem rb_a1 {s R : Nat} (h : R ≤ s) : nI s - 1 * nI R = nI (s - R) := by
  rw [Int32.one_mul, pk_sub h]
theorem rb_cse {s c R d : Nat} (h : s = c * R + d) (hd : d < R) (hc : c ≤ 1) : (s < R → c = 0 ∧ d = s) ∧ (R ≤ s → c = 1 ∧ d = s - R) := by
  rcases Nat.le_one_iff_eq_zero_or_eq_one.mp hc with e | e
  · subst e
    rw [Nat.zero_mul, Nat.zero_add] at h
    omega
  · subst e
    rw [Nat.one_mul] at h
    omega
theorem rb_sn {a b c : Nat} (h : a < b + c) (hb : b + c < 2 ^ 30) : nI a - nI b - nI c < 0 := by
  rw [Int32.sub_sub, nI_add]
  exact pk_sneg hb h
theorem rb_s0 {a b c : Nat} (h : b + c ≤ a) : nI a - nI b - nI c = nI (a - (b + c)) := by
  rw [Int32.sub_sub, nI_add, pk_sub h]
theorem rb_s1 {a b c R : Nat} (h : b + c ≤ a + R) : nI a - nI b - nI c + 1 * nI R = nI (a + R - (b + c)) := by
  rw [Int32.one_mul, Int32.sub_sub, nI_add, Int32.sub_eq_add_neg, Int32.add_assoc, Int32.add_comm (-nI (b + c)), ← Int32.add_assoc, nI_add, ← Int32.sub_eq_add_neg, pk_sub h]
theorem rb_s2 {a b c R : Nat} (h : b + c ≤ a) : nI a - nI b - nI c + 0 * nI R = nI (a - (b + c)) := by
  rw [Int32.zero_mul, Int32.add_zero, rb_s0 h]
theorem rb_dgb {R : Nat} (hR : 2 ≤ R) (hR2 : R ≤ 36) (v i : Nat) : rb_dg R v i < 2 ^ 20 := by
  have := rb_lt hR v i
  omega
theorem rb_n0 {d : Nat} (h : d < 2 ^ 31) : nI d = 0 ↔ d = 0 := by
  rw [← nI_0]
  exact nI_eq h (by decide)
end
section
/-! the columns of a product while they are gathered -/
def rb_G (R v w i j : Nat) (p : Nat → Int32) : Prop := ∃ m : Nat → Nat, (∀ k, k < 48 → p k = nI (m k)) ∧ (∀ k, k < 48 → m k ≤ 1225 * (24 * i + j)) ∧ rb_cs R m 48 = v % R ^ i * w + rb_dg R v i * R ^ i * (w % R ^ j)
theorem rb_G0 {R v w : Nat} {p : Nat → Int32} (h : ∀ k, k < 48 → p k = 0) : rb_G R v w 0 0 p := by
  refine ⟨fun _ => 0, fun k hk => h k hk, fun k _ => Nat.zero_le _, ?_⟩
  rw [rb_cs0, Nat.pow_zero, Nat.mod_one, Nat.mod_one, Nat.zero_mul, Nat.mul_zero]
theorem rb_Gs {R v w i j : Nat} {p : Nat → Int32} (hR : 2 ≤ R) (hR2 : R ≤ 36) (hi : i < 24) (hj : j < 24) (h : rb_G R v w i j p) :
    rb_G R v w i (j + 1) (upd p (i + j) (p (i + j) + nI (rb_dg R v i) * nI (rb_dg R w j))) := by
  obtain ⟨m, h1, h2, h3⟩ := h
  have b := rb_dd hR hR2 v w i j
  refine ⟨fun k => if k = i + j then m k + rb_dg R v i * rb_dg R w j else m k, fun k hk => ?_, fun k hk => ?_, ?_⟩
  · show (if k = i + j then p (i + j) + nI (rb_dg R v i) * nI (rb_dg R w j) else p k) = nI (if k = i + j then m k + rb_dg R v i * rb_dg R w j else m k)
    by_cases e : k = i + j
    · rw [if_pos e, if_pos e, e, h1 (i + j) (by omega), pk_mul, nI_add]
    · rw [if_neg e, if_neg e, h1 k hk]
  · have := h2 k hk
    show (if k = i + j then m k + rb_dg R v i * rb_dg R w j else m k) ≤ 1225 * (24 * i + (j + 1))
    split <;> omega
  · rw [rb_csU, if_pos (by omega), rb_gs h3]
theorem rb_Ge {R v w i : Nat} {p : Nat → Int32} (hw : w < R ^ 24) (h : rb_G R v w i 24 p) : rb_G R v w (i + 1) 0 p := by
  obtain ⟨m, h1, h2, h3⟩ := h
  refine ⟨m, h1, fun k hk => ?_, ?_⟩
  · have := h2 k hk
    omega
  · rw [Nat.pow_zero, Nat.mod_one, Nat.mul_zero, Nat.add_zero]
    exact rb_ge hw h3
theorem rb_GE {R v w : Nat} {p : Nat → Int32} (hv : v < R ^ 24) (h : rb_G R v w 24 0 p) : ∃ m : Nat → Nat, (∀ k, k < 48 → p k = nI (m k)) ∧ (∀ k, k < 48 → m k ≤ 705600) ∧ rb_cs R m 48 = v * w := by
  obtain ⟨m, h1, h2, h3⟩ := h
  refine ⟨m, h1, fun k hk => ?_, ?_⟩
  · have := h2 k hk
    omega
  · rw [h3, Nat.pow_zero, Nat.mod_one, Nat.mul_zero, Nat.add_zero, Nat.mod_eq_of_lt hv]
/-- division by taking out: how often, and what is left -/
theorem rb_to {x w m : Nat} (hw : 0 < w) (hm : m < x / w) : w ≤ x - m * w ∧ x - m * w - w = x - (m + 1) * w := by
  have a : (m + 1) * w ≤ x := (Nat.le_div_iff_mul_le hw).mp hm
  rw [Nat.add_mul, Nat.one_mul] at a ⊢
  omega
theorem rb_tl {x w : Nat} (hw : 0 < w) : x - x / w * w = x % w := by
  have := Nat.div_add_mod' x w
  omega
/-- both bounds of the place that a division fills -/
theorem rb_qb {R x w : Nat} (hw : 0 < w) (h : x < w * R) : x / w < R := by
  rw [Nat.div_lt_iff_lt_mul hw, Nat.mul_comm]
  exact h
theorem rb_xb {R x w n : Nat} (hw : w < R ^ n) (h : x < w * R) : x < R ^ (n + 1) := by
  rw [Nat.pow_succ]
  exact Nat.lt_of_lt_of_le h (Nat.mul_le_mul_right R (Nat.le_of_lt hw))
/-- a stretch of the quotient: places from e on are there -/
def rb_Q (R : Nat) (a : Nat → Int32) (o n e v : Nat) : Prop := ∀ k, k < n → a (o + k) = nI (if k < e then 0 else rb_dg R v k)
theorem rb_Q0 {R : Nat} {a : Nat → Int32} {o n v : Nat} (h : rb_Q R a o n 0 v) : rb_H R a o n v := by
  intro i hi
  rw [h i hi, if_neg (Nat.not_lt_zero i)]
theorem rb_Qs {R : Nat} {a : Nat → Int32} {o n e v : Nat} (h : rb_Q R a o n (e + 1) v) (he : e < n) : rb_Q R (upd a (o + e) (nI (rb_dg R v e))) o n e v := by
  intro k hk
  by_cases c : k = e
  · rw [c, pk_us, if_neg (Nat.lt_irrefl e)]
  · rw [pk_un (by omega), h k hk]
    by_cases d : k < e
    · rw [if_pos d, if_pos (by omega)]
    · rw [if_neg d, if_neg (by omega)]
end
section
theorem rb_y50 (t : Nat) : (50 : Int32) * nI t = nI (50 * t) := by
  rw [show (50 : Int32) = nI 50 from rfl, pk_mul]
/-! copyRow -/
theorem yl_copyRow {post : SY → Prop} {F : Int32} {a : Nat → Int32} {f t : Nat} (hf : f < 10) (ht : t < 10)
    (h : post (F, rb_ov a (50 * t) 0 50 (fun k => a (50 * f + k)))) :
    ∀ d i, i + d = 50 → wY_copyRow_2 post (nI f) (nI t) F (d + 1) (nI i) (rb_ov a (50 * t) 0 i (fun k => a (50 * f + k)))
  | 0, i, e => br_t (nI_le (a := 50) (by omega) (by omega)) (by
      have e2 : i = 50 := by omega
      subst e2
      exact h)
  | d + 1, i, e => br_f (nI_ge (b := 50) (by omega) (by decide))
      ⟨pk_in (50 * f + i) 500 (by omega) (rb_x50 f i), pk_in (50 * t + i) 500 (by omega) (rb_x50 t i),
        nm_r (rb_wu (rb_x50 t i) (by omega) (by rw [rb_ci (rb_x50 f i) (by omega), rb_ovO (by omega)]) (Nat.zero_le i))
          (nm_r (nI_1 i) (yl_copyRow hf ht h d (i + 1) (by omega)))⟩
theorem yy_copyRow {post : SY → Prop} {F : Int32} {a : Nat → Int32} {f t : Nat} (hf : f < 10) (ht : t < 10) {R v : Nat} (H : rb_H R a (50 * f) 50 v)
    (h : ∀ b, rb_H R b (50 * t) 50 v → rb_K t a b → post (F, b)) : wpY_copyRow post (F, a) (nI f) (nI t) := by
  have g : post (F, rb_ov a (50 * t) 0 50 (fun k => a (50 * f + k))) := h _ (rb_ovF (fun i hi => H i hi)) (rb_ovK (by omega))
  have w := yl_copyRow hf ht g 50 0 (by omega)
  rw [rb_ovE] at w
  exact ⟨_, w⟩
/-! setRow -/
theorem yl_setRow {post : SY → Prop} {F : Int32} {a : Nat → Int32} {t : Nat} {x : Int32} (ht : t < 10)
    (h : post (F, upd (rb_ov a (50 * t) 0 50 (fun _ => 0)) (50 * t) x)) :
    ∀ d i, i + d = 50 → wY_setRow_2 post (nI t) x F (d + 1) (nI i) (rb_ov a (50 * t) 0 i (fun _ => 0))
  | 0, i, e => br_t (nI_le (a := 50) (by omega) (by omega)) ⟨pk_in (50 * t) 500 (by omega) (rb_y50 t), nm_r (by
      have e2 : i = 50 := by omega
      subst e2
      rw [rb_y50, nI_clamp (by omega)]) h⟩
  | d + 1, i, e => br_f (nI_ge (b := 50) (by omega) (by decide))
      ⟨pk_in (50 * t + i) 500 (by omega) (rb_x50 t i),
        nm_r (rb_wu (rb_x50 t i) (by omega) rfl (Nat.zero_le i))
          (nm_r (nI_1 i) (yl_setRow ht h d (i + 1) (by omega)))⟩
theorem yy_setRow {post : SY → Prop} {F : Int32} {a : Nat → Int32} {t d : Nat} (ht : t < 10) {R : Nat} (hR : 2 ≤ R) (hd : d < R)
    (h : ∀ b, rb_H R b (50 * t) 50 d → rb_K t a b → post (F, b)) : wpY_setRow post (F, a) (nI t) (nI d) := by
  have g : post (F, upd (rb_ov a (50 * t) 0 50 (fun _ => 0)) (50 * t) (nI d)) := by
    refine h _ ?_ ?_
    · intro i hi
      cases i with
      | zero =>
        rw [Nat.add_zero, pk_us, rb_d0, Nat.mod_eq_of_lt hd]
      | succ i =>
        rw [pk_un (by omega), rb_ovI (Nat.zero_le _) hi, rb_hi (n := 1) hR (by rw [Nat.pow_one]; exact hd) (by omega)]
        rfl
    · exact rb_Kt (rb_ovK (by omega)) (rb_Ku (i := 0) (by omega))
  have w := yl_setRow (x := nI d) ht g 50 0 (by omega)
  rw [rb_ovE] at w
  exact ⟨_, w⟩
/-! order -/
theorem yl_order {post : Int32 → Prop} {F : Int32} {a : Nat → Int32} {r s R v w : Nat} (hr : r < 10) (hs : s < 10) (hR : 2 ≤ R) (hR2 : R ≤ 36)
    (Hv : rb_H R a (50 * r) 50 v) (Hw : rb_H R a (50 * s) 50 w) (h0 : v = w → post 0) (h1 : w < v → post 1) (h2 : v < w → post (-1)) :
    ∀ e, e ≤ 50 → v / R ^ e = w / R ^ e → wY_order_3 post (nI r) (nI s) F a (e + 1) (nI e + (-1))
  | 0, _, q => br_t (by rw [nI_0]; decide) (h0 (rb_o1 q))
  | e + 1, l, q => by
    rw [pk_m1]
    have b1 := rb_dgb hR hR2 v e
    have b2 := rb_dgb hR hR2 w e
    refine br_f (nI_pos (by omega)) ⟨pk_in (50 * r + e) 500 (by omega) (rb_x50 r e), nm_r (rb_rH Hv (by omega) (rb_x50 r e) (by omega))
      ⟨pk_in (50 * s + e) 500 (by omega) (rb_x50 s e), nm_r (rb_rH Hw (by omega) (rb_x50 s e) (by omega)) ?_⟩⟩
    refine pk_eq (rb_dg R v e) (rb_dg R w e) (fun c => nm_e (yl_order hr hs hR hR2 Hv Hw h0 h1 h2 e (by omega) (rb_oe q c))) (fun c => ?_)
    refine pk_le (rb_dg R w e) (rb_dg R v e) (fun c2 => h1 (rb_og q (by omega))) (fun c2 => h2 (rb_og q.symm (by omega)))
theorem yy_order {post : Int32 → Prop} {F : Int32} {a : Nat → Int32} {r s R v w : Nat} (hr : r < 10) (hs : s < 10) (hR : 2 ≤ R) (hR2 : R ≤ 36)
    (Hv : rb_H R a (50 * r) 50 v) (Hw : rb_H R a (50 * s) 50 w) (hv : v < R ^ 50) (hw : w < R ^ 50) (h0 : v = w → post 0) (h1 : w < v → post 1) (h2 : v < w → post (-1)) :
    wpY_order post (F, a) (nI r) (nI s) :=
  ⟨_, yl_order hr hs hR hR2 Hv Hw h0 h1 h2 50 (by omega) (rb_o0 hv hw)⟩
/-! tooLong, zero -/
theorem yl_tooLong {post : Int32 → Prop} {F : Int32} {a : Nat → Int32} {r R v : Nat} (hr : r < 10) (hR : 2 ≤ R) (hR2 : R ≤ 36) (Hv : rb_H R a (50 * r) 50 v) (hv : v < R ^ 50)
    (h0 : v < R ^ 24 → post 0) (h1 : R ^ 24 ≤ v → post 1) :
    ∀ d i, i + d = 50 → 24 ≤ i → (∀ k, 24 ≤ k → k < i → rb_dg R v k = 0) → wY_tooLong_3 post (nI r) F a (d + 1) (nI i)
  | 0, i, e, _, z => br_t (nI_le (a := 50) (by omega) (by omega)) (h0 (rb_top (m := 24) hR 26 hv (fun k k1 k2 => z k k1 (by omega))))
  | d + 1, i, e, l, z => br_f (nI_ge (b := 50) (by omega) (by decide))
      ⟨pk_in (50 * r + i) 500 (by omega) (rb_x50 r i), by
        have b1 := rb_dgb hR hR2 v i
        refine pk_eq (rb_dg R v i) 0 (fun c => nm_r (nI_1 i) (yl_tooLong hr hR hR2 Hv hv h0 h1 d (i + 1) (by omega) (by omega) ?_)) (fun c => h1 (rb_big hR l c)) (rb_rH Hv (by omega) (rb_x50 r i) (by omega))
        intro k k1 k2
        by_cases q : k = i
        · rw [q]
          exact c
        · exact z k k1 (by omega)⟩
theorem yy_tooLong {post : Int32 → Prop} {F : Int32} {a : Nat → Int32} {r R v : Nat} (hr : r < 10) (hR : 2 ≤ R) (hR2 : R ≤ 36) (Hv : rb_H R a (50 * r) 50 v) (hv : v < R ^ 50)
    (h0 : v < R ^ 24 → post 0) (h1 : R ^ 24 ≤ v → post 1) : wpY_tooLong post (F, a) (nI r) :=
  ⟨_, yl_tooLong hr hR hR2 Hv hv h0 h1 26 24 (by omega) (by omega) (fun k k1 k2 => absurd k2 (by omega))⟩
theorem yl_zero {post : Int32 → Prop} {F : Int32} {a : Nat → Int32} {r R v : Nat} (hr : r < 10) (hR : 2 ≤ R) (hR2 : R ≤ 36) (Hv : rb_H R a (50 * r) 50 v) (hv : v < R ^ 50)
    (h0 : v ≠ 0 → post 0) (h1 : v = 0 → post 1) :
    ∀ d i, i + d = 50 → (∀ k, k < i → rb_dg R v k = 0) → wY_zero_2 post (nI r) F a (d + 1) (nI i)
  | 0, i, e, z => br_t (nI_le (a := 50) (by omega) (by omega)) (h1 (rb_zero hR hv (fun k k1 => z k (by omega))))
  | d + 1, i, e, z => br_f (nI_ge (b := 50) (by omega) (by decide))
      ⟨pk_in (50 * r + i) 500 (by omega) (rb_x50 r i), by
        have b1 := rb_dgb hR hR2 v i
        refine pk_eq (rb_dg R v i) 0 (fun c => nm_r (nI_1 i) (yl_zero hr hR hR2 Hv hv h0 h1 d (i + 1) (by omega) ?_)) (fun c => h0 (rb_ne c)) (rb_rH Hv (by omega) (rb_x50 r i) (by omega))
        intro k k1
        by_cases q : k = i
        · rw [q]
          exact c
        · exact z k (by omega)⟩
theorem yy_zero {post : Int32 → Prop} {F : Int32} {a : Nat → Int32} {r R v : Nat} (hr : r < 10) (hR : 2 ≤ R) (hR2 : R ≤ 36) (Hv : rb_H R a (50 * r) 50 v) (hv : v < R ^ 50)
    (h0 : v ≠ 0 → post 0) (h1 : v = 0 → post 1) : wpY_zero post (F, a) (nI r) :=
  ⟨_, yl_zero hr hR hR2 Hv hv h0 h1 50 0 (by omega) (fun k k1 => absurd k1 (by omega))⟩
/-! addRow, takeRow -/
theorem yl_addRow {post : SY → Prop} {a : Nat → Int32} {r s R v w : Nat} (hr : r < 10) (hs : s < 10) (hrs : s ≠ r) (hR : 2 ≤ R) (hR2 : R ≤ 36)
    (Hv : rb_H R a (50 * r) 50 v) (Hw : rb_H R a (50 * s) 50 w) (h : post (nI R, rb_ov a (50 * r) 0 50 (fun k => nI (rb_dg R (v + w) k)))) :
    ∀ d i, i + d = 50 → wY_addRow_5 post (nI r) (nI s) (nI R) (d + 1) (nI (rb_ca R v w i)) (nI i) (rb_ov a (50 * r) 0 i (fun k => nI (rb_dg R (v + w) k)))
  | 0, i, e => br_t (nI_le (a := 50) (by omega) (by omega)) (by
      have e2 : i = 50 := by omega
      subst e2
      exact h)
  | d + 1, i, e => by
    have b1 := rb_lt hR v i
    have b2 := rb_lt hR w i
    have b3 := rb_ca1 hR v w i
    have hc := rb_cse (rb_cal hR v w i) (rb_lt hR (v + w) i) (rb_ca1 hR v w (i + 1))
    have r1 : rb_ov a (50 * r) 0 i (fun k => nI (rb_dg R (v + w) k)) (50 * nI r + nI i).toNatClampNeg = nI (rb_dg R v i) := by
      rw [rb_ci (rb_x50 r i) (by omega)]
      exact rb_ovH Hv (by omega) (by omega)
    have r2 : rb_ov a (50 * r) 0 i (fun k => nI (rb_dg R (v + w) k)) (50 * nI s + nI i).toNatClampNeg = nI (rb_dg R w i) := by
      rw [rb_ci (rb_x50 s i) (by omega)]
      exact rb_ovH Hw (by omega) (by omega)
    refine br_f (nI_ge (b := 50) (by omega) (by decide)) ⟨pk_in (50 * r + i) 500 (by omega) (rb_x50 r i), pk_in (50 * s + i) 500 (by omega) (rb_x50 s i), nm_r (e' := nI (rb_dg R v i + rb_dg R w i + rb_ca R v w i)) (by rw [r1, r2, nI_add, nI_add]) ?_⟩
    have ih := yl_addRow hr hs hrs hR hR2 Hv Hw h d (i + 1) (by omega)
    refine pk_lt (rb_dg R v i + rb_dg R w i + rb_ca R v w i) R (fun c => ?_) (fun c => ?_)
    · obtain ⟨c1, c2⟩ := hc.1 c
      rw [c1] at ih
      exact ⟨pk_in (50 * r + i) 500 (by omega) (rb_x50 r i), nm_r (rb_wu (rb_x50 r i) (by omega) (by rw [rb_a0, c2]) (Nat.zero_le i)) (nm_r (nI_1 i) ih)⟩
    · obtain ⟨c1, c2⟩ := hc.2 c
      rw [c1] at ih
      exact ⟨pk_in (50 * r + i) 500 (by omega) (rb_x50 r i), nm_r (rb_wu (rb_x50 r i) (by omega) (by rw [rb_a1 c, c2]) (Nat.zero_le i)) (nm_r (nI_1 i) ih)⟩
theorem yy_addRow {post : SY → Prop} {a : Nat → Int32} {r s R v w : Nat} (hr : r < 10) (hs : s < 10) (hrs : s ≠ r) (hR : 2 ≤ R) (hR2 : R ≤ 36)
    (Hv : rb_H R a (50 * r) 50 v) (Hw : rb_H R a (50 * s) 50 w) (h : ∀ b, rb_H R b (50 * r) 50 (v + w) → rb_K r a b → post (nI R, b)) : wpY_addRow post (nI R, a) (nI r) (nI s) := by
  have g : post (nI R, rb_ov a (50 * r) 0 50 (fun k => nI (rb_dg R (v + w) k))) := h _ (rb_ovF (fun i hi => rfl)) (rb_ovK (by omega))
  have w := yl_addRow hr hs hrs hR hR2 Hv Hw g 50 0 (by omega)
  rw [rb_ovE, rb_ca0] at w
  exact ⟨_, w⟩
theorem rb_tk {u w b b' v R : Nat} (h : u + w + b = b' * R + v) (hu : u < R) (hb : b' ≤ 1) (hv : v < R) : (v < w + b → b' = 1 ∧ v + R - (w + b) = u) ∧ (w + b ≤ v → b' = 0 ∧ v - (w + b) = u) := by
  rcases Nat.le_one_iff_eq_zero_or_eq_one.mp hb with e | e
  · subst e
    rw [Nat.zero_mul, Nat.zero_add] at h
    omega
  · subst e
    rw [Nat.one_mul] at h
    omega
theorem yl_takeRow {post : SY → Prop} {a : Nat → Int32} {r s R u w : Nat} (hr : r < 10) (hs : s < 10) (hrs : s ≠ r) (hR : 2 ≤ R) (hR2 : R ≤ 36)
    (Hv : rb_H R a (50 * r) 50 (u + w)) (Hw : rb_H R a (50 * s) 50 w) (h : post (nI R, rb_ov a (50 * r) 0 50 (fun k => nI (rb_dg R u k)))) :
    ∀ d i, i + d = 50 → wY_takeRow_5 post (nI r) (nI s) (nI R) (d + 1) (nI (rb_ca R u w i)) (nI i) (rb_ov a (50 * r) 0 i (fun k => nI (rb_dg R u k)))
  | 0, i, e => br_t (nI_le (a := 50) (by omega) (by omega)) (by
      have e2 : i = 50 := by omega
      subst e2
      exact h)
  | d + 1, i, e => by
    have b1 := rb_lt hR (u + w) i
    have b2 := rb_lt hR w i
    have b3 := rb_ca1 hR u w i
    have hc := rb_tk (rb_cal hR u w i) (rb_lt hR u i) (rb_ca1 hR u w (i + 1)) (rb_lt hR (u + w) i)
    have r1 : rb_ov a (50 * r) 0 i (fun k => nI (rb_dg R u k)) (50 * nI r + nI i).toNatClampNeg = nI (rb_dg R (u + w) i) := by
      rw [rb_ci (rb_x50 r i) (by omega)]
      exact rb_ovH Hv (by omega) (by omega)
    have r2 : rb_ov a (50 * r) 0 i (fun k => nI (rb_dg R u k)) (50 * nI s + nI i).toNatClampNeg = nI (rb_dg R w i) := by
      rw [rb_ci (rb_x50 s i) (by omega)]
      exact rb_ovH Hw (by omega) (by omega)
    refine br_f (nI_ge (b := 50) (by omega) (by decide)) ⟨pk_in (50 * r + i) 500 (by omega) (rb_x50 r i), pk_in (50 * s + i) 500 (by omega) (rb_x50 s i), nm_r (e' := nI (rb_dg R (u + w) i) - nI (rb_dg R w i) - nI (rb_ca R u w i)) (by rw [r1, r2]) ?_⟩
    have ih := yl_takeRow hr hs hrs hR hR2 Hv Hw h d (i + 1) (by omega)
    by_cases c : rb_dg R (u + w) i < rb_dg R w i + rb_ca R u w i
    · obtain ⟨c1, c2⟩ := hc.1 c
      rw [c1] at ih
      refine br_f (Int32.not_le.mpr (rb_sn c (by omega))) (⟨pk_in (50 * r + i) 500 (by omega) (rb_x50 r i), nm_r (rb_wu (rb_x50 r i) (by omega) (by rw [rb_s1 (by omega), c2]) (Nat.zero_le i)) (nm_r (nI_1 i) ih)⟩)
    · obtain ⟨c1, c2⟩ := hc.2 (by omega)
      rw [c1] at ih
      refine br_t (by rw [rb_s0 (by omega)]; exact nI_pos' (by omega)) (⟨pk_in (50 * r + i) 500 (by omega) (rb_x50 r i), nm_r (rb_wu (rb_x50 r i) (by omega) (by rw [rb_s2 (by omega), c2]) (Nat.zero_le i)) (nm_r (nI_1 i) ih)⟩)
theorem yy_takeRow {post : SY → Prop} {a : Nat → Int32} {r s R v w : Nat} (hr : r < 10) (hs : s < 10) (hrs : s ≠ r) (hR : 2 ≤ R) (hR2 : R ≤ 36)
    (Hv : rb_H R a (50 * r) 50 v) (Hw : rb_H R a (50 * s) 50 w) (hl : w ≤ v) (h : ∀ b, rb_H R b (50 * r) 50 (v - w) → rb_K r a b → post (nI R, b)) : wpY_takeRow post (nI R, a) (nI r) (nI s) := by
  obtain ⟨u, rfl⟩ : ∃ u, v = u + w := ⟨v - w, by omega⟩
  rw [Nat.add_sub_cancel] at h
  have g : post (nI R, rb_ov a (50 * r) 0 50 (fun k => nI (rb_dg R u k))) := h _ (rb_ovF (fun i hi => rfl)) (rb_ovK (by omega))
  have w := yl_takeRow hr hs hrs hR hR2 Hv Hw g 50 0 (by omega)
  rw [rb_ovE, rb_ca0] at w
  exact ⟨_, w⟩
/-! feedRow: from place 49 down to 1 -/
theorem yl_feedRow {post : SY → Prop} {F : Int32} {a : Nat → Int32} {r : Nat} {x : Int32} (hr : r < 10)
    (h : post (F, upd (rb_ov a (50 * r) 1 50 (fun k => a (50 * r + (k - 1)))) (50 * r) x)) :
    ∀ e, e < 50 → wY_feedRow_3 post (nI r) x F (e + 1) (nI e) (rb_ov a (50 * r) (e + 1) 50 (fun k => a (50 * r + (k - 1))))
  | 0, _ => br_t (by rw [nI_0]; decide) ⟨pk_in (50 * r) 500 (by omega) (rb_y50 r), nm_r (by rw [rb_y50, nI_clamp (by omega)]) h⟩
  | e + 1, l => by
    have x1 : (50 : Int32) * nI r + nI (e + 1) - 1 = nI (50 * r + e) := by
      rw [rb_x50, ← Nat.add_assoc, nI_pred]
    refine br_f (nI_nle (by omega) (by omega)) ⟨pk_in (50 * r + e) 500 (by omega) x1, pk_in (50 * r + (e + 1)) 500 (by omega) (rb_x50 r (e + 1)),
      nm_r (rb_wd (rb_x50 r (e + 1)) (by omega) ?_ l) (nm_r (pk_m1 e) (yl_feedRow hr h e (by omega)))⟩
    exact (rb_rd x1 (by omega)).trans ((rb_ovO (by omega)).trans (congrArg a (by omega)))
theorem yy_feedRow {post : SY → Prop} {F : Int32} {a : Nat → Int32} {r d R v : Nat} (hr : r < 10) (hR : 2 ≤ R) (hd : d < R) (Hv : rb_H R a (50 * r) 50 v)
    (h : ∀ b, rb_H R b (50 * r) 50 (v * R + d) → rb_K r a b → post (F, b)) : wpY_feedRow post (F, a) (nI r) (nI d) := by
  have g : post (F, upd (rb_ov a (50 * r) 1 50 (fun k => a (50 * r + (k - 1)))) (50 * r) (nI d)) := by
    refine h _ ?_ ?_
    · intro i hi
      cases i with
      | zero => rw [Nat.add_zero, pk_us, rb_pl v d hd]
      | succ i =>
        rw [pk_un (by omega), rb_ovI (by omega) hi, rb_ph hR v d i hd, Nat.add_sub_cancel]
        exact Hv i (by omega)
    · exact rb_Kt (rb_ovK (by omega)) (rb_Ku (i := 0) (by omega))
  have w := yl_feedRow (x := nI d) hr g 49 (by omega)
  rw [rb_ovE] at w
  exact ⟨_, w⟩
/-! multiplyRow -/
theorem yl_mulIn {post : SY → Prop} {J : Int32 → (Nat → Int32) → Prop} {b : Nat → Int32} {t r s R v w i : Nat} (ht : t < 10) (hr : r < 10) (hs : s < 10) (htr : r ≠ t) (hts : s ≠ t) (hR : 2 ≤ R) (hR2 : R ≤ 36)
    (hw : w < R ^ 24) (hi : i < 24) (HT : rb_H R b (50 * t) 50 (v % R ^ i * w)) (Hr : rb_H R b (50 * r) 24 v) (Hs : rb_H R b (50 * s) 24 w)
    (hJ : ∀ b', rb_H R b' (50 * t) 50 (v % R ^ (i + 1) * w) → rb_K t b b' → J (nI (i + 1)) b') :
    ∀ d j, j + d = 26 → wY_multiplyRow_40 post J (nI t) (nI r) (nI s) (nI R) (nI i) (nI R) (d + 1) (nI (rb_cs R (rb_mc R (v % R ^ i * w) (rb_dg R v i) w i) j / R ^ j)) (nI j) (rb_ov b (50 * t) i (i + j) (fun k => nI (rb_dg R (v % R ^ (i + 1) * w) k)))
  | 0, j, e => br_t (nI_le (a := 26) (by omega) (by omega)) (nm_r (nI_1 i) (by
      have e2 : j = 26 := by omega
      subst e2
      refine hJ _ ?_ (rb_ovK (by omega))
      intro k hk
      by_cases c : i ≤ k ∧ k < i + 26
      · exact rb_ovI c.1 c.2
      · rw [rb_ovO (by omega), HT k hk]
        by_cases c2 : k < i
        · rw [rb_mlo hR v w c2]
        · rw [rb_mhi hR v hw (by omega)]))
  | d + 1, j, e => by
    have b1 := rb_mcb hR hR2 (v % R ^ i * w) v w i i j
    have b2 := rb_ccb (B := 1260) hR (rb_mc R (v % R ^ i * w) (rb_dg R v i) w i) j (fun k _ => rb_mcb hR hR2 _ v w i i k)
    have ih := yl_mulIn (post := post) ht hr hs htr hts hR hR2 hw hi HT Hr Hs hJ d (j + 1) (by omega)
    rw [rb_cc hR] at ih
    have m1 := rb_mmid hR v (i := i) hw (by omega : j < 26)
    have x1 : (50 : Int32) * nI t + nI i + nI j = nI (50 * t + (i + j)) := by
      rw [rb_x50, nI_add, Nat.add_assoc]
    have r1 : rb_ov b (50 * t) i (i + j) (fun k => nI (rb_dg R (v % R ^ (i + 1) * w) k)) (50 * nI t + nI i + nI j).toNatClampNeg = nI (rb_dg R (v % R ^ i * w) (i + j)) := by
      rw [rb_ci x1 (by omega)]
      exact rb_ovH HT (by omega) (by omega)
    have r2 : rb_ov b (50 * t) i (i + j) (fun k => nI (rb_dg R (v % R ^ (i + 1) * w) k)) (50 * nI r + nI i).toNatClampNeg = nI (rb_dg R v i) := by
      rw [rb_ci (rb_x50 r i) (by omega)]
      exact rb_ovH Hr (by omega) (by omega)
    have fin : wY_multiplyRow_70 post J (wY_multiplyRow_40 post J (nI t) (nI r) (nI s) (nI R) (nI i) (nI R) (d + 1)) (nI t) (nI r) (nI s) (nI R) (nI i) (nI (rb_cs R (rb_mc R (v % R ^ i * w) (rb_dg R v i) w i) j / R ^ j)) (nI j) (nI (rb_dg R w j)) (nI R) (rb_ov b (50 * t) i (i + j) (fun k => nI (rb_dg R (v % R ^ (i + 1) * w) k))) := by
      refine ⟨pk_in (50 * t + (i + j)) 500 (by omega) x1, pk_in (50 * r + i) 500 (by omega) (rb_x50 r i), nm_r (e' := nI (rb_mc R (v % R ^ i * w) (rb_dg R v i) w i j + rb_cs R (rb_mc R (v % R ^ i * w) (rb_dg R v i) w i) j / R ^ j)) (by rw [r1, r2, pk_mul, nI_add, nI_add]; rfl) ?_⟩
      refine ⟨nI_ne0 (by omega) (by omega), pk_in (50 * t + (i + j)) 500 (by omega) x1, nm_r (rb_wu x1 (by omega) (by rw [pk_rem (by omega) (by omega) (by omega), ← m1]) (by omega)) ⟨nI_ne0 (by omega) (by omega), nm_r (pk_div (by omega) (by omega) (by omega)) (nm_r (nI_1 j) ih)⟩⟩
    refine br_f (nI_ge (b := 26) (by omega) (by decide)) ?_
    by_cases c : j < 24
    · refine br_f (nI_ge (b := 24) c (by decide)) ⟨pk_in (50 * s + j) 500 (by omega) (rb_x50 s j), ?_⟩
      have r3 : rb_ov b (50 * t) i (i + j) (fun k => nI (rb_dg R (v % R ^ (i + 1) * w) k)) (50 * nI s + nI j).toNatClampNeg = nI (rb_dg R w j) := by
        rw [rb_ci (rb_x50 s j) (by omega)]
        exact rb_ovH Hs c (by omega)
      rw [r3]
      exact fin
    · refine br_t (nI_le (a := 24) (by omega) (by omega)) ?_
      rw [rb_hi hR hw (by omega)] at fin
      exact fin
theorem yl_mulOut {post : SY → Prop} {a : Nat → Int32} {t r s R v w : Nat} (ht : t < 10) (hr : r < 10) (hs : s < 10) (htr : r ≠ t) (hts : s ≠ t) (hR : 2 ≤ R) (hR2 : R ≤ 36)
    (hv : v < R ^ 24) (hw : w < R ^ 24) (Hr : rb_H R a (50 * r) 24 v) (Hs : rb_H R a (50 * s) 24 w)
    (h : ∀ b, rb_H R b (50 * t) 50 (v * w) → rb_K t a b → post (nI R, b)) :
    ∀ d i b, i + d = 24 → rb_H R b (50 * t) 50 (v % R ^ i * w) → rb_K t a b → wY_multiplyRow_27 post (nI t) (nI r) (nI s) (nI R) (nI R) (d + 1) (nI i) b
  | 0, i, b, e, H, k => br_t (nI_le (a := 24) (by omega) (by omega)) (by
      have e2 : i = 24 := by omega
      subst e2
      rw [Nat.mod_eq_of_lt hv] at H
      exact h b H k)
  | d + 1, i, b, e, H, k => by
    refine br_f (nI_ge (b := 24) (by omega) (by decide)) ⟨27, ?_⟩
    have w1 := yl_mulIn (post := post) (J := wY_multiplyRow_27 post (nI t) (nI r) (nI s) (nI R) (nI R) (d + 1)) ht hr hs htr hts hR hR2 hw (by omega : i < 24) H (rb_KH k htr (by omega) Hr) (rb_KH k hts (by omega) Hs)
      (fun b' H' k' => yl_mulOut ht hr hs htr hts hR hR2 hv hw Hr Hs h d (i + 1) b' (by omega) H' (rb_Kt k k')) 26 0 (by omega)
    rw [Nat.add_zero i, rb_ovE] at w1
    have z : rb_cs R (rb_mc R (v % R ^ i * w) (rb_dg R v i) w i) 0 / R ^ 0 = 0 := Nat.zero_div _
    rw [z] at w1
    exact w1
theorem yy_multiplyRow {post : SY → Prop} {a : Nat → Int32} {t r s R v w : Nat} (ht : t < 10) (hr : r < 10) (hs : s < 10) (htr : r ≠ t) (hts : s ≠ t) (hR : 2 ≤ R) (hR2 : R ≤ 36)
    (hv : v < R ^ 24) (hw : w < R ^ 24) (Hr : rb_H R a (50 * r) 24 v) (Hs : rb_H R a (50 * s) 24 w)
    (h : ∀ b, rb_H R b (50 * t) 50 (v * w) → rb_K t a b → post (nI R, b)) : wpY_multiplyRow post (nI R, a) (nI t) (nI r) (nI s) := by
  refine br_t (nI_le (a := 2) hR (by omega)) (yy_setRow (R := R) (d := 0) ht hR (by omega) (fun b H k => ⟨25, ?_⟩))
  refine yl_mulOut ht hr hs htr hts hR hR2 hv hw (rb_KH k htr (by omega) Hr) (rb_KH k hts (by omega) Hs) (fun b' H' k' => h b' H' (rb_Kt k k')) 24 0 b (by omega) ?_ (rb_Kr _ _)
  rw [Nat.pow_zero, Nat.mod_one, Nat.zero_mul]
  exact H
/-! cut -/
theorem yl_cut {post : Int32 → SY → Prop} {a : Nat → Int32} {R v m : Nat} (hR : 2 ≤ R) (hR2 : R ≤ 36) (hm : 0 < m) (hm2 : m ≤ 1000000) (H : rb_H R a 250 24 v)
    (h : post (nI (v % m)) (nI R, rb_ov a 250 0 24 (fun k => nI (rb_dg R (v / m) k)))) :
    ∀ e, e ≤ 24 → wY_cut_17 post (nI m) (nI R) (e + 1) (nI (v / R ^ e % m)) (nI e + (-1)) (rb_ov a 250 e 24 (fun k => nI (rb_dg R (v / m) k)))
  | 0, _ => br_t (by rw [nI_0]; decide) (by rw [Nat.pow_zero, Nat.div_one]; exact h)
  | e + 1, l => by
    rw [pk_m1]
    have b1 := rb_lt hR v e
    have b2 := Nat.mod_lt (v / R ^ (e + 1)) hm
    have b3 := rb_ldb hR hm v e
    have b4 : m * R ≤ 1000000 * 36 := Nat.mul_le_mul hm2 hR2
    have x1 : (250 : Int32) + nI e = nI (250 + e) := by rw [show (250 : Int32) = nI 250 from rfl, nI_add]
    have ih := yl_cut hR hR2 hm hm2 H h e (by omega)
    rw [← rb_ldr hm] at ih
    have q := rb_ldq hR hm v e
    have r1 : rb_ov a 250 (e + 1) 24 (fun k => nI (rb_dg R (v / m) k)) (250 + nI e).toNatClampNeg = nI (rb_dg R v e) := by
      rw [rb_ci x1 (by omega)]
      exact rb_ovH H (by omega) (by omega)
    exact br_f (nI_pos (by omega)) ⟨pk_in (250 + e) 500 (by omega) x1, nm_r (e' := nI (v / R ^ (e + 1) % m * R + rb_dg R v e)) (by rw [r1, pk_mul, nI_add])
      ⟨nI_ne0 hm (by omega), pk_in (250 + e) 500 (by omega) x1, nm_r (rb_wd x1 (by omega) (by rw [pk_div (by omega) hm (by omega), q]) (by omega)) ⟨nI_ne0 hm (by omega), nm_r (pk_rem (by omega) hm (by omega)) (nm_e ih)⟩⟩⟩
end
section
theorem rb_ovI0 {a : Nat → Int32} {lo hi k : Nat} {g : Nat → Int32} (h1 : lo ≤ k) (h2 : k < hi) : rb_ov a 0 lo hi g k = g k := by
  have := rb_ovI (a := a) (o := 0) (g := g) h1 h2
  rw [Nat.zero_add] at this
  exact this
theorem rb_ovH0 {R : Nat} {a : Nat → Int32} {lo hi n v : Nat} {g : Nat → Int32} {i : Nat} (H : rb_H R a 0 n v) (hi2 : i < n) (h : i < lo ∨ hi ≤ i) : rb_ov a 0 lo hi g i = nI (rb_dg R v i) := by
  rw [rb_ovO (by omega), rb_H0 H hi2]
/-- all but register t is as it was -/
def rb_KX (t : Nat) (a b : Nat → Int32) : Prop := ∀ j, (j < 24 * t ∨ 24 * t + 24 ≤ j) → b j = a j
theorem rb_KXH {R t r v : Nat} {a b : Nat → Int32} (k : rb_KX t a b) (h : r ≠ t) (H : rb_H R a (24 * r) 24 v) : rb_H R b (24 * r) 24 v := by
  intro i hi
  rw [k (24 * r + i) (by omega), H i hi]
theorem rb_close {R : Nat} (hR : 2 ≤ R) {a : Nat → Int32} {v : Nat} (H : rb_H R a 0 24 v) (hv : v < R ^ 24) : rb_H R (upd a 24 0) 0 25 v := by
  refine rb_H0i (fun i hi => ?_)
  by_cases e : i = 24
  · rw [e, pk_us, rb_hi hR hv (Nat.le_refl 24)]
    rfl
  · rw [pk_un e, rb_H0 H (by omega)]
theorem xl_load_left {post : SX → Prop} {F : Int32} {c l r q s p : Nat → Int32} {a : Nat} (ha : a < 4)
    (h : post (F, c, upd (rb_ov l 0 0 24 (fun k => c (24 * a + k))) 24 0, r, q, s, p)) :
    ∀ d i, i + d = 24 → wX_load__left_2 post (nI a) F (d + 1) (nI i) c (rb_ov l 0 0 i (fun k => c (24 * a + k))) r q s p
  | 0, i, e => br_t (nI_le (a := 24) (by omega) (by omega)) (nm_e (by
      have e2 : i = 24 := by omega
      subst e2
      exact h))
  | d + 1, i, e => br_f (nI_ge (b := 24) (by omega) (by decide))
      ⟨pk_in (24 * a + i) 96 (by omega) (rb_x24 a i), pk_in i 25 (by omega),
        nm_r (rb_wu0 rfl (by omega) (by rw [rb_ci (rb_x24 a i) (by omega)]) (Nat.zero_le i))
          (nm_r (nI_1 i) (xl_load_left ha h d (i + 1) (by omega)))⟩
theorem xx_load_left {post : SX → Prop} {F : Int32} {c l r q s p : Nat → Int32} {a R v : Nat} (ha : a < 4) (hR : 2 ≤ R) (H : rb_H R c (24 * a) 24 v) (hv : v < R ^ 24)
    (h : ∀ l', rb_H R l' 0 25 v → post (F, c, l', r, q, s, p)) : wpX_load__left post (F, c, l, r, q, s, p) (nI a) := by
  have g := h (upd (rb_ov l 0 0 24 (fun k => c (24 * a + k))) 24 0) (rb_close hR (rb_ovF (fun i hi => H i hi)) hv)
  have w := xl_load_left ha g 24 0 (by omega)
  rw [rb_ovE] at w
  exact ⟨_, w⟩
theorem xl_load_right {post : SX → Prop} {F : Int32} {c l r q s p : Nat → Int32} {a : Nat} (ha : a < 4)
    (h : post (F, c, l, upd (rb_ov r 0 0 24 (fun k => c (24 * a + k))) 24 0, q, s, p)) :
    ∀ d i, i + d = 24 → wX_load__right_2 post (nI a) F (d + 1) (nI i) c l (rb_ov r 0 0 i (fun k => c (24 * a + k))) q s p
  | 0, i, e => br_t (nI_le (a := 24) (by omega) (by omega)) (nm_e (by
      have e2 : i = 24 := by omega
      subst e2
      exact h))
  | d + 1, i, e => br_f (nI_ge (b := 24) (by omega) (by decide))
      ⟨pk_in (24 * a + i) 96 (by omega) (rb_x24 a i), pk_in i 25 (by omega),
        nm_r (rb_wu0 rfl (by omega) (by rw [rb_ci (rb_x24 a i) (by omega)]) (Nat.zero_le i))
          (nm_r (nI_1 i) (xl_load_right ha h d (i + 1) (by omega)))⟩
theorem xx_load_right {post : SX → Prop} {F : Int32} {c l r q s p : Nat → Int32} {a R v : Nat} (ha : a < 4) (hR : 2 ≤ R) (H : rb_H R c (24 * a) 24 v) (hv : v < R ^ 24)
    (h : ∀ r', rb_H R r' 0 25 v → post (F, c, l, r', q, s, p)) : wpX_load__right post (F, c, l, r, q, s, p) (nI a) := by
  have g := h (upd (rb_ov r 0 0 24 (fun k => c (24 * a + k))) 24 0) (rb_close hR (rb_ovF (fun i hi => H i hi)) hv)
  have w := xl_load_right ha g 24 0 (by omega)
  rw [rb_ovE] at w
  exact ⟨_, w⟩
theorem xl_store_left {post : SX → Prop} {F : Int32} {c l r q s p : Nat → Int32} {a : Nat} (ha : a < 4)
    (h : post (F, rb_ov c (24 * a) 0 24 (fun k => l k), l, r, q, s, p)) :
    ∀ d i, i + d = 24 → wX_store__left_2 post (nI a) F (d + 1) (nI i) (rb_ov c (24 * a) 0 i (fun k => l k)) l r q s p
  | 0, i, e => br_t (nI_le (a := 24) (by omega) (by omega)) (by
      have e2 : i = 24 := by omega
      subst e2
      exact h)
  | d + 1, i, e => br_f (nI_ge (b := 24) (by omega) (by decide))
      ⟨pk_in i 25 (by omega), pk_in (24 * a + i) 96 (by omega) (rb_x24 a i),
        nm_r (rb_wu (rb_x24 a i) (by omega) (by rw [rb_ci rfl (by omega)]) (Nat.zero_le i))
          (nm_r (nI_1 i) (xl_store_left ha h d (i + 1) (by omega)))⟩
theorem xx_store_left {post : SX → Prop} {F : Int32} {c l r q s p : Nat → Int32} {a R v : Nat} (ha : a < 4) (H : rb_H R l 0 24 v)
    (h : ∀ c', rb_H R c' (24 * a) 24 v → rb_KX a c c' → post (F, c', l, r, q, s, p)) : wpX_store__left post (F, c, l, r, q, s, p) (nI a) := by
  have g := h (rb_ov c (24 * a) 0 24 (fun k => l k)) (rb_ovF (fun i hi => rb_H0 H hi)) (fun j hj => rb_ovO (by omega))
  have w := xl_store_left ha g 24 0 (by omega)
  rw [rb_ovE] at w
  exact ⟨_, w⟩
theorem xl_store_right {post : SX → Prop} {F : Int32} {c l r q s p : Nat → Int32} {a : Nat} (ha : a < 4)
    (h : post (F, rb_ov c (24 * a) 0 24 (fun k => r k), l, r, q, s, p)) :
    ∀ d i, i + d = 24 → wX_store__right_2 post (nI a) F (d + 1) (nI i) (rb_ov c (24 * a) 0 i (fun k => r k)) l r q s p
  | 0, i, e => br_t (nI_le (a := 24) (by omega) (by omega)) (by
      have e2 : i = 24 := by omega
      subst e2
      exact h)
  | d + 1, i, e => br_f (nI_ge (b := 24) (by omega) (by decide))
      ⟨pk_in i 25 (by omega), pk_in (24 * a + i) 96 (by omega) (rb_x24 a i),
        nm_r (rb_wu (rb_x24 a i) (by omega) (by rw [rb_ci rfl (by omega)]) (Nat.zero_le i))
          (nm_r (nI_1 i) (xl_store_right ha h d (i + 1) (by omega)))⟩
theorem xx_store_right {post : SX → Prop} {F : Int32} {c l r q s p : Nat → Int32} {a R v : Nat} (ha : a < 4) (H : rb_H R r 0 24 v)
    (h : ∀ c', rb_H R c' (24 * a) 24 v → rb_KX a c c' → post (F, c', l, r, q, s, p)) : wpX_store__right post (F, c, l, r, q, s, p) (nI a) := by
  have g := h (rb_ov c (24 * a) 0 24 (fun k => r k)) (rb_ovF (fun i hi => rb_H0 H hi)) (fun j hj => rb_ovO (by omega))
  have w := xl_store_right ha g 24 0 (by omega)
  rw [rb_ovE] at w
  exact ⟨_, w⟩
theorem xl_store_quotient {post : SX → Prop} {F : Int32} {c l r q s p : Nat → Int32} {a : Nat} (ha : a < 4)
    (h : post (F, rb_ov c (24 * a) 0 24 (fun k => q k), l, r, q, s, p)) :
    ∀ d i, i + d = 24 → wX_store__quotient_2 post (nI a) F (d + 1) (nI i) (rb_ov c (24 * a) 0 i (fun k => q k)) l r q s p
  | 0, i, e => br_t (nI_le (a := 24) (by omega) (by omega)) (by
      have e2 : i = 24 := by omega
      subst e2
      exact h)
  | d + 1, i, e => br_f (nI_ge (b := 24) (by omega) (by decide))
      ⟨pk_in i 24 (by omega), pk_in (24 * a + i) 96 (by omega) (rb_x24 a i),
        nm_r (rb_wu (rb_x24 a i) (by omega) (by rw [rb_ci rfl (by omega)]) (Nat.zero_le i))
          (nm_r (nI_1 i) (xl_store_quotient ha h d (i + 1) (by omega)))⟩
theorem xx_store_quotient {post : SX → Prop} {F : Int32} {c l r q s p : Nat → Int32} {a R v : Nat} (ha : a < 4) (H : rb_H R q 0 24 v)
    (h : ∀ c', rb_H R c' (24 * a) 24 v → rb_KX a c c' → post (F, c', l, r, q, s, p)) : wpX_store__quotient post (F, c, l, r, q, s, p) (nI a) := by
  have g := h (rb_ov c (24 * a) 0 24 (fun k => q k)) (rb_ovF (fun i hi => rb_H0 H hi)) (fun j hj => rb_ovO (by omega))
  have w := xl_store_quotient ha g 24 0 (by omega)
  rw [rb_ovE] at w
  exact ⟨_, w⟩
theorem xl_store_rest {post : SX → Prop} {F : Int32} {c l r q s p : Nat → Int32} {a : Nat} (ha : a < 4)
    (h : post (F, rb_ov c (24 * a) 0 24 (fun k => s k), l, r, q, s, p)) :
    ∀ d i, i + d = 24 → wX_store__rest_2 post (nI a) F (d + 1) (nI i) (rb_ov c (24 * a) 0 i (fun k => s k)) l r q s p
  | 0, i, e => br_t (nI_le (a := 24) (by omega) (by omega)) (by
      have e2 : i = 24 := by omega
      subst e2
      exact h)
  | d + 1, i, e => br_f (nI_ge (b := 24) (by omega) (by decide))
      ⟨pk_in i 25 (by omega), pk_in (24 * a + i) 96 (by omega) (rb_x24 a i),
        nm_r (rb_wu (rb_x24 a i) (by omega) (by rw [rb_ci rfl (by omega)]) (Nat.zero_le i))
          (nm_r (nI_1 i) (xl_store_rest ha h d (i + 1) (by omega)))⟩
theorem xx_store_rest {post : SX → Prop} {F : Int32} {c l r q s p : Nat → Int32} {a R v : Nat} (ha : a < 4) (H : rb_H R s 0 24 v)
    (h : ∀ c', rb_H R c' (24 * a) 24 v → rb_KX a c c' → post (F, c', l, r, q, s, p)) : wpX_store__rest post (F, c, l, r, q, s, p) (nI a) := by
  have g := h (rb_ov c (24 * a) 0 24 (fun k => s k)) (rb_ovF (fun i hi => rb_H0 H hi)) (fun j hj => rb_ovO (by omega))
  have w := xl_store_rest ha g 24 0 (by omega)
  rw [rb_ovE] at w
  exact ⟨_, w⟩
theorem xl_store_product {post : SX → Prop} {F : Int32} {c l r q s p : Nat → Int32} {a : Nat} (ha : a < 4)
    (h : post (F, rb_ov c (24 * a) 0 24 (fun k => p k), l, r, q, s, p)) :
    ∀ d i, i + d = 24 → wX_store__product_2 post (nI a) F (d + 1) (nI i) (rb_ov c (24 * a) 0 i (fun k => p k)) l r q s p
  | 0, i, e => br_t (nI_le (a := 24) (by omega) (by omega)) (by
      have e2 : i = 24 := by omega
      subst e2
      exact h)
  | d + 1, i, e => br_f (nI_ge (b := 24) (by omega) (by decide))
      ⟨pk_in i 48 (by omega), pk_in (24 * a + i) 96 (by omega) (rb_x24 a i),
        nm_r (rb_wu (rb_x24 a i) (by omega) (by rw [rb_ci rfl (by omega)]) (Nat.zero_le i))
          (nm_r (nI_1 i) (xl_store_product ha h d (i + 1) (by omega)))⟩
theorem xx_store_product {post : SX → Prop} {F : Int32} {c l r q s p : Nat → Int32} {a R v : Nat} (ha : a < 4) (H : rb_H R p 0 24 v)
    (h : ∀ c', rb_H R c' (24 * a) 24 v → rb_KX a c c' → post (F, c', l, r, q, s, p)) : wpX_store__product post (F, c, l, r, q, s, p) (nI a) := by
  have g := h (rb_ov c (24 * a) 0 24 (fun k => p k)) (rb_ovF (fun i hi => rb_H0 H hi)) (fun j hj => rb_ovO (by omega))
  have w := xl_store_product ha g 24 0 (by omega)
  rw [rb_ovE] at w
  exact ⟨_, w⟩
theorem xl_clear_left {post : SX → Prop} {F : Int32} {c l r q s p : Nat → Int32}
    (h : post (F, c, rb_ov l 0 0 25 (fun _ => 0), r, q, s, p)) :
    ∀ d i, i + d = 25 → wX_clear__left_2 post F (d + 1) (nI i) c (rb_ov l 0 0 i (fun _ => 0)) r q s p
  | 0, i, e => br_t (nI_le (a := 25) (by omega) (by omega)) (by
      have e2 : i = 25 := by omega
      subst e2
      exact h)
  | d + 1, i, e => br_f (nI_ge (b := 25) (by omega) (by decide))
      ⟨pk_in i 25 (by omega), nm_r (rb_wu0 rfl (by omega) rfl (Nat.zero_le i))
          (nm_r (nI_1 i) (xl_clear_left h d (i + 1) (by omega)))⟩
theorem xx_clear_left {post : SX → Prop} {F : Int32} {c l r q s p : Nat → Int32} {R : Nat}
    (h : ∀ l', rb_H R l' 0 25 0 → post (F, c, l', r, q, s, p)) : wpX_clear__left post (F, c, l, r, q, s, p) := by
  have g := h (rb_ov l 0 0 25 (fun _ => 0)) (rb_ovF (fun i hi => by rw [rb_z]; rfl))
  have w := xl_clear_left g 25 0 (by omega)
  rw [rb_ovE] at w
  exact ⟨_, w⟩
theorem xl_clear_right {post : SX → Prop} {F : Int32} {c l r q s p : Nat → Int32}
    (h : post (F, c, l, rb_ov r 0 0 25 (fun _ => 0), q, s, p)) :
    ∀ d i, i + d = 25 → wX_clear__right_2 post F (d + 1) (nI i) c l (rb_ov r 0 0 i (fun _ => 0)) q s p
  | 0, i, e => br_t (nI_le (a := 25) (by omega) (by omega)) (by
      have e2 : i = 25 := by omega
      subst e2
      exact h)
  | d + 1, i, e => br_f (nI_ge (b := 25) (by omega) (by decide))
      ⟨pk_in i 25 (by omega), nm_r (rb_wu0 rfl (by omega) rfl (Nat.zero_le i))
          (nm_r (nI_1 i) (xl_clear_right h d (i + 1) (by omega)))⟩
theorem xx_clear_right {post : SX → Prop} {F : Int32} {c l r q s p : Nat → Int32} {R : Nat}
    (h : ∀ r', rb_H R r' 0 25 0 → post (F, c, l, r', q, s, p)) : wpX_clear__right post (F, c, l, r, q, s, p) := by
  have g := h (rb_ov r 0 0 25 (fun _ => 0)) (rb_ovF (fun i hi => by rw [rb_z]; rfl))
  have w := xl_clear_right g 25 0 (by omega)
  rw [rb_ovE] at w
  exact ⟨_, w⟩
theorem xl_clear_rest {post : SX → Prop} {F : Int32} {c l r q s p : Nat → Int32}
    (h : post (F, c, l, r, q, rb_ov s 0 0 25 (fun _ => 0), p)) :
    ∀ d i, i + d = 25 → wX_clear__rest_2 post F (d + 1) (nI i) c l r q (rb_ov s 0 0 i (fun _ => 0)) p
  | 0, i, e => br_t (nI_le (a := 25) (by omega) (by omega)) (by
      have e2 : i = 25 := by omega
      subst e2
      exact h)
  | d + 1, i, e => br_f (nI_ge (b := 25) (by omega) (by decide))
      ⟨pk_in i 25 (by omega), nm_r (rb_wu0 rfl (by omega) rfl (Nat.zero_le i))
          (nm_r (nI_1 i) (xl_clear_rest h d (i + 1) (by omega)))⟩
theorem xx_clear_rest {post : SX → Prop} {F : Int32} {c l r q s p : Nat → Int32} {R : Nat}
    (h : ∀ s', rb_H R s' 0 25 0 → post (F, c, l, r, q, s', p)) : wpX_clear__rest post (F, c, l, r, q, s, p) := by
  have g := h (rb_ov s 0 0 25 (fun _ => 0)) (rb_ovF (fun i hi => by rw [rb_z]; rfl))
  have w := xl_clear_rest g 25 0 (by omega)
  rw [rb_ovE] at w
  exact ⟨_, w⟩
theorem xl_copyPlaces_product_left {post : SX → Prop} {F : Int32} {c l r q s p : Nat → Int32}
    (h : post (F, c, upd (rb_ov l 0 0 24 (fun k => p k)) 24 0, r, q, s, p)) :
    ∀ d i, i + d = 24 → wX_copyPlaces__product_left_2 post F (d + 1) (nI i) c (rb_ov l 0 0 i (fun k => p k)) r q s p
  | 0, i, e => br_t (nI_le (a := 24) (by omega) (by omega)) (nm_e (by
      have e2 : i = 24 := by omega
      subst e2
      exact h))
  | d + 1, i, e => br_f (nI_ge (b := 24) (by omega) (by decide))
      ⟨pk_in i 48 (by omega), pk_in i 25 (by omega),
        nm_r (rb_wu0 rfl (by omega) (by rw [rb_ci rfl (by omega)]) (Nat.zero_le i))
          (nm_r (nI_1 i) (xl_copyPlaces_product_left h d (i + 1) (by omega)))⟩
theorem xx_copyPlaces_product_left {post : SX → Prop} {F : Int32} {c l r q s p : Nat → Int32} {R v : Nat} (hR : 2 ≤ R) (H : rb_H R p 0 24 v) (hv : v < R ^ 24)
    (h : ∀ l', rb_H R l' 0 25 v → post (F, c, l', r, q, s, p)) : wpX_copyPlaces__product_left post (F, c, l, r, q, s, p) := by
  have g := h (upd (rb_ov l 0 0 24 (fun k => p k)) 24 0) (rb_close hR (rb_ovF (fun i hi => rb_H0 H hi)) hv)
  have w := xl_copyPlaces_product_left g 24 0 (by omega)
  rw [rb_ovE] at w
  exact ⟨_, w⟩
theorem xl_copyPlaces_right_left {post : SX → Prop} {F : Int32} {c l r q s p : Nat → Int32}
    (h : post (F, c, upd (rb_ov l 0 0 24 (fun k => r k)) 24 0, r, q, s, p)) :
    ∀ d i, i + d = 24 → wX_copyPlaces__right_left_2 post F (d + 1) (nI i) c (rb_ov l 0 0 i (fun k => r k)) r q s p
  | 0, i, e => br_t (nI_le (a := 24) (by omega) (by omega)) (nm_e (by
      have e2 : i = 24 := by omega
      subst e2
      exact h))
  | d + 1, i, e => br_f (nI_ge (b := 24) (by omega) (by decide))
      ⟨pk_in i 25 (by omega), pk_in i 25 (by omega),
        nm_r (rb_wu0 rfl (by omega) (by rw [rb_ci rfl (by omega)]) (Nat.zero_le i))
          (nm_r (nI_1 i) (xl_copyPlaces_right_left h d (i + 1) (by omega)))⟩
theorem xx_copyPlaces_right_left {post : SX → Prop} {F : Int32} {c l r q s p : Nat → Int32} {R v : Nat} (hR : 2 ≤ R) (H : rb_H R r 0 24 v) (hv : v < R ^ 24)
    (h : ∀ l', rb_H R l' 0 25 v → post (F, c, l', r, q, s, p)) : wpX_copyPlaces__right_left post (F, c, l, r, q, s, p) := by
  have g := h (upd (rb_ov l 0 0 24 (fun k => r k)) 24 0) (rb_close hR (rb_ovF (fun i hi => rb_H0 H hi)) hv)
  have w := xl_copyPlaces_right_left g 24 0 (by omega)
  rw [rb_ovE] at w
  exact ⟨_, w⟩
theorem xl_copyPlaces_rest_right {post : SX → Prop} {F : Int32} {c l r q s p : Nat → Int32}
    (h : post (F, c, l, upd (rb_ov r 0 0 24 (fun k => s k)) 24 0, q, s, p)) :
    ∀ d i, i + d = 24 → wX_copyPlaces__rest_right_2 post F (d + 1) (nI i) c l (rb_ov r 0 0 i (fun k => s k)) q s p
  | 0, i, e => br_t (nI_le (a := 24) (by omega) (by omega)) (nm_e (by
      have e2 : i = 24 := by omega
      subst e2
      exact h))
  | d + 1, i, e => br_f (nI_ge (b := 24) (by omega) (by decide))
      ⟨pk_in i 25 (by omega), pk_in i 25 (by omega),
        nm_r (rb_wu0 rfl (by omega) (by rw [rb_ci rfl (by omega)]) (Nat.zero_le i))
          (nm_r (nI_1 i) (xl_copyPlaces_rest_right h d (i + 1) (by omega)))⟩
theorem xx_copyPlaces_rest_right {post : SX → Prop} {F : Int32} {c l r q s p : Nat → Int32} {R v : Nat} (hR : 2 ≤ R) (H : rb_H R s 0 24 v) (hv : v < R ^ 24)
    (h : ∀ r', rb_H R r' 0 25 v → post (F, c, l, r', q, s, p)) : wpX_copyPlaces__rest_right post (F, c, l, r, q, s, p) := by
  have g := h (upd (rb_ov r 0 0 24 (fun k => s k)) 24 0) (rb_close hR (rb_ovF (fun i hi => rb_H0 H hi)) hv)
  have w := xl_copyPlaces_rest_right g 24 0 (by omega)
  rw [rb_ovE] at w
  exact ⟨_, w⟩
theorem xl_isZero_left {post : Int32 → Prop} {F : Int32} {c l r q s p : Nat → Int32} {R v : Nat} (hR : 2 ≤ R) (hR2 : R ≤ 36) (H : rb_H R l 0 25 v) (hv : v < R ^ 25)
    (h0 : v ≠ 0 → post 0) (h1 : v = 0 → post 1) :
    ∀ d i, i + d = 25 → (∀ k, k < i → rb_dg R v k = 0) → wX_isZero__left_2 post F c l r q s p (d + 1) (nI i)
  | 0, i, e, z => br_t (nI_le (a := 25) (by omega) (by omega)) (h1 (rb_zero hR hv (fun k k1 => z k (by omega))))
  | d + 1, i, e, z => br_f (nI_ge (b := 25) (by omega) (by decide))
      ⟨pk_in i 25 (by omega), by
        have b1 := rb_dgb hR hR2 v i
        refine pk_eq (rb_dg R v i) 0 (fun c9 => nm_r (nI_1 i) (xl_isZero_left hR hR2 H hv h0 h1 d (i + 1) (by omega) ?_)) (fun c9 => h0 (rb_ne c9)) (rb_rH0 H (by omega) rfl (by omega))
        intro k k1
        by_cases e9 : k = i
        · rw [e9]
          exact c9
        · exact z k (by omega)⟩
theorem xx_isZero_left {post : Int32 → Prop} {F : Int32} {c l r q s p : Nat → Int32} {R v : Nat} (hR : 2 ≤ R) (hR2 : R ≤ 36) (H : rb_H R l 0 25 v) (hv : v < R ^ 25)
    (h0 : v ≠ 0 → post 0) (h1 : v = 0 → post 1) : wpX_isZero__left post (F, c, l, r, q, s, p) :=
  ⟨_, xl_isZero_left hR hR2 H hv h0 h1 25 0 (by omega) (fun k k1 => absurd k1 (by omega))⟩
theorem xl_isZero_right {post : Int32 → Prop} {F : Int32} {c l r q s p : Nat → Int32} {R v : Nat} (hR : 2 ≤ R) (hR2 : R ≤ 36) (H : rb_H R r 0 25 v) (hv : v < R ^ 25)
    (h0 : v ≠ 0 → post 0) (h1 : v = 0 → post 1) :
    ∀ d i, i + d = 25 → (∀ k, k < i → rb_dg R v k = 0) → wX_isZero__right_2 post F c l r q s p (d + 1) (nI i)
  | 0, i, e, z => br_t (nI_le (a := 25) (by omega) (by omega)) (h1 (rb_zero hR hv (fun k k1 => z k (by omega))))
  | d + 1, i, e, z => br_f (nI_ge (b := 25) (by omega) (by decide))
      ⟨pk_in i 25 (by omega), by
        have b1 := rb_dgb hR hR2 v i
        refine pk_eq (rb_dg R v i) 0 (fun c9 => nm_r (nI_1 i) (xl_isZero_right hR hR2 H hv h0 h1 d (i + 1) (by omega) ?_)) (fun c9 => h0 (rb_ne c9)) (rb_rH0 H (by omega) rfl (by omega))
        intro k k1
        by_cases e9 : k = i
        · rw [e9]
          exact c9
        · exact z k (by omega)⟩
theorem xx_isZero_right {post : Int32 → Prop} {F : Int32} {c l r q s p : Nat → Int32} {R v : Nat} (hR : 2 ≤ R) (hR2 : R ≤ 36) (H : rb_H R r 0 25 v) (hv : v < R ^ 25)
    (h0 : v ≠ 0 → post 0) (h1 : v = 0 → post 1) : wpX_isZero__right post (F, c, l, r, q, s, p) :=
  ⟨_, xl_isZero_right hR hR2 H hv h0 h1 25 0 (by omega) (fun k k1 => absurd k1 (by omega))⟩
theorem xl_order_left_right {post : Int32 → Prop} {F : Int32} {c l r q s p : Nat → Int32} {R v w : Nat} (hR : 2 ≤ R) (hR2 : R ≤ 36) (Hv : rb_H R l 0 25 v) (Hw : rb_H R r 0 25 w)
    (h0 : v = w → post 0) (h1 : w < v → post 1) (h2 : v < w → post 2) :
    ∀ e, e ≤ 25 → v / R ^ e = w / R ^ e → wX_order__left_right_3 post F c l r q s p (e + 1) (nI e + (-1))
  | 0, _, q9 => br_t (by rw [nI_0]; decide) (h0 (rb_o1 q9))
  | e + 1, l9, q9 => by
    rw [pk_m1]
    have b1 := rb_dgb hR hR2 v e
    have b2 := rb_dgb hR hR2 w e
    have r1 : l (nI e).toNatClampNeg = nI (rb_dg R v e) := rb_rH0 Hv (by omega) rfl (by omega)
    have r2 : r (nI e).toNatClampNeg = nI (rb_dg R w e) := rb_rH0 Hw (by omega) rfl (by omega)
    refine br_f (nI_pos (by omega)) ⟨pk_in e 25 (by omega), pk_in e 25 (by omega), ?_⟩
    refine pk_eq (rb_dg R v e) (rb_dg R w e) (fun c9 => nm_e (xl_order_left_right hR hR2 Hv Hw h0 h1 h2 e (by omega) (rb_oe q9 c9))) (fun c9 => ⟨pk_in e 25 (by omega), pk_in e 25 (by omega), ?_⟩) r1 r2
    exact pk_le (rb_dg R v e) (rb_dg R w e) (fun c8 => h2 (rb_og q9.symm (by omega))) (fun c8 => h1 (rb_og q9 (by omega))) r1 r2
theorem xx_order_left_right {post : Int32 → Prop} {F : Int32} {c l r q s p : Nat → Int32} {R v w : Nat} (hR : 2 ≤ R) (hR2 : R ≤ 36) (Hv : rb_H R l 0 25 v) (Hw : rb_H R r 0 25 w) (hv : v < R ^ 25) (hw : w < R ^ 25)
    (h0 : v = w → post 0) (h1 : w < v → post 1) (h2 : v < w → post 2) : wpX_order__left_right post (F, c, l, r, q, s, p) :=
  ⟨_, xl_order_left_right hR hR2 Hv Hw h0 h1 h2 25 (by omega) (rb_o0 hv hw)⟩
theorem xl_order_rest_right {post : Int32 → Prop} {F : Int32} {c l r q s p : Nat → Int32} {R v w : Nat} (hR : 2 ≤ R) (hR2 : R ≤ 36) (Hv : rb_H R s 0 25 v) (Hw : rb_H R r 0 25 w)
    (h0 : v = w → post 0) (h1 : w < v → post 1) (h2 : v < w → post 2) :
    ∀ e, e ≤ 25 → v / R ^ e = w / R ^ e → wX_order__rest_right_3 post F c l r q s p (e + 1) (nI e + (-1))
  | 0, _, q9 => br_t (by rw [nI_0]; decide) (h0 (rb_o1 q9))
  | e + 1, l9, q9 => by
    rw [pk_m1]
    have b1 := rb_dgb hR hR2 v e
    have b2 := rb_dgb hR hR2 w e
    have r1 : s (nI e).toNatClampNeg = nI (rb_dg R v e) := rb_rH0 Hv (by omega) rfl (by omega)
    have r2 : r (nI e).toNatClampNeg = nI (rb_dg R w e) := rb_rH0 Hw (by omega) rfl (by omega)
    refine br_f (nI_pos (by omega)) ⟨pk_in e 25 (by omega), pk_in e 25 (by omega), ?_⟩
    refine pk_eq (rb_dg R v e) (rb_dg R w e) (fun c9 => nm_e (xl_order_rest_right hR hR2 Hv Hw h0 h1 h2 e (by omega) (rb_oe q9 c9))) (fun c9 => ⟨pk_in e 25 (by omega), pk_in e 25 (by omega), ?_⟩) r1 r2
    exact pk_le (rb_dg R v e) (rb_dg R w e) (fun c8 => h2 (rb_og q9.symm (by omega))) (fun c8 => h1 (rb_og q9 (by omega))) r1 r2
theorem xx_order_rest_right {post : Int32 → Prop} {F : Int32} {c l r q s p : Nat → Int32} {R v w : Nat} (hR : 2 ≤ R) (hR2 : R ≤ 36) (Hv : rb_H R s 0 25 v) (Hw : rb_H R r 0 25 w) (hv : v < R ^ 25) (hw : w < R ^ 25)
    (h0 : v = w → post 0) (h1 : w < v → post 1) (h2 : v < w → post 2) : wpX_order__rest_right post (F, c, l, r, q, s, p) :=
  ⟨_, xl_order_rest_right hR hR2 Hv Hw h0 h1 h2 25 (by omega) (rb_o0 hv hw)⟩
theorem xl_order_product_left {post : Int32 → Prop} {F : Int32} {c l r q s p : Nat → Int32} {R v w : Nat} (hR : 2 ≤ R) (hR2 : R ≤ 36) (Hv : rb_H R p 0 25 v) (Hw : rb_H R l 0 25 w)
    (h0 : v = w → post 0) (h1 : w < v → post 1) (h2 : v < w → post 2) :
    ∀ e, e ≤ 25 → v / R ^ e = w / R ^ e → wX_order__product_left_3 post F c l r q s p (e + 1) (nI e + (-1))
  | 0, _, q9 => br_t (by rw [nI_0]; decide) (h0 (rb_o1 q9))
  | e + 1, l9, q9 => by
    rw [pk_m1]
    have b1 := rb_dgb hR hR2 v e
    have b2 := rb_dgb hR hR2 w e
    have r1 : p (nI e).toNatClampNeg = nI (rb_dg R v e) := rb_rH0 Hv (by omega) rfl (by omega)
    have r2 : l (nI e).toNatClampNeg = nI (rb_dg R w e) := rb_rH0 Hw (by omega) rfl (by omega)
    refine br_f (nI_pos (by omega)) ⟨pk_in e 48 (by omega), pk_in e 25 (by omega), ?_⟩
    refine pk_eq (rb_dg R v e) (rb_dg R w e) (fun c9 => nm_e (xl_order_product_left hR hR2 Hv Hw h0 h1 h2 e (by omega) (rb_oe q9 c9))) (fun c9 => ⟨pk_in e 48 (by omega), pk_in e 25 (by omega), ?_⟩) r1 r2
    exact pk_le (rb_dg R v e) (rb_dg R w e) (fun c8 => h2 (rb_og q9.symm (by omega))) (fun c8 => h1 (rb_og q9 (by omega))) r1 r2
theorem xx_order_product_left {post : Int32 → Prop} {F : Int32} {c l r q s p : Nat → Int32} {R v w : Nat} (hR : 2 ≤ R) (hR2 : R ≤ 36) (Hv : rb_H R p 0 25 v) (Hw : rb_H R l 0 25 w) (hv : v < R ^ 25) (hw : w < R ^ 25)
    (h0 : v = w → post 0) (h1 : w < v → post 1) (h2 : v < w → post 2) : wpX_order__product_left post (F, c, l, r, q, s, p) :=
  ⟨_, xl_order_product_left hR hR2 Hv Hw h0 h1 h2 25 (by omega) (rb_o0 hv hw)⟩
theorem xl_pushDigit_left {post : SX → Prop} {F : Int32} {c l r q s p : Nat → Int32} {x : Int32}
    (h : post (F, c, upd (rb_ov l 0 1 25 (fun k => l (k - 1))) 0 x, r, q, s, p)) :
    ∀ e, e < 25 → wX_pushDigit__left_3 post x F (e + 1) (nI e) c (rb_ov l 0 (e + 1) 25 (fun k => l (k - 1))) r q s p
  | 0, _ => br_t (by rw [nI_0]; decide) (nm_e h)
  | e + 1, l9 => by
    refine br_f (nI_nle (by omega) (by omega)) ⟨pk_in e 25 (by omega) (nI_pred e), pk_in (e + 1) 25 (by omega),
      nm_r (rb_wd0 rfl (by omega) ?_ l9) (nm_r (pk_m1 e) (xl_pushDigit_left h e (by omega)))⟩
    exact (rb_rd (nI_pred e) (by omega)).trans ((rb_ovO (by omega)).trans (congrArg l (by omega)))
theorem xx_pushDigit_left {post : SX → Prop} {F : Int32} {c l r q s p : Nat → Int32} {d R v : Nat} (hR : 2 ≤ R) (hd : d < R) (H : rb_H R l 0 25 v)
    (h : ∀ l', rb_H R l' 0 25 (v * R + d) → post (F, c, l', r, q, s, p)) : wpX_pushDigit__left post (F, c, l, r, q, s, p) (nI d) := by
  have g := h (upd (rb_ov l 0 1 25 (fun k => l (k - 1))) 0 (nI d)) (rb_H0i (fun i hi => by
    cases i with
    | zero => rw [pk_us, rb_pl v d hd]
    | succ i =>
      rw [pk_un (by omega), rb_ovI0 (by omega) hi, rb_ph hR v d i hd, Nat.add_sub_cancel]
      exact rb_H0 H (by omega)))
  have w := xl_pushDigit_left (x := nI d) g 24 (by omega)
  rw [rb_ovE] at w
  exact ⟨_, w⟩
theorem xl_pushDigit_rest {post : SX → Prop} {F : Int32} {c l r q s p : Nat → Int32} {x : Int32}
    (h : post (F, c, l, r, q, upd (rb_ov s 0 1 25 (fun k => s (k - 1))) 0 x, p)) :
    ∀ e, e < 25 → wX_pushDigit__rest_3 post x F (e + 1) (nI e) c l r q (rb_ov s 0 (e + 1) 25 (fun k => s (k - 1))) p
  | 0, _ => br_t (by rw [nI_0]; decide) (nm_e h)
  | e + 1, l9 => by
    refine br_f (nI_nle (by omega) (by omega)) ⟨pk_in e 25 (by omega) (nI_pred e), pk_in (e + 1) 25 (by omega),
      nm_r (rb_wd0 rfl (by omega) ?_ l9) (nm_r (pk_m1 e) (xl_pushDigit_rest h e (by omega)))⟩
    exact (rb_rd (nI_pred e) (by omega)).trans ((rb_ovO (by omega)).trans (congrArg s (by omega)))
theorem xx_pushDigit_rest {post : SX → Prop} {F : Int32} {c l r q s p : Nat → Int32} {d R v : Nat} (hR : 2 ≤ R) (hd : d < R) (H : rb_H R s 0 25 v)
    (h : ∀ s', rb_H R s' 0 25 (v * R + d) → post (F, c, l, r, q, s', p)) : wpX_pushDigit__rest post (F, c, l, r, q, s, p) (nI d) := by
  have g := h (upd (rb_ov s 0 1 25 (fun k => s (k - 1))) 0 (nI d)) (rb_H0i (fun i hi => by
    cases i with
    | zero => rw [pk_us, rb_pl v d hd]
    | succ i =>
      rw [pk_un (by omega), rb_ovI0 (by omega) hi, rb_ph hR v d i hd, Nat.add_sub_cancel]
      exact rb_H0 H (by omega)))
  have w := xl_pushDigit_rest (x := nI d) g 24 (by omega)
  rw [rb_ovE] at w
  exact ⟨_, w⟩
theorem xl_increase_left_right {post : SX → Prop} {c l r q s p : Nat → Int32} {R v w : Nat} (hR : 2 ≤ R) (hR2 : R ≤ 36) (Hv : rb_H R l 0 25 v) (Hw : rb_H R r 0 25 w)
    (h : post (nI R, c, rb_ov l 0 0 25 (fun k => nI (rb_dg R (v + w) k)), r, q, s, p)) :
    ∀ d i, i + d = 25 → wX_increase__left_right_5 post (nI R) (d + 1) (nI (rb_ca R v w i)) (nI i) c (rb_ov l 0 0 i (fun k => nI (rb_dg R (v + w) k))) r q s p
  | 0, i, e => br_t (nI_le (a := 25) (by omega) (by omega)) (by
      have e2 : i = 25 := by omega
      subst e2
      exact h)
  | d + 1, i, e => by
    have b1 := rb_lt hR v i
    have b2 := rb_lt hR w i
    have b3 := rb_ca1 hR v w i
    have hc := rb_cse (rb_cal hR v w i) (rb_lt hR (v + w) i) (rb_ca1 hR v w (i + 1))
    have r1 : rb_ov l 0 0 i (fun k => nI (rb_dg R (v + w) k)) (nI i).toNatClampNeg = nI (rb_dg R v i) := by
      rw [rb_ci rfl (by omega)]
      exact rb_ovH0 Hv (by omega) (by omega)
    have r2 : r (nI i).toNatClampNeg = nI (rb_dg R w i) := rb_rH0 Hw (by omega) rfl (by omega)
    refine br_f (nI_ge (b := 25) (by omega) (by decide)) ⟨pk_in i 25 (by omega), pk_in i 25 (by omega), nm_r (e' := nI (rb_dg R v i + rb_dg R w i + rb_ca R v w i)) (by rw [r1, r2, nI_add, nI_add]) ?_⟩
    have ih := xl_increase_left_right hR hR2 Hv Hw h d (i + 1) (by omega)
    refine pk_lt (rb_dg R v i + rb_dg R w i + rb_ca R v w i) R (fun k9 => ?_) (fun k9 => ?_)
    · obtain ⟨c1, c2⟩ := hc.1 k9
      rw [c1] at ih
      exact ⟨pk_in i 25 (by omega), nm_r (rb_wu0 rfl (by omega) (by rw [rb_a0, c2]) (Nat.zero_le i)) (nm_r (nI_1 i) ih)⟩
    · obtain ⟨c1, c2⟩ := hc.2 k9
      rw [c1] at ih
      exact ⟨pk_in i 25 (by omega), nm_r (rb_wu0 rfl (by omega) (by rw [rb_a1 k9, c2]) (Nat.zero_le i)) (nm_r (nI_1 i) ih)⟩
theorem xx_increase_left_right {post : SX → Prop} {c l r q s p : Nat → Int32} {R v w : Nat} (hR : 2 ≤ R) (hR2 : R ≤ 36) (Hv : rb_H R l 0 25 v) (Hw : rb_H R r 0 25 w)
    (h : ∀ l', rb_H R l' 0 25 (v + w) → post (nI R, c, l', r, q, s, p)) : wpX_increase__left_right post (nI R, c, l, r, q, s, p) := by
  have g := h (rb_ov l 0 0 25 (fun k => nI (rb_dg R (v + w) k))) (rb_ovF (fun i hi => rfl))
  have w := xl_increase_left_right hR hR2 Hv Hw g 25 0 (by omega)
  rw [rb_ovE, rb_ca0] at w
  exact ⟨_, w⟩
theorem xl_decrease_left_right {post : SX → Prop} {c l r q s p : Nat → Int32} {R u w : Nat} (hR : 2 ≤ R) (hR2 : R ≤ 36) (Hv : rb_H R l 0 25 (u + w)) (Hw : rb_H R r 0 25 w)
    (h : post (nI R, c, rb_ov l 0 0 25 (fun k => nI (rb_dg R u k)), r, q, s, p)) :
    ∀ d i, i + d = 25 → wX_decrease__left_right_5 post (nI R) (d + 1) (nI (rb_ca R u w i)) (nI i) c (rb_ov l 0 0 i (fun k => nI (rb_dg R u k))) r q s p
  | 0, i, e => br_t (nI_le (a := 25) (by omega) (by omega)) (by
      have e2 : i = 25 := by omega
      subst e2
      exact h)
  | d + 1, i, e => by
    have b1 := rb_lt hR (u + w) i
    have b2 := rb_lt hR w i
    have b3 := rb_ca1 hR u w i
    have hc := rb_tk (rb_cal hR u w i) (rb_lt hR u i) (rb_ca1 hR u w (i + 1)) (rb_lt hR (u + w) i)
    have r1 : rb_ov l 0 0 i (fun k => nI (rb_dg R u k)) (nI i).toNatClampNeg = nI (rb_dg R (u + w) i) := by
      rw [rb_ci rfl (by omega)]
      exact rb_ovH0 Hv (by omega) (by omega)
    have r2 : r (nI i).toNatClampNeg = nI (rb_dg R w i) := rb_rH0 Hw (by omega) rfl (by omega)
    refine br_f (nI_ge (b := 25) (by omega) (by decide)) ⟨pk_in i 25 (by omega), pk_in i 25 (by omega), nm_r (e' := nI (rb_dg R (u + w) i) - nI (rb_dg R w i) - nI (rb_ca R u w i)) (by rw [r1, r2]) ?_⟩
    have ih := xl_decrease_left_right hR hR2 Hv Hw h d (i + 1) (by omega)
    by_cases k9 : rb_dg R (u + w) i < rb_dg R w i + rb_ca R u w i
    · obtain ⟨c1, c2⟩ := hc.1 k9
      rw [c1] at ih
      refine br_f (Int32.not_le.mpr (rb_sn k9 (by omega))) (⟨pk_in i 25 (by omega), nm_r (rb_wu0 rfl (by omega) (by rw [rb_s1 (by omega), c2]) (Nat.zero_le i)) (nm_r (nI_1 i) ih)⟩)
    · obtain ⟨c1, c2⟩ := hc.2 (by omega)
      rw [c1] at ih
      refine br_t (by rw [rb_s0 (by omega)]; exact nI_pos' (by omega)) (⟨pk_in i 25 (by omega), nm_r (rb_wu0 rfl (by omega) (by rw [rb_s2 (by omega), c2]) (Nat.zero_le i)) (nm_r (nI_1 i) ih)⟩)
theorem xx_decrease_left_right {post : SX → Prop} {c l r q s p : Nat → Int32} {R v w : Nat} (hR : 2 ≤ R) (hR2 : R ≤ 36) (Hv : rb_H R l 0 25 v) (Hw : rb_H R r 0 25 w) (hl : w ≤ v)
    (h : ∀ l', rb_H R l' 0 25 (v - w) → post (nI R, c, l', r, q, s, p)) : wpX_decrease__left_right post (nI R, c, l, r, q, s, p) := by
  obtain ⟨u, rfl⟩ : ∃ u, v = u + w := ⟨v - w, by omega⟩
  rw [Nat.add_sub_cancel] at h
  have g := h (rb_ov l 0 0 25 (fun k => nI (rb_dg R u k))) (rb_ovF (fun i hi => rfl))
  have w := xl_decrease_left_right hR hR2 Hv Hw g 25 0 (by omega)
  rw [rb_ovE, rb_ca0] at w
  exact ⟨_, w⟩
theorem xl_decrease_rest_right {post : SX → Prop} {c l r q s p : Nat → Int32} {R u w : Nat} (hR : 2 ≤ R) (hR2 : R ≤ 36) (Hv : rb_H R s 0 25 (u + w)) (Hw : rb_H R r 0 25 w)
    (h : post (nI R, c, l, r, q, rb_ov s 0 0 25 (fun k => nI (rb_dg R u k)), p)) :
    ∀ d i, i + d = 25 → wX_decrease__rest_right_5 post (nI R) (d + 1) (nI (rb_ca R u w i)) (nI i) c l r q (rb_ov s 0 0 i (fun k => nI (rb_dg R u k))) p
  | 0, i, e => br_t (nI_le (a := 25) (by omega) (by omega)) (by
      have e2 : i = 25 := by omega
      subst e2
      exact h)
  | d + 1, i, e => by
    have b1 := rb_lt hR (u + w) i
    have b2 := rb_lt hR w i
    have b3 := rb_ca1 hR u w i
    have hc := rb_tk (rb_cal hR u w i) (rb_lt hR u i) (rb_ca1 hR u w (i + 1)) (rb_lt hR (u + w) i)
    have r1 : rb_ov s 0 0 i (fun k => nI (rb_dg R u k)) (nI i).toNatClampNeg = nI (rb_dg R (u + w) i) := by
      rw [rb_ci rfl (by omega)]
      exact rb_ovH0 Hv (by omega) (by omega)
    have r2 : r (nI i).toNatClampNeg = nI (rb_dg R w i) := rb_rH0 Hw (by omega) rfl (by omega)
    refine br_f (nI_ge (b := 25) (by omega) (by decide)) ⟨pk_in i 25 (by omega), pk_in i 25 (by omega), nm_r (e' := nI (rb_dg R (u + w) i) - nI (rb_dg R w i) - nI (rb_ca R u w i)) (by rw [r1, r2]) ?_⟩
    have ih := xl_decrease_rest_right hR hR2 Hv Hw h d (i + 1) (by omega)
    by_cases k9 : rb_dg R (u + w) i < rb_dg R w i + rb_ca R u w i
    · obtain ⟨c1, c2⟩ := hc.1 k9
      rw [c1] at ih
      refine br_f (Int32.not_le.mpr (rb_sn k9 (by omega))) (⟨pk_in i 25 (by omega), nm_r (rb_wu0 rfl (by omega) (by rw [rb_s1 (by omega), c2]) (Nat.zero_le i)) (nm_r (nI_1 i) ih)⟩)
    · obtain ⟨c1, c2⟩ := hc.2 (by omega)
      rw [c1] at ih
      refine br_t (by rw [rb_s0 (by omega)]; exact nI_pos' (by omega)) (⟨pk_in i 25 (by omega), nm_r (rb_wu0 rfl (by omega) (by rw [rb_s2 (by omega), c2]) (Nat.zero_le i)) (nm_r (nI_1 i) ih)⟩)
theorem xx_decrease_rest_right {post : SX → Prop} {c l r q s p : Nat → Int32} {R v w : Nat} (hR : 2 ≤ R) (hR2 : R ≤ 36) (Hv : rb_H R s 0 25 v) (Hw : rb_H R r 0 25 w) (hl : w ≤ v)
    (h : ∀ s', rb_H R s' 0 25 (v - w) → post (nI R, c, l, r, q, s', p)) : wpX_decrease__rest_right post (nI R, c, l, r, q, s, p) := by
  obtain ⟨u, rfl⟩ : ∃ u, v = u + w := ⟨v - w, by omega⟩
  rw [Nat.add_sub_cancel] at h
  have g := h (rb_ov s 0 0 25 (fun k => nI (rb_dg R u k))) (rb_ovF (fun i hi => rfl))
  have w := xl_decrease_rest_right hR hR2 Hv Hw g 25 0 (by omega)
  rw [rb_ovE, rb_ca0] at w
  exact ⟨_, w⟩
theorem xl_takeLastDigit_left {post : Int32 → SX → Prop} {c l r q s p : Nat → Int32} {R v m : Nat} (hR : 2 ≤ R) (hR2 : R ≤ 36) (hm : 0 < m) (hm2 : m ≤ 36) (H : rb_H R l 0 25 v)
    (h : post (nI (v % m)) (nI R, c, rb_ov l 0 0 24 (fun k => nI (rb_dg R (v / m) k)), r, q, s, p)) :
    ∀ e, e ≤ 24 → wX_takeLastDigit__left_6 post (nI m) (nI R) (e + 1) (nI (v / R ^ e % m)) (nI e + (-1)) c (rb_ov l 0 e 24 (fun k => nI (rb_dg R (v / m) k))) r q s p
  | 0, _ => br_t (by rw [nI_0]; decide) (by rw [Nat.pow_zero, Nat.div_one]; exact h)
  | e + 1, l9 => by
    rw [pk_m1]
    have b1 := rb_lt hR v e
    have b2 := Nat.mod_lt (v / R ^ (e + 1)) hm
    have b3 := rb_ldb hR hm v e
    have b4 : m * R ≤ 36 * 36 := Nat.mul_le_mul hm2 hR2
    have ih := xl_takeLastDigit_left hR hR2 hm hm2 H h e (by omega)
    rw [← rb_ldr hm] at ih
    have k9 := rb_ldq hR hm v e
    have r1 : rb_ov l 0 (e + 1) 24 (fun k => nI (rb_dg R (v / m) k)) (nI e).toNatClampNeg = nI (rb_dg R v e) := by
      rw [rb_ci rfl (by omega)]
      exact rb_ovH0 H (by omega) (by omega)
    exact br_f (nI_pos (by omega)) ⟨pk_in e 25 (by omega), nm_r (e' := nI (v / R ^ (e + 1) % m * R + rb_dg R v e)) (by rw [r1, pk_mul, nI_add])
      ⟨nI_ne0 hm (by omega), pk_in e 25 (by omega), nm_r (rb_wd0 rfl (by omega) (by rw [pk_div (by omega) hm (by omega), k9]) (by omega)) ⟨nI_ne0 hm (by omega), nm_r (pk_rem (by omega) hm (by omega)) (nm_e ih)⟩⟩⟩
theorem xx_takeLastDigit_left {post : Int32 → SX → Prop} {c l r q s p : Nat → Int32} {R v m : Nat} (hR : 2 ≤ R) (hR2 : R ≤ 36) (hm : 0 < m) (hm2 : m ≤ 36) (H : rb_H R l 0 25 v) (hv : v < R ^ 24)
    (h : ∀ l', rb_H R l' 0 25 (v / m) → post (nI (v % m)) (nI R, c, l', r, q, s, p)) : wpX_takeLastDigit__left post (nI R, c, l, r, q, s, p) (nI m) := by
  have hq : v / m < R ^ 24 := Nat.lt_of_le_of_lt (Nat.div_le_self v m) hv
  have g := h (rb_ov l 0 0 24 (fun k => nI (rb_dg R (v / m) k))) (rb_HX hR (rb_ovF (fun i hi => rfl)) hq (fun i i1 i2 => by
    rw [rb_ovO (by omega), H i i2, rb_hi hR hv i1]
    rfl))
  have w := xl_takeLastDigit_left hR hR2 hm hm2 H g 24 (by omega)
  rw [rb_ovE, Nat.div_eq_of_lt hv, Nat.zero_mod] at w
  exact ⟨_, w⟩
end
section
theorem xl_fpC_left_right {post : SX → Prop} {c l r q s p : Nat → Int32} {R v w : Nat} {m : Nat → Nat} (hR : 2 ≤ R) (hR2 : R ≤ 36) (h1 : ∀ k, k < 48 → p k = nI (m k)) (h2 : ∀ k, k < 48 → m k ≤ 705600) (h3 : rb_cs R m 48 = v * w)
    (h : post (nI R, c, l, r, q, s, rb_ov p 0 0 48 (fun k => nI (rb_dg R (v * w) k)))) :
    ∀ d i, i + d = 48 → wX_formProduct__left_right_76 post (nI R) (d + 1) (nI (rb_cs R m i / R ^ i)) (nI i) c l r q s (rb_ov p 0 0 i (fun k => nI (rb_dg R (v * w) k)))
  | 0, i, e => br_t (nI_le (a := 48) (by omega) (by omega)) (by
      have e2 : i = 48 := by omega
      subst e2
      exact h)
  | d + 1, i, e => by
    have b1 := h2 i (by omega)
    have b2 := rb_ccb (B := 705600) hR m i (fun k hk => h2 k (by omega))
    have ih := xl_fpC_left_right hR hR2 h1 h2 h3 h d (i + 1) (by omega)
    rw [rb_cc hR] at ih
    have m1 := rb_cdn hR m (by omega : i < 48)
    rw [h3] at m1
    have r1 : rb_ov p 0 0 i (fun k => nI (rb_dg R (v * w) k)) (nI i).toNatClampNeg = nI (m i) := by
      rw [rb_ci rfl (by omega), rb_ovO (by omega), h1 i (by omega)]
    exact br_f (nI_ge (b := 48) (by omega) (by decide)) ⟨pk_in i 48 (by omega), nm_r (e' := nI (m i + rb_cs R m i / R ^ i)) (by rw [r1, nI_add])
      ⟨nI_ne0 (by omega) (by omega), pk_in i 48 (by omega), nm_r (rb_wu0 rfl (by omega) (by rw [pk_rem (by omega) (by omega) (by omega), ← m1]) (Nat.zero_le i)) ⟨nI_ne0 (by omega) (by omega), nm_r (pk_div (by omega) (by omega) (by omega)) (nm_r (nI_1 i) ih)⟩⟩⟩
theorem xl_fpJ_left_right {post : SX → Prop} {J : Int32 → (Nat → Int32) → (Nat → Int32) → (Nat → Int32) → (Nat → Int32) → (Nat → Int32) → (Nat → Int32) → Prop} {c l r q s : Nat → Int32} {R v w i : Nat} (hR : 2 ≤ R) (hR2 : R ≤ 36)
    (Hv : rb_H R l 0 25 v) (Hw : rb_H R r 0 25 w) (hw : w < R ^ 24) (hi : i < 24) (hJ : ∀ p', rb_G R v w (i + 1) 0 p' → J (nI (i + 1)) c l r q s p') :
    ∀ d j p, j + d = 24 → rb_G R v w i j p → wX_formProduct__left_right_32 post J (nI i) (nI R) (d + 1) (nI j) c l r q s p
  | 0, j, p, e, G => br_t (nI_le (a := 24) (by omega) (by omega)) (nm_r (nI_1 i) (by
      have e2 : j = 24 := by omega
      subst e2
      exact hJ p (rb_Ge hw G)))
  | d + 1, j, p, e, G => by
    have r1 : l (nI i).toNatClampNeg = nI (rb_dg R v i) := rb_rH0 Hv (by omega) rfl (by omega)
    have r2 : r (nI j).toNatClampNeg = nI (rb_dg R w j) := rb_rH0 Hw (by omega) rfl (by omega)
    have ih := xl_fpJ_left_right (post := post) hR hR2 Hv Hw hw hi hJ d (j + 1) _ (by omega) (rb_Gs hR hR2 hi (by omega) G)
    exact br_f (nI_ge (b := 24) (by omega) (by decide)) ⟨pk_in (i + j) 48 (by omega) (nI_add i j), pk_in i 25 (by omega), pk_in j 25 (by omega), pk_in (i + j) 48 (by omega) (nI_add i j),
      nm_r (by rw [r1, r2, nI_add, nI_clamp (by omega)]) (nm_r (nI_1 j) ih)⟩
theorem xl_fpI_left_right {post : SX → Prop} {c l r q s : Nat → Int32} {R v w : Nat} (hR : 2 ≤ R) (hR2 : R ≤ 36)
    (Hv : rb_H R l 0 25 v) (Hw : rb_H R r 0 25 w) (hv : v < R ^ 24) (hw : w < R ^ 24) (h : ∀ p', rb_H R p' 0 48 (v * w) → post (nI R, c, l, r, q, s, p')) :
    ∀ d i p, i + d = 24 → rb_G R v w i 0 p → wX_formProduct__left_right_23 post (nI R) (d + 1) (nI i) c l r q s p
  | 0, i, p, e, G => br_t (nI_le (a := 24) (by omega) (by omega)) (by
      have e2 : i = 24 := by omega
      subst e2
      obtain ⟨m, h1, h2, h3⟩ := rb_GE hv G
      have g := h (rb_ov p 0 0 48 (fun k => nI (rb_dg R (v * w) k))) (rb_ovF (fun i hi => rfl))
      have x := xl_fpC_left_right hR hR2 h1 h2 h3 g 48 0 (by omega)
      rw [rb_ovE] at x
      have z : rb_cs R m 0 / R ^ 0 = 0 := Nat.zero_div _
      rw [z] at x
      exact ⟨_, x⟩)
  | d + 1, i, p, e, G => br_f (nI_ge (b := 24) (by omega) (by decide)) ⟨25,
      xl_fpJ_left_right hR hR2 Hv Hw hw (by omega) (fun p' G' => xl_fpI_left_right hR hR2 Hv Hw hv hw h d (i + 1) p' (by omega) G') 24 0 p (by omega) G⟩
theorem xl_fpZ_left_right {post : SX → Prop} {c l r q s p : Nat → Int32} {R v w : Nat} (hR : 2 ≤ R) (hR2 : R ≤ 36)
    (Hv : rb_H R l 0 25 v) (Hw : rb_H R r 0 25 w) (hv : v < R ^ 24) (hw : w < R ^ 24) (h : ∀ p', rb_H R p' 0 48 (v * w) → post (nI R, c, l, r, q, s, p')) :
    ∀ d i, i + d = 48 → wX_formProduct__left_right_2 post (nI R) (d + 1) (nI i) c l r q s (rb_ov p 0 0 i (fun _ => 0))
  | 0, i, e => br_t (nI_le (a := 48) (by omega) (by omega)) ⟨25, by
      have e2 : i = 48 := by omega
      subst e2
      exact xl_fpI_left_right hR hR2 Hv Hw hv hw h 24 0 _ (by omega) (rb_G0 (fun k hk => rb_ovI0 (Nat.zero_le k) hk))⟩
  | d + 1, i, e => br_f (nI_ge (b := 48) (by omega) (by decide))
      ⟨pk_in i 48 (by omega), nm_r (rb_wu0 rfl (by omega) rfl (Nat.zero_le i))
          (nm_r (nI_1 i) (xl_fpZ_left_right hR hR2 Hv Hw hv hw h d (i + 1) (by omega)))⟩
theorem xx_formProduct_left_right {post : SX → Prop} {c l r q s p : Nat → Int32} {R v w : Nat} (hR : 2 ≤ R) (hR2 : R ≤ 36)
    (Hv : rb_H R l 0 25 v) (Hw : rb_H R r 0 25 w) (hv : v < R ^ 24) (hw : w < R ^ 24) (h : ∀ p', rb_H R p' 0 48 (v * w) → post (nI R, c, l, r, q, s, p')) :
    wpX_formProduct__left_right post (nI R, c, l, r, q, s, p) := by
  have x := xl_fpZ_left_right (p := p) (s := s) (q := q) (c := c) hR hR2 Hv Hw hv hw h 48 0 (by omega)
  rw [rb_ovE] at x
  exact ⟨_, x⟩
theorem xl_fpC_right_right {post : SX → Prop} {c l r q s p : Nat → Int32} {R v w : Nat} {m : Nat → Nat} (hR : 2 ≤ R) (hR2 : R ≤ 36) (h1 : ∀ k, k < 48 → p k = nI (m k)) (h2 : ∀ k, k < 48 → m k ≤ 705600) (h3 : rb_cs R m 48 = v * w)
    (h : post (nI R, c, l, r, q, s, rb_ov p 0 0 48 (fun k => nI (rb_dg R (v * w) k)))) :
    ∀ d i, i + d = 48 → wX_formProduct__right_right_76 post (nI R) (d + 1) (nI (rb_cs R m i / R ^ i)) (nI i) c l r q s (rb_ov p 0 0 i (fun k => nI (rb_dg R (v * w) k)))
  | 0, i, e => br_t (nI_le (a := 48) (by omega) (by omega)) (by
      have e2 : i = 48 := by omega
      subst e2
      exact h)
  | d + 1, i, e => by
    have b1 := h2 i (by omega)
    have b2 := rb_ccb (B := 705600) hR m i (fun k hk => h2 k (by omega))
    have ih := xl_fpC_right_right hR hR2 h1 h2 h3 h d (i + 1) (by omega)
    rw [rb_cc hR] at ih
    have m1 := rb_cdn hR m (by omega : i < 48)
    rw [h3] at m1
    have r1 : rb_ov p 0 0 i (fun k => nI (rb_dg R (v * w) k)) (nI i).toNatClampNeg = nI (m i) := by
      rw [rb_ci rfl (by omega), rb_ovO (by omega), h1 i (by omega)]
    exact br_f (nI_ge (b := 48) (by omega) (by decide)) ⟨pk_in i 48 (by omega), nm_r (e' := nI (m i + rb_cs R m i / R ^ i)) (by rw [r1, nI_add])
      ⟨nI_ne0 (by omega) (by omega), pk_in i 48 (by omega), nm_r (rb_wu0 rfl (by omega) (by rw [pk_rem (by omega) (by omega) (by omega), ← m1]) (Nat.zero_le i)) ⟨nI_ne0 (by omega) (by omega), nm_r (pk_div (by omega) (by omega) (by omega)) (nm_r (nI_1 i) ih)⟩⟩⟩
theorem xl_fpJ_right_right {post : SX → Prop} {J : Int32 → (Nat → Int32) → (Nat → Int32) → (Nat → Int32) → (Nat → Int32) → (Nat → Int32) → (Nat → Int32) → Prop} {c l r q s : Nat → Int32} {R v w i : Nat} (hR : 2 ≤ R) (hR2 : R ≤ 36)
    (Hv : rb_H R r 0 25 v) (Hw : rb_H R r 0 25 w) (hw : w < R ^ 24) (hi : i < 24) (hJ : ∀ p', rb_G R v w (i + 1) 0 p' → J (nI (i + 1)) c l r q s p') :
    ∀ d j p, j + d = 24 → rb_G R v w i j p → wX_formProduct__right_right_32 post J (nI i) (nI R) (d + 1) (nI j) c l r q s p
  | 0, j, p, e, G => br_t (nI_le (a := 24) (by omega) (by omega)) (nm_r (nI_1 i) (by
      have e2 : j = 24 := by omega
      subst e2
      exact hJ p (rb_Ge hw G)))
  | d + 1, j, p, e, G => by
    have r1 : r (nI i).toNatClampNeg = nI (rb_dg R v i) := rb_rH0 Hv (by omega) rfl (by omega)
    have r2 : r (nI j).toNatClampNeg = nI (rb_dg R w j) := rb_rH0 Hw (by omega) rfl (by omega)
    have ih := xl_fpJ_right_right (post := post) hR hR2 Hv Hw hw hi hJ d (j + 1) _ (by omega) (rb_Gs hR hR2 hi (by omega) G)
    exact br_f (nI_ge (b := 24) (by omega) (by decide)) ⟨pk_in (i + j) 48 (by omega) (nI_add i j), pk_in i 25 (by omega), pk_in j 25 (by omega), pk_in (i + j) 48 (by omega) (nI_add i j),
      nm_r (by rw [r1, r2, nI_add, nI_clamp (by omega)]) (nm_r (nI_1 j) ih)⟩
theorem xl_fpI_right_right {post : SX → Prop} {c l r q s : Nat → Int32} {R v w : Nat} (hR : 2 ≤ R) (hR2 : R ≤ 36)
    (Hv : rb_H R r 0 25 v) (Hw : rb_H R r 0 25 w) (hv : v < R ^ 24) (hw : w < R ^ 24) (h : ∀ p', rb_H R p' 0 48 (v * w) → post (nI R, c, l, r, q, s, p')) :
    ∀ d i p, i + d = 24 → rb_G R v w i 0 p → wX_formProduct__right_right_23 post (nI R) (d + 1) (nI i) c l r q s p
  | 0, i, p, e, G => br_t (nI_le (a := 24) (by omega) (by omega)) (by
      have e2 : i = 24 := by omega
      subst e2
      obtain ⟨m, h1, h2, h3⟩ := rb_GE hv G
      have g := h (rb_ov p 0 0 48 (fun k => nI (rb_dg R (v * w) k))) (rb_ovF (fun i hi => rfl))
      have x := xl_fpC_right_right hR hR2 h1 h2 h3 g 48 0 (by omega)
      rw [rb_ovE] at x
      have z : rb_cs R m 0 / R ^ 0 = 0 := Nat.zero_div _
      rw [z] at x
      exact ⟨_, x⟩)
  | d + 1, i, p, e, G => br_f (nI_ge (b := 24) (by omega) (by decide)) ⟨25,
      xl_fpJ_right_right hR hR2 Hv Hw hw (by omega) (fun p' G' => xl_fpI_right_right hR hR2 Hv Hw hv hw h d (i + 1) p' (by omega) G') 24 0 p (by omega) G⟩
theorem xl_fpZ_right_right {post : SX → Prop} {c l r q s p : Nat → Int32} {R v w : Nat} (hR : 2 ≤ R) (hR2 : R ≤ 36)
    (Hv : rb_H R r 0 25 v) (Hw : rb_H R r 0 25 w) (hv : v < R ^ 24) (hw : w < R ^ 24) (h : ∀ p', rb_H R p' 0 48 (v * w) → post (nI R, c, l, r, q, s, p')) :
    ∀ d i, i + d = 48 → wX_formProduct__right_right_2 post (nI R) (d + 1) (nI i) c l r q s (rb_ov p 0 0 i (fun _ => 0))
  | 0, i, e => br_t (nI_le (a := 48) (by omega) (by omega)) ⟨25, by
      have e2 : i = 48 := by omega
      subst e2
      exact xl_fpI_right_right hR hR2 Hv Hw hv hw h 24 0 _ (by omega) (rb_G0 (fun k hk => rb_ovI0 (Nat.zero_le k) hk))⟩
  | d + 1, i, e => br_f (nI_ge (b := 48) (by omega) (by decide))
      ⟨pk_in i 48 (by omega), nm_r (rb_wu0 rfl (by omega) rfl (Nat.zero_le i))
          (nm_r (nI_1 i) (xl_fpZ_right_right hR hR2 Hv Hw hv hw h d (i + 1) (by omega)))⟩
theorem xx_formProduct_right_right {post : SX → Prop} {c l r q s p : Nat → Int32} {R v w : Nat} (hR : 2 ≤ R) (hR2 : R ≤ 36)
    (Hv : rb_H R r 0 25 v) (Hw : rb_H R r 0 25 w) (hv : v < R ^ 24) (hw : w < R ^ 24) (h : ∀ p', rb_H R p' 0 48 (v * w) → post (nI R, c, l, r, q, s, p')) :
    wpX_formProduct__right_right post (nI R, c, l, r, q, s, p) := by
  have x := xl_fpZ_right_right (p := p) (s := s) (q := q) (c := c) hR hR2 Hv Hw hv hw h 48 0 (by omega)
  rw [rb_ovE] at x
  exact ⟨_, x⟩
theorem xl_tooLong {post : Int32 → Prop} {F : Int32} {c l r q s p : Nat → Int32} {R v : Nat} (hR : 2 ≤ R) (hR2 : R ≤ 36) (Hv : rb_H R p 0 48 v) (hv : v < R ^ 48)
    (h0 : v < R ^ 24 → post 0) (h1 : R ^ 24 ≤ v → post 1) :
    ∀ d i, i + d = 48 → 24 ≤ i → (∀ k, 24 ≤ k → k < i → rb_dg R v k = 0) → wX_productIsTooLong_3 post F c l r q s p (d + 1) (nI i)
  | 0, i, e, _, z => br_t (nI_le (a := 48) (by omega) (by omega)) (h0 (rb_top (m := 24) hR 24 hv (fun k k1 k2 => z k k1 (by omega))))
  | d + 1, i, e, l9, z => br_f (nI_ge (b := 48) (by omega) (by decide))
      ⟨pk_in i 48 (by omega), by
        have b1 := rb_dgb hR hR2 v i
        refine pk_eq (rb_dg R v i) 0 (fun c9 => nm_r (nI_1 i) (xl_tooLong hR hR2 Hv hv h0 h1 d (i + 1) (by omega) (by omega) ?_)) (fun c9 => h1 (rb_big hR l9 c9)) (rb_rH0 Hv (by omega) rfl (by omega))
        intro k k1 k2
        by_cases e9 : k = i
        · rw [e9]
          exact c9
        · exact z k k1 (by omega)⟩
theorem xx_tooLong {post : Int32 → Prop} {F : Int32} {c l r q s p : Nat → Int32} {R v : Nat} (hR : 2 ≤ R) (hR2 : R ≤ 36) (Hv : rb_H R p 0 48 v) (hv : v < R ^ 48)
    (h0 : v < R ^ 24 → post 0) (h1 : R ^ 24 ≤ v → post 1) : wpX_productIsTooLong post (F, c, l, r, q, s, p) :=
  ⟨_, xl_tooLong hR hR2 Hv hv h0 h1 24 24 (by omega) (by omega) (fun k k1 k2 => absurd k2 (by omega))⟩
/-! takeOut, formQuotient -/
theorem xl_takeOut {post : Int32 → SX → Prop} {c l r q p : Nat → Int32} {R x w : Nat} (hR : 2 ≤ R) (hR2 : R ≤ 36) (Hw : rb_H R r 0 25 w) (hw0 : 0 < w) (hw : w < R ^ 24) (hx : x < w * R)
    (h : ∀ s', rb_H R s' 0 25 (x % w) → post (nI (x / w)) (nI R, c, l, r, q, s', p)) :
    ∀ d m s, m + d = x / w → rb_H R s 0 25 (x - m * w) → wX_takeOut__rest_right_2 post (d + 1) (nI m) (nI R) c l r q s p
  | 0, m, s, e, H => by
    have e2 : m = x / w := by omega
    subst e2
    have b1 := rb_qb hw0 hx
    rw [rb_tl hw0] at H
    have b2 : x % w < w := Nat.mod_lt x hw0
    have b3 : w < R ^ 25 := Nat.lt_of_lt_of_le hw (rb_pm hR (by omega))
    refine br_f (nI_ge b1 (by omega)) (xx_order_rest_right hR hR2 H Hw (Nat.lt_trans b2 b3) b3 (fun z => absurd z (by omega)) (fun z => absurd z (by omega)) (fun _ => ?_))
    exact br_t rfl (h s H)
  | d + 1, m, s, e, H => by
    have b1 := rb_qb hw0 hx
    have b3 : w < R ^ 25 := Nat.lt_of_lt_of_le hw (rb_pm hR (by omega))
    have b4 : x < R ^ 25 := rb_xb hw hx
    obtain ⟨t1, t2⟩ := rb_to (x := x) (m := m) hw0 (by omega)
    have ih : ∀ s', rb_H R s' 0 25 (x - m * w - w) → wX_takeOut__rest_right_2 post (d + 1) (nI m + 1) (nI R) c l r q s' p := by
      intro s' H'
      rw [t2] at H'
      rw [nI_1]
      exact xl_takeOut hR hR2 Hw hw0 hw hx h d (m + 1) s' (by omega) H'
    refine br_f (nI_ge (by omega) (by omega)) (xx_order_rest_right hR hR2 H Hw (by omega) b3 (fun z => ?_) (fun z => ?_) (fun z => absurd z (by omega)))
    all_goals
      exact br_f (by decide) (xx_decrease_rest_right hR hR2 H Hw t1 (fun s' H' => nm_e (ih s' H')))
theorem xx_takeOut {post : Int32 → SX → Prop} {c l r q s p : Nat → Int32} {R x w : Nat} (hR : 2 ≤ R) (hR2 : R ≤ 36) (H : rb_H R s 0 25 x) (Hw : rb_H R r 0 25 w) (hw0 : 0 < w) (hw : w < R ^ 24) (hx : x < w * R)
    (h : ∀ s', rb_H R s' 0 25 (x % w) → post (nI (x / w)) (nI R, c, l, r, q, s', p)) : wpX_takeOut__rest_right post (nI R, c, l, r, q, s, p) :=
  ⟨_, xl_takeOut hR hR2 Hw hw0 hw hx h (x / w) 0 s (by omega) (by rw [Nat.zero_mul, Nat.sub_zero]; exact H)⟩
end
section
/-! the relation, half by half -/
def rb_B (R : Nat) (V : Nat → Nat) : Prop := ∀ r, r < 4 → V r < R ^ 24
def rb_X (R : Nat) (V : Nat → Nat) (c : Nat → Int32) : Prop := ∀ r, r < 4 → rb_H R c (24 * r) 24 (V r)
def rb_Y (R : Nat) (V : Nat → Nat) (b : Nat → Int32) : Prop := ∀ r, r < 4 → rb_H R b (50 * r) 50 (V r)
def rb_PX (R : Nat) (V : Nat → Nat) (P : SX → Prop) : Prop := ∀ c l r q s p, rb_X R V c → P (nI R, c, l, r, q, s, p)
def rb_PY (R : Nat) (V : Nat → Nat) (P : SY → Prop) : Prop := ∀ b, rb_Y R V b → P (nI R, b)
theorem rb_Xs {R a x : Nat} {V : Nat → Nat} {c c' : Nat → Int32} (hX : rb_X R V c) (H : rb_H R c' (24 * a) 24 x) (K : rb_KX a c c') : rb_X R (rb_up V a x) c' := by
  intro r hr
  by_cases e : r = a
  · rw [e, rb_upS]
    exact H
  · rw [rb_upN e]
    exact rb_KXH K e (hX r hr)
theorem rb_Bs {R a x : Nat} {V : Nat → Nat} (hB : rb_B R V) (hx : x < R ^ 24) : rb_B R (rb_up V a x) := by
  intro r hr
  by_cases e : r = a
  · rw [e, rb_upS]
    exact hx
  · rw [rb_upN e]
    exact hB r hr
theorem rb_Ys {R a x : Nat} {V : Nat → Nat} {b b' : Nat → Int32} (hY : rb_Y R V b) (H : rb_H R b' (50 * a) 50 x) (K : rb_K a b b') : rb_Y R (rb_up V a x) b' := by
  intro r hr
  by_cases e : r = a
  · rw [e, rb_upS]
    exact H
  · rw [rb_upN e]
    exact rb_KH K e (by omega) (hY r hr)
/-- a work row was written -/
theorem rb_Yw {R t : Nat} {V : Nat → Nat} {b b' : Nat → Int32} (hY : rb_Y R V b) (ht : 4 ≤ t) (K : rb_K t b b') : rb_Y R V b' :=
  fun r hr => rb_KH K (by omega) (by omega) (hY r hr)
def rb_bad (x : Int32) : Prop := x < 0 ∨ nI 4 ≤ x
theorem rb_reg (x : Int32) : rb_bad x ∨ ∃ i : Nat, i < 4 ∧ x = nI i := by
  rcases pk_ix x (n := 4) (by decide) with h | h | h
  · exact Or.inl (Or.inl h)
  · exact Or.inl (Or.inr h)
  · exact Or.inr h
theorem rb_d24 {R v : Nat} (hR : 2 ≤ R) (hv : v < R ^ 25) : rb_dg R v 24 = 0 ↔ v < R ^ 24 := by
  constructor
  · intro h
    exact rb_top (m := 24) hR 1 hv (fun i i1 i2 => by
      have e : i = 24 := by omega
      rw [e]
      exact h)
  · intro h
    exact rb_hi hR h (Nat.le_refl 24)
theorem rb_sum25 {R v w : Nat} (hR : 2 ≤ R) (hv : v < R ^ 24) (hw : w < R ^ 24) : v + w < R ^ 25 := by
  have : 2 * R ^ 24 ≤ R * R ^ 24 := Nat.mul_le_mul_right _ hR
  rw [Nat.pow_succ, Nat.mul_comm]
  omega
theorem rb_w25 {R v : Nat} (hR : 2 ≤ R) (hv : v < R ^ 24) : v < R ^ 25 := Nat.lt_of_lt_of_le hv (rb_pm hR (by omega))
theorem rb_w50 {R v : Nat} (hR : 2 ≤ R) (hv : v < R ^ 24) : v < R ^ 50 := Nat.lt_of_lt_of_le hv (rb_pm hR (by omega))
/-! X's tests -/
theorem xx_reg {post : Int32 → Prop} {a : Nat} (ha : a < 4) (h : post 1) : wpX_isRegister post (nI a) :=
  br_f (nI_pos (by omega)) (br_f (nI_ge (b := 4) ha (by decide)) h)
theorem xx_noreg {post : Int32 → Prop} {x : Int32} (hx : rb_bad x) (h : post 0) : wpX_isRegister post x := by
  rcases hx with z | z
  · exact br_t z h
  · by_cases y : x < 0
    · exact br_t y h
    · exact br_f y (br_t z h)
theorem xx_place {post : Int32 → Prop} {i : Nat} (hi : i < 24) (h : post 1) : wpX_isPlace post (nI i) :=
  br_f (nI_pos (by omega)) (br_f (nI_ge (b := 24) hi (by decide)) h)
theorem xx_noplace {post : Int32 → Prop} {x : Int32} (hx : x < 0 ∨ nI 24 ≤ x) (h : post 0) : wpX_isPlace post x := by
  by_cases y : x < 0
  · exact br_t y h
  · exact br_f y (br_t (hx.resolve_left y) h)
theorem xx_placeI {post : Int32 → Prop} {x : Int32} (hx : 0 ≤ x ∧ x < 24) (h : post 1) : wpX_isPlace post x :=
  br_f (Int32.not_lt.mpr hx.1) (br_f (Int32.not_le.mpr hx.2) h)
theorem xx_placeO {post : Int32 → Prop} {x : Int32} (hx : ¬ (0 ≤ x ∧ x < 24)) (h : post 0) : wpX_isPlace post x := by
  by_cases y : x < 0
  · exact br_t y h
  · exact br_f y (br_t (Int32.not_lt.mp (fun z => hx ⟨Int32.not_lt.mp y, z⟩)) h)
theorem xx_digit {post : Int32 → Prop} {c l r q s p : Nat → Int32} {R d : Nat} (hR2 : R ≤ 36) (hd : d < R) (h : post 1) : wpX_isDigit post (nI R, c, l, r, q, s, p) (nI d) :=
  br_f (nI_pos (by omega)) (br_f (nI_ge hd (by omega)) h)
theorem xx_nodigit {post : Int32 → Prop} {c l r q s p : Nat → Int32} {R : Nat} {x : Int32} (hx : x < 0 ∨ nI R ≤ x) (h : post 0) : wpX_isDigit post (nI R, c, l, r, q, s, p) x := by
  by_cases y : x < 0
  · exact br_t y h
  · exact br_f y (br_t (hx.resolve_left y) h)
theorem xx_radix {post : Int32 → Prop} {o : Nat} (ho : 2 ≤ o) (ho2 : o ≤ 36) (h : post 1) : wpX_isRadix post (nI o) :=
  br_f (nI_nlt (b := 2) ho (by omega)) (br_f (nI_nlt (a := 36) ho2 (by decide)) h)
theorem xx_noradix {post : Int32 → Prop} {x : Int32} (hx : x < 2 ∨ 36 < x) (h : post 0) : wpX_isRadix post x := by
  by_cases y : x < 2
  · exact br_t y h
  · exact br_f y (br_t (hx.resolve_left y) h)
end
section
theorem xx_add {post : Int32 → SX → Prop} {c l r q s p : Nat → Int32} {R a b : Nat} {V : Nat → Nat} (hR : 2 ≤ R) (hR2 : R ≤ 36) (hB : rb_B R V) (hX : rb_X R V c) (ha : a < 4) (hb : b < 4)
    (h0 : V a + V b < R ^ 24 → rb_PX R (rb_up V a (V a + V b)) (post 0)) (h1 : R ^ 24 ≤ V a + V b → rb_PX R V (post (-2))) : wpX_add post (nI R, c, l, r, q, s, p) (nI a) (nI b) := by
  unfold wpX_add
  dsimp only
  refine xx_reg ha (br_f (by decide) (xx_reg hb (br_f (by decide) ?_)))
  refine xx_load_left ha hR (hX a ha) (hB a ha) (fun l1 Hl => ?_)
  refine xx_load_right hb hR (hX b hb) (hB b hb) (fun r1 Hr => ?_)
  refine xx_increase_left_right hR hR2 Hl Hr (fun l2 H2 => ?_)
  have e : l2 24 = nI (rb_dg R (V a + V b) 24) := rb_H0 H2 (by omega)
  have b1 := rb_sum25 hR (hB a ha) (hB b hb)
  by_cases k : V a + V b < R ^ 24
  · have e0 : l2 24 = 0 := by
      rw [e, (rb_d24 hR b1).mpr k]
      rfl
    exact br_t e0 (xx_store_left ha (rb_Hm H2 (by omega)) (fun c1 H1 K => h0 k _ _ _ _ _ _ (rb_Xs hX H1 K)))
  · have e0 : ¬ l2 24 = 0 := by
      intro z
      have b2 := rb_dgb hR hR2 (V a + V b) 24
      rw [e] at z
      exact k ((rb_d24 hR b1).mp ((rb_n0 (by omega)).mp z))
    exact br_f e0 (h1 (by omega) _ _ _ _ _ _ hX)
theorem xx_subtract {post : Int32 → SX → Prop} {c l r q s p : Nat → Int32} {R a b : Nat} {V : Nat → Nat} (hR : 2 ≤ R) (hR2 : R ≤ 36) (hB : rb_B R V) (hX : rb_X R V c) (ha : a < 4) (hb : b < 4)
    (h0 : V b ≤ V a → rb_PX R (rb_up V a (V a - V b)) (post 0)) (h1 : V a < V b → rb_PX R V (post (-2))) : wpX_subtract post (nI R, c, l, r, q, s, p) (nI a) (nI b) := by
  unfold wpX_subtract
  dsimp only
  refine xx_reg ha (br_f (by decide) (xx_reg hb (br_f (by decide) ?_)))
  refine xx_load_left ha hR (hX a ha) (hB a ha) (fun l1 Hl => ?_)
  refine xx_load_right hb hR (hX b hb) (hB b hb) (fun r1 Hr => ?_)
  refine xx_order_left_right hR hR2 Hl Hr (rb_w25 hR (hB a ha)) (rb_w25 hR (hB b hb)) (fun z => br_f (by decide) ?_) (fun z => br_f (by decide) ?_) (fun z => br_t rfl (h1 z _ _ _ _ _ _ hX))
  all_goals
    have z2 : V b ≤ V a := by omega
    exact xx_decrease_left_right hR hR2 Hl Hr z2 (fun l2 H2 => xx_store_left ha (rb_Hm H2 (by omega)) (fun c1 H1 K => h0 z2 _ _ _ _ _ _ (rb_Xs hX H1 K)))
theorem xx_multiply {post : Int32 → SX → Prop} {c l r q s p : Nat → Int32} {R a b : Nat} {V : Nat → Nat} (hR : 2 ≤ R) (hR2 : R ≤ 36) (hB : rb_B R V) (hX : rb_X R V c) (ha : a < 4) (hb : b < 4)
    (h0 : V a * V b < R ^ 24 → rb_PX R (rb_up V a (V a * V b)) (post 0)) (h1 : R ^ 24 ≤ V a * V b → rb_PX R V (post (-2))) : wpX_multiply post (nI R, c, l, r, q, s, p) (nI a) (nI b) := by
  unfold wpX_multiply
  dsimp only
  refine xx_reg ha (br_f (by decide) (xx_reg hb (br_f (by decide) ?_)))
  refine xx_load_left ha hR (hX a ha) (hB a ha) (fun l1 Hl => ?_)
  refine xx_load_right hb hR (hX b hb) (hB b hb) (fun r1 Hr => ?_)
  refine xx_formProduct_left_right hR hR2 Hl Hr (hB a ha) (hB b hb) (fun p1 Hp => ?_)
  refine xx_tooLong hR hR2 Hp (rb_mlt (hB a ha) (hB b hb)) (fun z => br_t rfl ?_) (fun z => br_f (by decide) (h1 z _ _ _ _ _ _ hX))
  exact xx_store_product ha (rb_Hm Hp (by omega)) (fun c1 H1 K => h0 z _ _ _ _ _ _ (rb_Xs hX H1 K))
theorem xx_multiplyLow {post : Int32 → SX → Prop} {c l r q s p : Nat → Int32} {R a b : Nat} {V : Nat → Nat} (hR : 2 ≤ R) (hR2 : R ≤ 36) (hB : rb_B R V) (hX : rb_X R V c) (ha : a < 4) (hb : b < 4)
    (h0 : V a * V b < R ^ 24 → rb_PX R (rb_up V a (V a * V b % R ^ 24)) (post 0)) (h1 : R ^ 24 ≤ V a * V b → rb_PX R (rb_up V a (V a * V b % R ^ 24)) (post 1)) : wpX_multiplyLow post (nI R, c, l, r, q, s, p) (nI a) (nI b) := by
  unfold wpX_multiplyLow
  dsimp only
  refine xx_reg ha (br_f (by decide) (xx_reg hb (br_f (by decide) ?_)))
  refine xx_load_left ha hR (hX a ha) (hB a ha) (fun l1 Hl => ?_)
  refine xx_load_right hb hR (hX b hb) (hB b hb) (fun r1 Hr => ?_)
  refine xx_formProduct_left_right hR hR2 Hl Hr (hB a ha) (hB b hb) (fun p1 Hp => ?_)
  refine xx_store_product ha (rb_HM hR Hp (by omega)) (fun c1 H1 K => ?_)
  exact xx_tooLong hR hR2 Hp (rb_mlt (hB a ha) (hB b hb)) (fun z => br_t rfl (h0 z _ _ _ _ _ _ (rb_Xs hX H1 K))) (fun z => br_f (by decide) (h1 z _ _ _ _ _ _ (rb_Xs hX H1 K)))
theorem xx_compare {post : Int32 → SX → Prop} {c l r q s p : Nat → Int32} {R a b : Nat} {V : Nat → Nat} (hR : 2 ≤ R) (hR2 : R ≤ 36) (hB : rb_B R V) (hX : rb_X R V c) (ha : a < 4) (hb : b < 4)
    (h0 : V a = V b → rb_PX R V (post 0)) (h1 : V b < V a → rb_PX R V (post 1)) (h2 : V a < V b → rb_PX R V (post 2)) : wpX_compare post (nI R, c, l, r, q, s, p) (nI a) (nI b) := by
  unfold wpX_compare
  dsimp only
  refine xx_reg ha (br_f (by decide) (xx_reg hb (br_f (by decide) ?_)))
  refine xx_load_left ha hR (hX a ha) (hB a ha) (fun l1 Hl => ?_)
  refine xx_load_right hb hR (hX b hb) (hB b hb) (fun r1 Hr => ?_)
  exact xx_order_left_right hR hR2 Hl Hr (rb_w25 hR (hB a ha)) (rb_w25 hR (hB b hb)) (fun z => h0 z _ _ _ _ _ _ hX) (fun z => h1 z _ _ _ _ _ _ hX) (fun z => h2 z _ _ _ _ _ _ hX)
theorem xx_copy {post : Int32 → SX → Prop} {c l r q s p : Nat → Int32} {R a b : Nat} {V : Nat → Nat} (hR : 2 ≤ R) (hB : rb_B R V) (hX : rb_X R V c) (ha : a < 4) (hb : b < 4)
    (h0 : rb_PX R (rb_up V a (V b)) (post 0)) : wpX_copy post (nI R, c, l, r, q, s, p) (nI a) (nI b) := by
  unfold wpX_copy
  dsimp only
  refine xx_reg ha (br_f (by decide) (xx_reg hb (br_f (by decide) ?_)))
  refine xx_load_left hb hR (hX b hb) (hB b hb) (fun l1 Hl => ?_)
  exact xx_store_left ha (rb_Hm Hl (by omega)) (fun c1 H1 K => h0 _ _ _ _ _ _ (rb_Xs hX H1 K))
theorem xx_feed {post : Int32 → SX → Prop} {c l r q s p : Nat → Int32} {R a d : Nat} {V : Nat → Nat} (hR : 2 ≤ R) (hR2 : R ≤ 36) (hB : rb_B R V) (hX : rb_X R V c) (ha : a < 4) (hd : d < R)
    (h0 : rb_PX R (rb_up V a ((V a * R + d) % R ^ 24)) (post (nI (rb_dg R (V a) 23)))) : wpX_feed post (nI R, c, l, r, q, s, p) (nI a) (nI d) := by
  unfold wpX_feed
  dsimp only
  refine xx_reg ha (br_f (by decide) ?_)
  refine xx_digit hR2 hd (br_f (by decide) ?_)
  refine xx_load_left ha hR (hX a ha) (hB a ha) (fun l1 Hl => ?_)
  refine xx_pushDigit_left hR hd Hl (fun l2 H2 => ?_)
  refine xx_store_left ha (rb_HM hR H2 (by omega)) (fun c1 H1 K => ?_)
  have e : l2 24 = nI (rb_dg R (V a) 23) := by
    rw [rb_H0 H2 (by omega), rb_ph hR (V a) d 23 hd]
  show post (l2 24) _
  rw [e]
  exact h0 _ _ _ _ _ _ (rb_Xs hX H1 K)
/-! formQuotient -/
theorem xl_quot {post : SX → Prop} {c l r p : Nat → Int32} {R v w : Nat} (hR : 2 ≤ R) (hR2 : R ≤ 36) (Hv : rb_H R l 0 25 v) (Hw : rb_H R r 0 25 w) (hw0 : 0 < w) (hw : w < R ^ 24)
    (h : ∀ q' s', rb_H R q' 0 24 (v / w) → rb_H R s' 0 25 (v % w) → post (nI R, c, l, r, q', s', p)) :
    ∀ e q s, e ≤ 24 → (∀ k, e ≤ k → k < 24 → q k = nI (rb_dg R (v / w) k)) → rb_H R s 0 25 (v / R ^ e % w) → wX_formQuotient_10 post (e + 1) (nI e + (-1)) (nI R) c l r q s p
  | 0, q, s, _, hq, H => br_t (by rw [nI_0]; decide) (by
      rw [Nat.pow_zero, Nat.div_one] at H
      exact h q s (rb_H0i (fun i hi => hq i (Nat.zero_le i) hi)) H)
  | e + 1, q, s, l9, hq, H => by
    rw [pk_m1]
    have r1 : l (nI e).toNatClampNeg = nI (rb_dg R v e) := rb_rH0 Hv (by omega) rfl (by omega)
    refine br_f (nI_pos (by omega)) ⟨pk_in e 25 (by omega), ?_⟩
    rw [r1]
    refine xx_pushDigit_rest hR (rb_lt hR v e) H (fun s1 H1 => ?_)
    refine xx_takeOut hR hR2 H1 Hw hw0 hw (rb_ldb hR hw0 v e) (fun s2 H2 => ?_)
    rw [rb_ldr hw0] at H2
    refine ⟨pk_in e 24 (by omega), nm_r (e' := upd q e (nI (rb_dg R (v / w) e))) (by rw [nI_clamp (by omega), rb_ldq hR hw0]) (nm_e (xl_quot hR hR2 Hv Hw hw0 hw h e _ s2 (by omega) (fun k k1 k2 => ?_) H2))⟩
    by_cases e9 : k = e
    · rw [e9, pk_us]
    · rw [pk_un e9]
      exact hq k (by omega) k2
theorem xx_quot {post : SX → Prop} {c l r q s p : Nat → Int32} {R v w : Nat} (hR : 2 ≤ R) (hR2 : R ≤ 36) (Hv : rb_H R l 0 25 v) (hv : v < R ^ 24) (Hw : rb_H R r 0 25 w) (hw0 : 0 < w) (hw : w < R ^ 24)
    (h : ∀ q' s', rb_H R q' 0 24 (v / w) → rb_H R s' 0 25 (v % w) → post (nI R, c, l, r, q', s', p)) : wpX_formQuotient post (nI R, c, l, r, q, s, p) := by
  unfold wpX_formQuotient
  dsimp only
  refine xx_clear_rest (R := R) (fun s1 H1 => ⟨25, xl_quot hR hR2 Hv Hw hw0 hw h 24 q s1 (by omega) (fun k k1 k2 => absurd k2 (by omega)) ?_⟩)
  rw [Nat.div_eq_of_lt hv, Nat.zero_mod]
  exact H1
end
section
theorem xx_divide {post : Int32 → SX → Prop} {c l r q s p : Nat → Int32} {R d a b : Nat} {V : Nat → Nat} (hR : 2 ≤ R) (hR2 : R ≤ 36) (hB : rb_B R V) (hX : rb_X R V c) (hd : d < 4) (ha : a < 4) (hb : b < 4) (n1 : d ≠ a) (n2 : d ≠ b) (n3 : a ≠ b)
    (h0 : V b ≠ 0 → rb_PX R (rb_up (rb_up V d (V a / V b)) a (V a % V b)) (post 0)) (h1 : V b = 0 → rb_PX R V (post (-3))) : wpX_divide post (nI R, c, l, r, q, s, p) (nI d) (nI a) (nI b) := by
  unfold wpX_divide
  dsimp only
  refine xx_reg hd (br_f (by decide) (xx_reg ha (br_f (by decide) (xx_reg hb (br_f (by decide) ?_)))))
  refine br_f (fun z => n1 ((nI_eq (by omega) (by omega)).mp z)) (br_f (fun z => n2 ((nI_eq (by omega) (by omega)).mp z)) (br_f (fun z => n3 ((nI_eq (by omega) (by omega)).mp z)) ?_))
  refine xx_load_left ha hR (hX a ha) (hB a ha) (fun l1 Hl => ?_)
  refine xx_load_right hb hR (hX b hb) (hB b hb) (fun r1 Hr => ?_)
  refine xx_isZero_right hR hR2 Hr (rb_w25 hR (hB b hb)) (fun z => br_t rfl ?_) (fun z => br_f (by decide) (h1 z _ _ _ _ _ _ hX))
  refine xx_quot hR hR2 Hl (hB a ha) Hr (Nat.pos_of_ne_zero z) (hB b hb) (fun q1 s1 Hq Hs => ?_)
  refine xx_store_quotient hd Hq (fun c1 H1 K1 => ?_)
  exact xx_store_rest ha (rb_Hm Hs (by omega)) (fun c2 H2 K2 => h0 z _ _ _ _ _ _ (rb_Xs (rb_Xs hX H1 K1) H2 K2))
/-! divisor -/
theorem xl_divisor0 {post : Int32 → SX → Prop} {c l r q s p : Nat → Int32} {R a k u n : Nat} {V : Nat → Nat} (hR : 2 ≤ R) (hR2 : R ≤ 36) (hX : rb_X R V c) (ha : a < 4) (hk : k < 10000)
    (h : rb_PX R (rb_up V a u) (post 0)) (Hl : rb_H R l 0 25 u) (Hr : rb_H R r 0 25 0) : wX_divisor_36 post (nI a) (n + 1) (nI k) (nI R) c l r q s p :=
  br_f (nI_ge (b := 10000) hk (by decide)) (xx_isZero_right hR hR2 Hr (rb_pp hR 25) (fun y => absurd rfl y) (fun _ => br_f (by decide)
    (xx_store_left ha (rb_Hm Hl (by omega)) (fun c1 H1 K => h _ _ _ _ _ _ (rb_Xs hX H1 K)))))
theorem xl_divisor {post : Int32 → SX → Prop} {c p : Nat → Int32} {R a G : Nat} {V : Nat → Nat} (hR : 2 ≤ R) (hR2 : R ≤ 36) (hX : rb_X R V c) (ha : a < 4)
    (h : rb_PX R (rb_up V a G) (post 0)) :
    ∀ d k u w l r q s, k + d = 251 → u < R ^ 24 → w < R ^ 24 → Nat.gcd u w = G → (w = 0 ∨ rb_E k u w) → rb_H R l 0 25 u → rb_H R r 0 25 w → wX_divisor_36 post (nI a) (d + 1) (nI k) (nI R) c l r q s p
  | 0, k, u, w, l, r, q, s, e, hu, hw, hg, hE, Hl, Hr => by
    have z : w = 0 := hE.elim id (fun z => rb_Ee z (by omega))
    rw [z, Nat.gcd_zero_right] at hg
    rw [hg] at Hl
    rw [z] at Hr
    exact xl_divisor0 hR hR2 hX ha (by omega) h Hl Hr
  | d + 1, k, u, w, l, r, q, s, e, hu, hw, hg, hE, Hl, Hr => by
    by_cases z : w = 0
    · rw [z, Nat.gcd_zero_right] at hg
      rw [hg] at Hl
      rw [z] at Hr
      exact xl_divisor0 hR hR2 hX ha (by omega) h Hl Hr
    · have hE' := hE.resolve_left z
      have w0 := Nat.pos_of_ne_zero z
      refine br_f (nI_ge (b := 10000) (by omega) (by decide)) (xx_isZero_right hR hR2 Hr (rb_w25 hR hw) (fun _ => br_t rfl ?_) (fun y => absurd y z))
      refine xx_quot hR hR2 Hl hu Hr w0 hw (fun q1 s1 Hq Hs => ?_)
      refine xx_copyPlaces_right_left hR (rb_Hm Hr (by omega)) hw (fun l1 Hl1 => ?_)
      have m := Nat.mod_lt u w0
      refine xx_copyPlaces_rest_right hR (rb_Hm Hs (by omega)) (Nat.lt_trans m hw) (fun r1 Hr1 => nm_r (nI_1 k) ?_)
      exact xl_divisor hR hR2 hX ha h d (k + 1) w (u % w) l1 r1 q1 s1 (by omega) hw (Nat.lt_trans m hw) (by rw [rb_gc]; exact hg) (Or.inr (rb_Es w0 hE')) Hl1 Hr1
theorem xx_divisor {post : Int32 → SX → Prop} {c l r q s p : Nat → Int32} {R a b : Nat} {V : Nat → Nat} (hR : 2 ≤ R) (hR2 : R ≤ 36) (hB : rb_B R V) (hX : rb_X R V c) (ha : a < 4) (hb : b < 4)
    (h : rb_PX R (rb_up V a (Nat.gcd (V a) (V b))) (post 0)) : wpX_divisor post (nI R, c, l, r, q, s, p) (nI a) (nI b) := by
  unfold wpX_divisor
  dsimp only
  refine xx_reg ha (br_f (by decide) (xx_reg hb (br_f (by decide) ?_)))
  refine xx_load_left ha hR (hX a ha) (hB a ha) (fun l1 Hl => ?_)
  refine xx_load_right hb hR (hX b hb) (hB b hb) (fun r1 Hr => ?_)
  exact ⟨252, xl_divisor hR hR2 hX ha h 251 0 (V a) (V b) l1 r1 q s (by omega) (hB a ha) (hB b hb) rfl (Or.inr (rb_E0 hR2 (hB a ha) (hB b hb))) Hl Hr⟩
/-! root -/
theorem rb_rcw {R s i d n o : Nat} {r : Nat → Int32} (hR : 2 ≤ R) (hd : d < R) (h : ∀ k, k < n → k ≠ i → r (o + k) = nI (if k < i then 0 else rb_dg R s k)) : rb_H R (upd r (o + i) (nI d)) o n (rb_rc R s i d) := by
  intro k hk
  rw [rb_rcd hR s k hd]
  by_cases e : k = i
  · rw [e, pk_us, if_neg (Nat.lt_irrefl i), if_pos rfl]
  · rw [pk_un (by omega), h k hk e]
    by_cases c : k < i
    · rw [if_pos c, if_pos c]
    · rw [if_neg c, if_neg c, if_neg e]
theorem rb_rch {R s i n o : Nat} {r : Nat → Int32} (hR : 2 ≤ R) (H : rb_H R r o n (s / R ^ (i + 1) * R ^ (i + 1))) : ∀ k, k < n → k ≠ i → r (o + k) = nI (if k < i then 0 else rb_dg R s k) := by
  intro k hk hi
  rw [H k hk, rb_rtd hR]
  by_cases c : k < i
  · rw [if_pos c, if_pos (by omega)]
  · rw [if_neg c, if_neg (by omega)]
theorem rb_rcU {R s i n o : Nat} {r : Nat → Int32} {x : Int32} (h : ∀ k, k < n → k ≠ i → r (o + k) = nI (if k < i then 0 else rb_dg R s k)) : ∀ k, k < n → k ≠ i → upd r (o + i) x (o + k) = nI (if k < i then 0 else rb_dg R s k) := by
  intro k hk hi
  rw [pk_un (by omega)]
  exact h k hk hi
theorem xl_settle {post : SX → Prop} {c l q s : Nat → Int32} {R A t i : Nat} (hR : 2 ≤ R) (hR2 : R ≤ 36) (hA : A < R ^ 24) (h1 : t * t ≤ A) (h2 : A < (t + 1) * (t + 1)) (hi : i < 12) (Hl : rb_H R l 0 25 A)
    (h : ∀ r' p', rb_H R r' 0 25 (t / R ^ i * R ^ i) → post (nI R, c, l, r', q, s, p')) :
    ∀ e r p, rb_dg R t i < e → e ≤ R → (∀ k, k < 25 → k ≠ i → r (0 + k) = nI (if k < i then 0 else rb_dg R t k)) → wX_settleRootDigit_7 post (nI i) e (nI e + (-1)) (nI R) c l r q s p
  | 0, _, _, y, _, _ => absurd y (Nat.not_lt_zero _)
  | e + 1, r, p, y1, y2, hr => by
    rw [pk_m1]
    have tb := rb_sqb hA h1
    have H := rb_rcw (d := e) hR (by omega) hr
    rw [Nat.zero_add] at H
    have cb : rb_rc R t i e < R ^ 12 := rb_rcb hR tb hi (by omega)
    have cb24 : rb_rc R t i e < R ^ 24 := Nat.lt_of_lt_of_le cb (rb_pm hR (by omega))
    have sb : rb_rc R t i e * rb_rc R t i e < R ^ 24 := rb_mlt cb cb
    refine br_f (nI_pos (by omega)) ⟨pk_in i 25 (by omega), nm_r (e' := upd r i (nI e)) (by rw [nI_clamp (by omega)]) ?_⟩
    refine xx_formProduct_right_right hR hR2 H H cb24 cb24 (fun p1 Hp => ?_)
    have cc := rb_sqc (rb_rc R t i e) h1 h2
    have cl := rb_rcl hR t i e
    have go : e ≤ rb_dg R t i → post (nI R, c, l, upd r i (nI e), q, s, p1) := by
      intro z
      have e2 : e = rb_dg R t i := by omega
      rw [e2, rb_rcs] at H
      rw [e2]
      exact h _ _ H
    refine xx_order_product_left hR hR2 (rb_Hm Hp (by omega)) Hl (rb_w25 hR sb) (rb_w25 hR hA) (fun z => br_f (by decide) (go (cl.mp (cc.mp (by omega))))) (fun z => br_t rfl (nm_e ?_)) (fun z => br_f (by decide) (go (cl.mp (cc.mp (by omega)))))
    have y3 : ¬ e ≤ rb_dg R t i := fun y => absurd (cc.mpr (cl.mpr y)) (by omega)
    have hr2 := rb_rcU (x := nI e) hr
    rw [Nat.zero_add] at hr2
    exact xl_settle hR hR2 hA h1 h2 hi Hl h e _ p1 (by omega) (by omega) hr2
theorem xx_settle {post : SX → Prop} {c l r q s p : Nat → Int32} {R A t i : Nat} (hR : 2 ≤ R) (hR2 : R ≤ 36) (hA : A < R ^ 24) (h1 : t * t ≤ A) (h2 : A < (t + 1) * (t + 1)) (hi : i < 12) (Hl : rb_H R l 0 25 A) (Hr : rb_H R r 0 25 (t / R ^ (i + 1) * R ^ (i + 1)))
    (h : ∀ r' p', rb_H R r' 0 25 (t / R ^ i * R ^ i) → post (nI R, c, l, r', q, s, p')) : wpX_settleRootDigit post (nI R, c, l, r, q, s, p) (nI i) := by
  refine nm_r (e' := nI R + (-1)) ?_ ⟨_, xl_settle hR hR2 hA h1 h2 hi Hl h R r p (rb_lt hR t i) (Nat.le_refl R) (rb_rch hR Hr)⟩
  exact (Int32.sub_eq_add_neg (nI R) 1)
theorem xl_root {post : Int32 → SX → Prop} {c l q s : Nat → Int32} {R A t a : Nat} {V : Nat → Nat} (hR : 2 ≤ R) (hR2 : R ≤ 36) (hX : rb_X R V c) (ha : a < 4) (hA : A < R ^ 24) (h1 : t * t ≤ A) (h2 : A < (t + 1) * (t + 1)) (Hl : rb_H R l 0 25 A)
    (h : rb_PX R (rb_up V a t) (post 0)) :
    ∀ e r p, e ≤ 12 → rb_H R r 0 25 (t / R ^ e * R ^ e) → wX_root_28 post (nI a) (e + 1) (nI e + (-1)) (nI R) c l r q s p
  | 0, r, p, _, Hr => br_t (by rw [nI_0]; decide) (by
      rw [Nat.pow_zero, Nat.div_one, Nat.mul_one] at Hr
      exact xx_store_right ha (rb_Hm Hr (by omega)) (fun c1 H1 K => h _ _ _ _ _ _ (rb_Xs hX H1 K)))
  | e + 1, r, p, l9, Hr => by
    rw [pk_m1]
    exact br_f (nI_pos (by omega)) (xx_settle hR hR2 hA h1 h2 (by omega) Hl Hr (fun r1 p1 H1 => nm_e (xl_root hR hR2 hX ha hA h1 h2 Hl h e r1 p1 (by omega) H1)))
theorem xx_root {post : Int32 → SX → Prop} {c l r q s p : Nat → Int32} {R t a : Nat} {V : Nat → Nat} (hR : 2 ≤ R) (hR2 : R ≤ 36) (hB : rb_B R V) (hX : rb_X R V c) (ha : a < 4) (h1 : t * t ≤ V a) (h2 : V a < (t + 1) * (t + 1))
    (h : rb_PX R (rb_up V a t) (post 0)) : wpX_root post (nI R, c, l, r, q, s, p) (nI a) := by
  unfold wpX_root
  dsimp only
  refine xx_reg ha (br_f (by decide) ?_)
  refine xx_load_left ha hR (hX a ha) (hB a ha) (fun l1 Hl => ?_)
  refine xx_clear_right (R := R) (fun r1 H1 => ⟨13, xl_root hR hR2 hX ha (hB a ha) h1 h2 Hl h 12 r1 p (by omega) ?_⟩)
  rw [Nat.div_eq_of_lt (rb_sqb (hB a ha) h1), Nat.zero_mul]
  exact H1
/-! power -/
theorem xl_power {post : Int32 → SX → Prop} {c r q s : Nat → Int32} {R A a n : Nat} {V : Nat → Nat} (hR : 2 ≤ R) (hR2 : R ≤ 36) (hX : rb_X R V c) (ha : a < 4) (hA : A < R ^ 24) (hn : n ≤ 100) (Hr : rb_H R r 0 25 A)
    (h0 : (∀ j, j ≤ n → A ^ j < R ^ 24) → rb_PX R (rb_up V a (A ^ n)) (post 0)) (h1 : (∃ j, j ≤ n ∧ R ^ 24 ≤ A ^ j) → rb_PX R V (post (-3))) :
    ∀ d k l p, k + d = n → (∀ j, j ≤ k → A ^ j < R ^ 24) → rb_H R l 0 25 (A ^ k) → wX_power_47 post (nI a) (nI n) (d + 1) (nI k) (nI R) c l r q s p
  | 0, k, l, p, e, z, Hl => br_t (nI_le (by omega) (by omega)) (by
      have e2 : k = n := by omega
      subst e2
      exact xx_store_left ha (rb_Hm Hl (by omega)) (fun c1 H1 K => h0 z _ _ _ _ _ _ (rb_Xs hX H1 K)))
  | d + 1, k, l, p, e, z, Hl => by
    refine br_f (nI_ge (by omega) (by omega)) (xx_formProduct_left_right hR hR2 Hl Hr (z k (Nat.le_refl k)) hA (fun p1 Hp => ?_))
    rw [← Nat.pow_succ] at Hp
    refine xx_tooLong hR hR2 Hp (by rw [Nat.pow_succ]; exact rb_mlt (z k (Nat.le_refl k)) hA) (fun y => br_t rfl ?_) (fun y => br_f (by decide) (h1 ⟨k + 1, by omega, y⟩ _ _ _ _ _ _ hX))
    refine xx_copyPlaces_product_left hR (rb_Hm Hp (by omega)) y (fun l1 Hl1 => nm_r (nI_1 k) ?_)
    refine xl_power hR hR2 hX ha hA hn Hr h0 h1 d (k + 1) l1 p1 (by omega) (fun j hj => ?_) Hl1
    by_cases e9 : j = k + 1
    · rw [e9]
      exact y
    · exact z j (by omega)
theorem xx_power {post : Int32 → SX → Prop} {c l r q s p : Nat → Int32} {R a n : Nat} {V : Nat → Nat} (hR : 2 ≤ R) (hR2 : R ≤ 36) (hB : rb_B R V) (hX : rb_X R V c) (ha : a < 4) (hn : n ≤ 100)
    (h0 : (∀ j, j ≤ n → V a ^ j < R ^ 24) → rb_PX R (rb_up V a (V a ^ n)) (post 0)) (h1 : (∃ j, j ≤ n ∧ R ^ 24 ≤ V a ^ j) → rb_PX R V (post (-3))) : wpX_power post (nI R, c, l, r, q, s, p) (nI a) (nI n) := by
  unfold wpX_power
  dsimp only
  refine xx_reg ha (br_f (by decide) (br_f (nI_pos (by omega)) (br_t (nI_le (b := 100) hn (by decide)) ?_)))
  refine xx_load_right ha hR (hX a ha) (hB a ha) (fun r1 Hr => ?_)
  refine xx_clear_left (R := R) (fun l1 H1 => nm_e ⟨n + 1, ?_⟩)
  have HL : rb_H R (upd l1 0 1) 0 25 (V a ^ 0) := by
    rw [Nat.pow_zero]
    refine rb_H0i (fun k hk => ?_)
    by_cases e : k = 0
    · rw [e, pk_us, rb_d0, Nat.mod_eq_of_lt (by omega : 1 < R)]
      rfl
    · rw [pk_un e, rb_H0 H1 hk, rb_z, rb_hi (n := 1) hR (by rw [Nat.pow_one]; omega) (by omega)]
  refine xl_power hR hR2 hX ha (hB a ha) hn Hr h0 h1 n 0 (upd l1 0 1) p (by omega) (fun j hj => ?_) HL
  have e : j = 0 := by omega
  rw [e, Nat.pow_zero]
  exact Nat.one_lt_pow (by decide) (by omega)
end
section
theorem xl_digitIn {post : Int32 → SX → Prop} {c r q s p : Nat → Int32} {R v o i : Nat} {V : Nat → Nat} (hR : 2 ≤ R) (hR2 : R ≤ 36) (hX : rb_X R V c) (hv : v < R ^ 24) (ho : 2 ≤ o) (ho2 : o ≤ 36) (hi : i < 128)
    (h : rb_PX R V (post (nI (v / o ^ i % o)))) : ∀ d k (y : Int32) l, k + d = i + 1 → rb_H R l 0 25 (v / o ^ k) → (k = i + 1 → y = nI (v / o ^ i % o)) → wX_digitIn_48 post (nI o) (nI i) (d + 1) y (nI k) (nI R) c l r q s p
  | 0, k, y, l, e, H, hy => br_t (nI_lt (by omega) (by omega)) (by
      rw [hy (by omega)]
      exact h _ _ _ _ _ _ hX)
  | d + 1, k, y, l, e, H, hy => br_f (nI_nlt (by omega) (by omega)) (xx_takeLastDigit_left hR hR2 (by omega) ho2 H (Nat.lt_of_le_of_lt (Nat.div_le_self _ _) hv) (fun l1 H1 => nm_r (nI_1 k) (by
      rw [← rb_dv] at H1
      exact xl_digitIn hR hR2 hX hv ho ho2 hi h d (k + 1) _ l1 (by omega) H1 (fun z => by
        have e2 : k = i := by omega
        rw [e2]))))
theorem xx_digitIn {post : Int32 → SX → Prop} {c l r q s p : Nat → Int32} {R a o i : Nat} {V : Nat → Nat} (hR : 2 ≤ R) (hR2 : R ≤ 36) (hB : rb_B R V) (hX : rb_X R V c) (ha : a < 4) (ho : 2 ≤ o) (ho2 : o ≤ 36) (hi : i < 128)
    (h : rb_PX R V (post (nI (V a / o ^ i % o)))) : wpX_digitIn post (nI R, c, l, r, q, s, p) (nI a) (nI o) (nI i) := by
  unfold wpX_digitIn
  dsimp only
  refine xx_reg ha (br_f (by decide) (xx_radix ho ho2 (br_f (by decide) (br_f (nI_pos (by omega)) (br_t (nI_lt (b := 128) hi (by decide)) ?_)))))
  refine xx_load_left ha hR (hX a ha) (hB a ha) (fun l1 Hl => ?_)
  exact ⟨i + 2, xl_digitIn hR hR2 hX (hB a ha) ho ho2 hi h (i + 1) 0 0 l1 (by omega) (by rw [Nat.pow_zero, Nat.div_one]; exact Hl) (fun z => absurd z (by omega))⟩
theorem xl_lengthIn {post : Int32 → SX → Prop} {c r q s p : Nat → Int32} {R v o : Nat} {V : Nat → Nat} (hR : 2 ≤ R) (hR2 : R ≤ 36) (hX : rb_X R V c) (hv : v < R ^ 24) (ho : 2 ≤ o) (ho2 : o ≤ 36)
    (h : ∀ n, n ≤ 128 → (∀ j, j < n → v / o ^ j ≠ 0) → (n = 128 ∨ v / o ^ n = 0) → rb_PX R V (post (nI n))) : ∀ d k l, k + d = 128 → rb_H R l 0 25 (v / o ^ k) → (∀ j, j < k → v / o ^ j ≠ 0) → wX_lengthIn_30 post (nI o) (d + 1) (nI k) (nI R) c l r q s p
  | 0, k, l, e, H, hj => br_t (nI_le (a := 128) (by omega) (by omega)) (h k (by omega) hj (Or.inl (by omega)) _ _ _ _ _ _ hX)
  | d + 1, k, l, e, H, hj => by
    have b1 : v / o ^ k < R ^ 24 := Nat.lt_of_le_of_lt (Nat.div_le_self _ _) hv
    refine br_f (nI_ge (b := 128) (by omega) (by decide)) (xx_isZero_left hR hR2 H (rb_w25 hR b1) (fun z => br_t rfl ?_) (fun z => br_f (by decide) (h k (by omega) hj (Or.inr z) _ _ _ _ _ _ hX)))
    refine xx_takeLastDigit_left hR hR2 (by omega) ho2 H b1 (fun l1 H1 => nm_r (nI_1 k) ?_)
    rw [← rb_dv] at H1
    refine xl_lengthIn hR hR2 hX hv ho ho2 h d (k + 1) l1 (by omega) H1 (fun j hj2 => ?_)
    by_cases e9 : j = k
    · rw [e9]
      exact z
    · exact hj j (by omega)
theorem xx_lengthIn {post : Int32 → SX → Prop} {c l r q s p : Nat → Int32} {R a o : Nat} {V : Nat → Nat} (hR : 2 ≤ R) (hR2 : R ≤ 36) (hB : rb_B R V) (hX : rb_X R V c) (ha : a < 4) (ho : 2 ≤ o) (ho2 : o ≤ 36)
    (h : ∀ n, n ≤ 128 → (∀ j, j < n → V a / o ^ j ≠ 0) → (n = 128 ∨ V a / o ^ n = 0) → rb_PX R V (post (nI n))) : wpX_lengthIn post (nI R, c, l, r, q, s, p) (nI a) (nI o) := by
  unfold wpX_lengthIn
  dsimp only
  refine xx_reg ha (br_f (by decide) (xx_radix ho ho2 (br_f (by decide) ?_)))
  refine xx_load_left ha hR (hX a ha) (hB a ha) (fun l1 Hl => ?_)
  exact ⟨129, xl_lengthIn hR hR2 hX (hB a ha) ho ho2 h 128 0 l1 (by omega) (by rw [Nat.pow_zero, Nat.div_one]; exact Hl) (fun j z => absurd z (by omega))⟩
theorem xl_remainder {post : Int32 → Prop} {c l r q s p : Nat → Int32} {R v a m : Nat} (hR : 2 ≤ R) (hR2 : R ≤ 36) (ha : a < 4) (H : rb_H R c (24 * a) 24 v) (hm : 0 < m) (hm2 : m ≤ 1000000)
    (h : post (nI (v % m))) : ∀ e, e ≤ 24 → wX_remainder_29 post (nI a) (nI m) (nI R) c l r q s p (e + 1) (nI (v / R ^ e % m)) (nI e + (-1))
  | 0, _ => br_t (by rw [nI_0]; decide) (by rw [Nat.pow_zero, Nat.div_one]; exact h)
  | e + 1, l9 => by
    rw [pk_m1]
    have b1 := rb_lt hR v e
    have b2 := Nat.mod_lt (v / R ^ (e + 1)) hm
    have b3 := rb_ldb hR hm v e
    have b4 : m * R ≤ 1000000 * 36 := Nat.mul_le_mul hm2 hR2
    have ih := xl_remainder (l := l) (r := r) (q := q) (s := s) (p := p) hR hR2 ha H hm hm2 h e (by omega)
    rw [← rb_ldr hm] at ih
    have r1 : c (nI a * 24 + nI e).toNatClampNeg = nI (rb_dg R v e) := rb_rH H (by omega) (rb_x24 a e) (by omega)
    exact br_f (nI_pos (by omega)) ⟨pk_in (24 * a + e) 96 (by omega) (rb_x24 a e), nI_ne0 hm (by omega), nm_r (e' := nI ((v / R ^ (e + 1) % m * R + rb_dg R v e) % m)) (by rw [r1, pk_mul, nI_add, pk_rem (by omega) hm (by omega)]) (nm_e ih)⟩
theorem xx_remainder {post : Int32 → Prop} {c l r q s p : Nat → Int32} {R a m : Nat} {V : Nat → Nat} (hR : 2 ≤ R) (hR2 : R ≤ 36) (hB : rb_B R V) (hX : rb_X R V c) (ha : a < 4) (hm : 0 < m) (hm2 : m ≤ 1000000)
    (h : post (nI (V a % m))) : wpX_remainder post (nI R, c, l, r, q, s, p) (nI a) (nI m) := by
  unfold wpX_remainder
  dsimp only
  have w := xl_remainder (l := l) (r := r) (q := q) (s := s) (p := p) hR hR2 ha (hX a ha) hm hm2 h 24 (by omega)
  rw [Nat.div_eq_of_lt (hB a ha), Nat.zero_mod] at w
  exact xx_reg ha (br_f (by decide) (br_f (nI_nlt (b := 1) hm (by omega)) (br_t (nI_le (b := 1000000) hm2 (by decide)) ⟨25, w⟩)))
theorem xl_length {post : Int32 → Prop} {c l r q s p : Nat → Int32} {R v a : Nat} (hR : 2 ≤ R) (hR2 : R ≤ 36) (ha : a < 4) (H : rb_H R c (24 * a) 24 v)
    (h : ∀ n, n ≤ 24 → (∀ i, n ≤ i → i < 24 → rb_dg R v i = 0) → (0 < n → rb_dg R v (n - 1) ≠ 0) → post (nI n)) : ∀ e, e ≤ 24 → (∀ i, e ≤ i → i < 24 → rb_dg R v i = 0) → wX_length_12 post (nI a) (nI R) c l r q s p (e + 1) (nI e)
  | 0, _, z => br_t (by rw [nI_0]; decide) (h 0 (by omega) z (fun y => absurd y (by omega)))
  | e + 1, l9, z => by
    have x1 : nI a * 24 + nI (e + 1) - 1 = nI (24 * a + e) := by
      rw [rb_x24, ← Nat.add_assoc, nI_pred]
    have b1 := rb_dgb hR hR2 v e
    refine br_f (nI_nle (by omega) (by omega)) ⟨pk_in (24 * a + e) 96 (by omega) x1, pk_eq (rb_dg R v e) 0 (fun k => nm_r (pk_m1 e) (xl_length hR hR2 ha H h e (by omega) (fun i i1 i2 => ?_))) (fun k => h (e + 1) l9 z (fun _ => k)) (rb_rH H (by omega) x1 (by omega))⟩
    by_cases e9 : i = e
    · rw [e9]
      exact k
    · exact z i (by omega) i2
theorem xx_length {post : Int32 → Prop} {c l r q s p : Nat → Int32} {R a : Nat} {V : Nat → Nat} (hR : 2 ≤ R) (hR2 : R ≤ 36) (hX : rb_X R V c) (ha : a < 4)
    (h : ∀ n, n ≤ 24 → (∀ i, n ≤ i → i < 24 → rb_dg R (V a) i = 0) → (0 < n → rb_dg R (V a) (n - 1) ≠ 0) → post (nI n)) : wpX_length post (nI R, c, l, r, q, s, p) (nI a) := by
  unfold wpX_length
  dsimp only
  exact xx_reg ha (br_f (by decide) ⟨25, xl_length hR hR2 ha (hX a ha) h 24 (Nat.le_refl 24) (fun i i1 i2 => absurd i2 (by omega))⟩)
theorem xx_digitAt {post : Int32 → Prop} {c l r q s p : Nat → Int32} {R a i : Nat} {V : Nat → Nat} (hX : rb_X R V c) (ha : a < 4) (hi : i < 24)
    (h : post (nI (rb_dg R (V a) i))) : wpX_digit post (nI R, c, l, r, q, s, p) (nI a) (nI i) := by
  unfold wpX_digit
  dsimp only
  refine xx_reg ha (br_f (by decide) (xx_place hi (br_f (by decide) ⟨pk_in (24 * a + i) 96 (by omega) (rb_x24 a i), ?_⟩)))
  rw [rb_rH (hX a ha) hi (rb_x24 a i) (by omega)]
  exact h
/-- one digit is written anew -/
theorem rb_set {R v i d : Nat} (hR : 2 ≤ R) (hv : v < R ^ 24) (hi : i < 24) (hd : d < R) : ∃ n, n < R ^ 24 ∧ ∀ k, rb_dg R n k = if k = i then d else rb_dg R v k := by
  obtain ⟨n, h1, h2⟩ := rb_mk hR (fun k => if k = i then d else rb_dg R v k) 24 (fun k _ => by
    show (if k = i then d else rb_dg R v k) < R
    by_cases e : k = i
    · rw [if_pos e]
      exact hd
    · rw [if_neg e]
      exact rb_lt hR v k)
  refine ⟨n, h1, fun k => ?_⟩
  by_cases c : k < 24
  · exact h2 k c
  · rw [if_neg (by omega), rb_hi hR h1 (by omega), rb_hi hR hv (by omega)]
theorem rb_setH {R v n i d o m : Nat} {a : Nat → Int32} (H : rb_H R a o m v) (h : ∀ k, rb_dg R n k = if k = i then d else rb_dg R v k) : rb_H R (upd a (o + i) (nI d)) o m n := by
  intro k hk
  rw [h k]
  by_cases e : k = i
  · rw [e, pk_us, if_pos rfl]
  · rw [pk_un (by omega), if_neg e, H k hk]
theorem xx_set {post : Int32 → SX → Prop} {c l r q s p : Nat → Int32} {R a i d n : Nat} {V : Nat → Nat} (hR2 : R ≤ 36) (hX : rb_X R V c) (ha : a < 4) (hi : i < 24) (hd : d < R) (hn : ∀ k, rb_dg R n k = if k = i then d else rb_dg R (V a) k)
    (h : rb_PX R (rb_up V a n) (post (nI (rb_dg R (V a) i)))) : wpX_set post (nI R, c, l, r, q, s, p) (nI a) (nI i) (nI d) := by
  unfold wpX_set
  dsimp only
  refine xx_reg ha (br_f (by decide) (xx_place hi (br_f (by decide) (xx_digit hR2 hd (br_f (by decide) ?_)))))
  refine nm_r (rb_x24 a i) ⟨pk_in (24 * a + i) 96 (by omega), nm_r (rb_rH (hX a ha) hi rfl (by omega)) ⟨pk_in (24 * a + i) 96 (by omega), nm_r (e' := upd c (24 * a + i) (nI d)) (by rw [nI_clamp (by omega)]) ?_⟩⟩
  exact h _ _ _ _ _ _ (rb_Xs hX (rb_setH (hX a ha) hn) (fun j hj => if_neg (by omega)))
end
section
theorem yy_ok {post : Int32 → Prop} {F : Int32} {y : Nat → Int32} {a : Nat} (ha : a < 4) (h : post 0) : wpY_bad post (F, y) (nI a) :=
  br_f (nI_pos (by omega)) (br_t (nI_le (b := 3) (by omega) (by decide)) h)
theorem yy_bad {post : Int32 → Prop} {F : Int32} {y : Nat → Int32} {x : Int32} (hx : rb_bad x) (h : post 1) : wpY_bad post (F, y) x := by
  by_cases z : x < 0
  · exact br_t z h
  · obtain ⟨j, hj, rfl⟩ := nI_of z
    rcases hx with w | w
    · exact absurd w z
    · have w2 := (nI_leI (by decide) hj).mp w
      exact br_f z (br_f (nI_ge (a := 3) (by omega) hj) h)
theorem yy_add {post : Int32 → SY → Prop} {y : Nat → Int32} {R a b : Nat} {V : Nat → Nat} (hR : 2 ≤ R) (hR2 : R ≤ 36) (hB : rb_B R V) (hY : rb_Y R V y) (ha : a < 4) (hb : b < 4)
    (h0 : V a + V b < R ^ 24 → rb_PY R (rb_up V a (V a + V b)) (post 0)) (h1 : R ^ 24 ≤ V a + V b → rb_PY R V (post (-2))) : wpY_add post (nI R, y) (nI a) (nI b) := by
  unfold wpY_add
  dsimp only
  refine yy_ok ha (br_t rfl (yy_ok hb (br_t rfl ?_)))
  refine yy_copyRow (f := a) (t := 4) (by omega) (by omega) (hY a ha) (fun y1 H1 K1 => ?_)
  refine yy_addRow (r := 4) (s := b) (by omega) (by omega) (by omega) hR hR2 H1 (rb_KH K1 (by omega) (by omega) (hY b hb)) (fun y2 H2 K2 => ?_)
  have hY2 := rb_Yw (rb_Yw hY (by omega) K1) (by omega) K2
  have b1 : V a + V b < R ^ 50 := Nat.lt_of_lt_of_le (rb_sum25 hR (hB a ha) (hB b hb)) (rb_pm hR (by omega))
  refine yy_tooLong (r := 4) (by omega) hR hR2 H2 b1 (fun z => br_t rfl ?_) (fun z => br_f (by decide) (h1 z _ hY2))
  exact yy_copyRow (f := 4) (t := a) (by omega) (by omega) H2 (fun y3 H3 K3 => h0 z _ (rb_Ys hY2 H3 K3))
theorem yy_subtract {post : Int32 → SY → Prop} {y : Nat → Int32} {R a b : Nat} {V : Nat → Nat} (hR : 2 ≤ R) (hR2 : R ≤ 36) (hB : rb_B R V) (hY : rb_Y R V y) (ha : a < 4) (hb : b < 4)
    (h0 : V b ≤ V a → rb_PY R (rb_up V a (V a - V b)) (post 0)) (h1 : V a < V b → rb_PY R V (post (-2))) : wpY_subtract post (nI R, y) (nI a) (nI b) := by
  unfold wpY_subtract
  dsimp only
  refine yy_ok ha (br_t rfl (yy_ok hb (br_t rfl ?_)))
  refine yy_order (by omega) (by omega) hR hR2 (hY a ha) (hY b hb) (rb_w50 hR (hB a ha)) (rb_w50 hR (hB b hb)) (fun z => br_t (by decide) ?_) (fun z => br_t (by decide) ?_) (fun z => br_f (by decide) (h1 z _ hY))
  all_goals
    have z2 : V b ≤ V a := by omega
    refine yy_copyRow (f := b) (t := 4) (by omega) (by omega) (hY b hb) (fun y1 H1 K1 => ?_)
    exact yy_takeRow (r := a) (s := 4) (by omega) (by omega) (by omega) hR hR2 (rb_KH K1 (by omega) (by omega) (hY a ha)) H1 z2 (fun y2 H2 K2 => h0 z2 _ (rb_Ys (rb_Yw hY (by omega) K1) H2 K2))
theorem yy_multiply {post : Int32 → SY → Prop} {y : Nat → Int32} {R a b : Nat} {V : Nat → Nat} (hR : 2 ≤ R) (hR2 : R ≤ 36) (hB : rb_B R V) (hY : rb_Y R V y) (ha : a < 4) (hb : b < 4)
    (h0 : V a * V b < R ^ 24 → rb_PY R (rb_up V a (V a * V b)) (post 0)) (h1 : R ^ 24 ≤ V a * V b → rb_PY R V (post (-2))) : wpY_multiply post (nI R, y) (nI a) (nI b) := by
  unfold wpY_multiply
  dsimp only
  refine yy_ok ha (br_t rfl (yy_ok hb (br_t rfl ?_)))
  refine yy_multiplyRow (t := 4) (by omega) (by omega) (by omega) (by omega) (by omega) hR hR2 (hB a ha) (hB b hb) (rb_Hm (hY a ha) (by omega)) (rb_Hm (hY b hb) (by omega)) (fun y1 H1 K1 => ?_)
  have hY1 := rb_Yw hY (by omega) K1
  have b1 : V a * V b < R ^ 50 := Nat.lt_of_lt_of_le (rb_mlt (hB a ha) (hB b hb)) (rb_pm hR (by omega))
  refine yy_tooLong (r := 4) (by omega) hR hR2 H1 b1 (fun z => br_t rfl ?_) (fun z => br_f (by decide) (h1 z _ hY1))
  exact yy_copyRow (f := 4) (t := a) (by omega) (by omega) H1 (fun y3 H3 K3 => h0 z _ (rb_Ys hY1 H3 K3))
theorem yl_low {post : Int32 → SY → Prop} {y : Nat → Int32} {R a v : Nat} {V : Nat → Nat} {z : Int32} (hR : 2 ≤ R) (hY : rb_Y R V y) (ha : a < 4) (H : rb_H R y (50 * 4) 50 v)
    (h : rb_PY R (rb_up V a (v % R ^ 24)) (post z)) : ∀ d i, i + d = 50 → 24 ≤ i → wY_multiplyLow_43 post (nI a) z (nI R) (d + 1) (nI i) (rb_ov y (50 * 4) 24 i (fun _ => 0))
  | 0, i, e, _ => br_t (nI_le (a := 50) (by omega) (by omega)) (by
      have e2 : i = 50 := by omega
      subst e2
      have H2 : rb_H R (rb_ov y (50 * 4) 24 50 (fun _ => 0)) (50 * 4) 50 (v % R ^ 24) := by
        refine rb_HX (n := 24) hR (fun i hi => ?_) (Nat.mod_lt _ (rb_pp hR 24)) (fun i i1 i2 => rb_ovI i1 i2)
        rw [rb_ovH H (by omega) (by omega), rb_dgM hR v hi]
      exact yy_copyRow (f := 4) (t := a) (by omega) (by omega) H2 (fun y3 H3 K3 => h _ (rb_Ys (rb_Yw hY (by omega) (rb_ovK (by omega))) H3 K3)))
  | d + 1, i, e, l => by
    have x1 : (200 : Int32) + nI i = nI (50 * 4 + i) := by rw [show (200 : Int32) = nI 200 from rfl, nI_add]
    exact br_f (nI_ge (b := 50) (by omega) (by decide)) ⟨pk_in (50 * 4 + i) 500 (by omega) x1, nm_r (rb_wu x1 (by omega) rfl l) (nm_r (nI_1 i) (yl_low hR hY ha H h d (i + 1) (by omega) (by omega)))⟩
theorem yy_multiplyLow {post : Int32 → SY → Prop} {y : Nat → Int32} {R a b : Nat} {V : Nat → Nat} (hR : 2 ≤ R) (hR2 : R ≤ 36) (hB : rb_B R V) (hY : rb_Y R V y) (ha : a < 4) (hb : b < 4)
    (h0 : V a * V b < R ^ 24 → rb_PY R (rb_up V a (V a * V b % R ^ 24)) (post 0)) (h1 : R ^ 24 ≤ V a * V b → rb_PY R (rb_up V a (V a * V b % R ^ 24)) (post 1)) : wpY_multiplyLow post (nI R, y) (nI a) (nI b) := by
  unfold wpY_multiplyLow
  dsimp only
  refine yy_ok ha (br_t rfl (yy_ok hb (br_t rfl ?_)))
  refine yy_multiplyRow (t := 4) (by omega) (by omega) (by omega) (by omega) (by omega) hR hR2 (hB a ha) (hB b hb) (rb_Hm (hY a ha) (by omega)) (rb_Hm (hY b hb) (by omega)) (fun y1 H1 K1 => ?_)
  have hY1 := rb_Yw hY (by omega) K1
  have b1 : V a * V b < R ^ 50 := Nat.lt_of_lt_of_le (rb_mlt (hB a ha) (hB b hb)) (rb_pm hR (by omega))
  refine yy_tooLong (r := 4) (by omega) hR hR2 H1 b1 (fun z => br_t rfl ⟨27, ?_⟩) (fun z => br_f (by decide) ⟨27, ?_⟩)
  · have w := yl_low hR hY1 ha H1 (h0 z) 26 24 (by omega) (by omega)
    rw [rb_ovE] at w
    exact w
  · have w := yl_low hR hY1 ha H1 (h1 z) 26 24 (by omega) (by omega)
    rw [rb_ovE] at w
    exact w
theorem yy_compare {post : Int32 → Prop} {y : Nat → Int32} {R a b : Nat} {V : Nat → Nat} (hR : 2 ≤ R) (hR2 : R ≤ 36) (hB : rb_B R V) (hY : rb_Y R V y) (ha : a < 4) (hb : b < 4)
    (h0 : V a = V b → post 0) (h1 : V b < V a → post 1) (h2 : V a < V b → post 2) : wpY_compare post (nI R, y) (nI a) (nI b) := by
  unfold wpY_compare
  dsimp only
  refine yy_ok ha (br_t rfl (yy_ok hb (br_t rfl ?_)))
  exact yy_order (by omega) (by omega) hR hR2 (hY a ha) (hY b hb) (rb_w50 hR (hB a ha)) (rb_w50 hR (hB b hb)) (fun z => br_t (by decide) (h0 z)) (fun z => br_t (by decide) (h1 z)) (fun z => br_f (by decide) (h2 z))
theorem yy_copy {post : Int32 → SY → Prop} {y : Nat → Int32} {R a b : Nat} {V : Nat → Nat} (hY : rb_Y R V y) (ha : a < 4) (hb : b < 4)
    (h0 : rb_PY R (rb_up V a (V b)) (post 0)) : wpY_copy post (nI R, y) (nI a) (nI b) := by
  unfold wpY_copy
  dsimp only
  refine yy_ok ha (br_t rfl (yy_ok hb (br_t rfl ?_)))
  exact yy_copyRow (f := b) (t := a) (by omega) (by omega) (hY b hb) (fun y3 H3 K3 => h0 _ (rb_Ys hY H3 K3))
theorem yy_feed {post : Int32 → SY → Prop} {y : Nat → Int32} {R a d : Nat} {V : Nat → Nat} (hR : 2 ≤ R) (hR2 : R ≤ 36) (hB : rb_B R V) (hY : rb_Y R V y) (ha : a < 4) (hd : d < R)
    (h0 : rb_PY R (rb_up V a ((V a * R + d) % R ^ 24)) (post (nI (rb_dg R (V a) 23)))) : wpY_feed post (nI R, y) (nI a) (nI d) := by
  unfold wpY_feed
  dsimp only
  have x1 : (50 : Int32) * nI a + 23 = nI (50 * a + 23) := rb_x50 a 23
  have x2 : (50 : Int32) * nI a + 24 = nI (50 * a + 24) := rb_x50 a 24
  refine yy_ok ha (br_t rfl (br_f (nI_pos (by omega)) (br_t (nI_lt hd (by omega)) ⟨pk_in (50 * a + 23) 500 (by omega) x1, nm_r (rb_rH (hY a ha) (by omega) x1 (by omega)) ?_⟩)))
  refine yy_feedRow (by omega) hR hd (hY a ha) (fun y1 H1 K1 => ⟨pk_in (50 * a + 24) 500 (by omega) x2, nm_r (e' := upd y1 (50 * a + 24) 0) (by rw [x2, nI_clamp (by omega)]) (h0 _ (rb_Ys hY ?_ (rb_Kt K1 (rb_Ku (by omega)))))⟩)
  have b1 : V a * R + d < R ^ 25 := rb_pb hR (hB a ha) hd
  intro k hk
  by_cases e : k = 24
  · rw [e, pk_us, rb_hi hR (Nat.mod_lt _ (rb_pp hR 24)) (Nat.le_refl 24)]
    rfl
  · rw [pk_un (by omega), H1 k hk]
    by_cases c : k < 24
    · rw [rb_dgM hR _ c]
    · rw [rb_hi hR b1 (by omega), rb_hi hR (Nat.mod_lt _ (rb_pp hR 24)) (by omega)]
end
section
/-! divideRow: all but rows t and 9 is as it was -/
def rb_K2 (t : Nat) (a b : Nat → Int32) : Prop := ∀ j, (j < 50 * t ∨ 50 * t + 50 ≤ j) → (j < 450 ∨ 500 ≤ j) → b j = a j
theorem rb_K2q {t : Nat} {a b c : Nat → Int32} (h : rb_K2 t a b) (k : rb_K t b c) : rb_K2 t a c := fun j h1 h2 => by rw [k j h1, h j h1 h2]
theorem rb_K29 {t : Nat} {a b c : Nat → Int32} (h : rb_K2 t a b) (k : rb_K 9 b c) : rb_K2 t a c := fun j h1 h2 => by rw [k j (by omega), h j h1 h2]
theorem rb_K2H {R t r n v : Nat} {a b : Nat → Int32} (k : rb_K2 t a b) (h : r ≠ t) (h9 : r < 9) (hn : n ≤ 50) (H : rb_H R a (50 * r) n v) : rb_H R b (50 * r) n v := by
  intro i hi
  rw [k (50 * r + i) (by omega) (by omega), H i hi]
theorem rb_QK {R t r e v : Nat} {a b : Nat → Int32} (k : rb_K t a b) (h : r ≠ t) (H : rb_Q R a (50 * r) 50 e v) : rb_Q R b (50 * r) 50 e v := by
  intro i hi
  rw [k (50 * r + i) (by omega), H i hi]
theorem yl_divIn {post : SY → Prop} {J : Int32 → Int32 → (Nat → Int32) → Prop} {R x w b i : Nat} {z1 z2 : Int32} {y0 : Nat → Int32} (hR : 2 ≤ R) (hR2 : R ≤ 36) (hb : b < 9) (Hw : rb_H R y0 (50 * b) 50 w) (hw0 : 0 < w) (hw : w < R ^ 24) (hx : x < w * R)
    (h : ∀ y', rb_H R y' (50 * 9) 50 (x % w) → rb_K 9 y0 y' → wY_divideRow_73 post J z1 z2 (nI b) (nI i) (nI (x / w)) (nI R) y') :
    ∀ d m y, m + d = x / w → rb_H R y (50 * 9) 50 (x - m * w) → rb_K 9 y0 y → wY_divideRow_43 post J z1 z2 (nI b) (nI i) (d + 1) (nI m) (nI R) y
  | 0, m, y, e, H, K => by
    have e2 : m = x / w := by omega
    subst e2
    have b1 := rb_qb hw0 hx
    rw [rb_tl hw0] at H
    have b2 : x % w < w := Nat.mod_lt x hw0
    have b3 := rb_w50 hR hw
    refine br_f (nI_ge (b := 36) (by omega) (by decide)) (yy_order (r := 9) (by omega) (by omega) hR hR2 H (rb_KH K (by omega) (by omega) Hw) (Nat.lt_trans b2 b3) b3 (fun z => absurd z (by omega)) (fun z => absurd z (by omega)) (fun _ => ?_))
    exact br_t (by decide) (h y H K)
  | d + 1, m, y, e, H, K => by
    have b1 := rb_qb hw0 hx
    have b3 := rb_w50 hR hw
    have b4 : x < R ^ 50 := Nat.lt_of_lt_of_le (rb_xb hw hx) (rb_pm hR (by omega))
    obtain ⟨t1, t2⟩ := rb_to (x := x) (m := m) hw0 (by omega)
    have Hb := rb_KH K (by omega : b ≠ 9) (by omega) Hw
    refine br_f (nI_ge (b := 36) (by omega) (by decide)) (yy_order (r := 9) (by omega) (by omega) hR hR2 H Hb (by omega) b3 (fun z => ?_) (fun z => ?_) (fun z => absurd z (by omega)))
    all_goals
      refine br_f (by decide) (yy_takeRow (r := 9) (by omega) (by omega) (by omega) hR hR2 H Hb t1 (fun y' H' K' => nm_r (nI_1 m) ?_))
      rw [t2] at H'
      exact yl_divIn hR hR2 hb Hw hw0 hw hx h d (m + 1) y' (by omega) H' (rb_Kt K K')
theorem yl_div {post : SY → Prop} {y0 : Nat → Int32} {R q a b v w : Nat} (hR : 2 ≤ R) (hR2 : R ≤ 36) (hq : q < 9) (ha : a < 9) (hb : b < 9) (n1 : a ≠ q) (n2 : b ≠ q) (n3 : a ≠ b)
    (Hv : rb_H R y0 (50 * a) 50 v) (Hw : rb_H R y0 (50 * b) 50 w) (hw0 : 0 < w) (hv : v < R ^ 24) (hw : w < R ^ 24)
    (h : ∀ y', rb_H R y' (50 * q) 50 (v / w) → rb_H R y' (50 * a) 50 (v % w) → (∀ r x, r < 9 → r ≠ q → r ≠ a → rb_H R y0 (50 * r) 50 x → rb_H R y' (50 * r) 50 x) → post (nI R, y')) :
    ∀ e y, e ≤ 24 → rb_Q R y (50 * q) 50 e (v / w) → rb_H R y (50 * 9) 50 (v / R ^ e % w) → rb_K2 q y0 y → wY_divideRow_17 post (nI q) (nI a) (nI b) (e + 1) (nI e + (-1)) (nI R) y
  | 0, y, _, hQ, H, K => br_t (by rw [nI_0]; decide) (by
      rw [Nat.pow_zero, Nat.div_one] at H
      refine yy_copyRow (f := 9) (t := a) (by omega) (by omega) H (fun y1 H1 K1 => h y1 (rb_KH K1 (Ne.symm n1) (by omega) (rb_Q0 hQ)) H1 (fun r x r9 r1 r2 Hx => ?_))
      exact rb_KH K1 r2 (by omega) (rb_K2H K r1 r9 (by omega) Hx))
  | e + 1, y, l9, hQ, H, K => by
    rw [pk_m1]
    have r1 : y (50 * nI a + nI e).toNatClampNeg = nI (rb_dg R v e) := rb_rH (rb_K2H K n1 ha (by omega) Hv) (by omega) (rb_x50 a e) (by omega)
    refine br_f (nI_pos (by omega)) ⟨pk_in (50 * a + e) 500 (by omega) (rb_x50 a e), ?_⟩
    rw [r1]
    refine yy_feedRow (r := 9) (by omega) hR (rb_lt hR v e) H (fun y1 H1 K1 => ?_)
    have K1' := rb_K29 K K1
    have xb := rb_ldb hR hw0 v e
    refine ⟨_, yl_divIn hR hR2 hb (rb_K2H K1' n2 hb (by omega) Hw) hw0 hw xb (fun y2 H2 K2 => ?_) ((v / R ^ (e + 1) % w * R + rb_dg R v e) / w) 0 y1 (by omega) (by rw [Nat.zero_mul, Nat.sub_zero]; exact H1) (rb_Kr _ _)⟩
    rw [rb_ldr hw0] at H2
    have K2' := rb_K29 K1' K2
    have hQ2 := rb_QK K2 (by omega) (rb_QK K1 (by omega : q ≠ 9) hQ)
    refine ⟨pk_in (50 * q + e) 500 (by omega) (rb_x50 q e), nm_r (e' := upd y2 (50 * q + e) (nI (rb_dg R (v / w) e))) (by rw [rb_x50, nI_clamp (by omega), rb_ldq hR hw0]) (nm_e ?_)⟩
    have K3 : rb_K q y2 (upd y2 (50 * q + e) (nI (rb_dg R (v / w) e))) := rb_Ku (by omega)
    exact yl_div hR hR2 hq ha hb n1 n2 n3 Hv Hw hw0 hv hw h e _ (by omega) (rb_Qs hQ2 (by omega)) (rb_KH K3 (by omega) (by omega) H2) (rb_K2q K2' K3)
theorem yy_div {post : SY → Prop} {y : Nat → Int32} {R q a b v w : Nat} (hR : 2 ≤ R) (hR2 : R ≤ 36) (hq : q < 9) (ha : a < 9) (hb : b < 9) (n1 : a ≠ q) (n2 : b ≠ q) (n3 : a ≠ b)
    (Hv : rb_H R y (50 * a) 50 v) (Hw : rb_H R y (50 * b) 50 w) (hw0 : 0 < w) (hv : v < R ^ 24) (hw : w < R ^ 24)
    (h : ∀ y', rb_H R y' (50 * q) 50 (v / w) → rb_H R y' (50 * a) 50 (v % w) → (∀ r x, r < 9 → r ≠ q → r ≠ a → rb_H R y (50 * r) 50 x → rb_H R y' (50 * r) 50 x) → post (nI R, y')) : wpY_divideRow post (nI R, y) (nI q) (nI a) (nI b) := by
  unfold wpY_divideRow
  dsimp only
  refine yy_setRow (R := R) (t := q) (d := 0) (by omega) hR (by omega) (fun y1 H1 K1 => ?_)
  refine yy_setRow (R := R) (t := 9) (d := 0) (by omega) hR (by omega) (fun y2 H2 K2 => ⟨25, ?_⟩)
  refine yl_div hR hR2 hq ha hb n1 n2 n3 Hv Hw hw0 hv hw h 24 y2 (by omega) ?_ ?_ (rb_K29 (rb_K2q (fun j _ _ => rfl) K1) K2)
  · intro k hk
    rw [rb_KH K2 (by omega : q ≠ 9) (by omega) H1 k hk, rb_z]
    by_cases c : k < 24
    · rw [if_pos c]
    · rw [if_neg c, rb_hi hR (Nat.lt_of_le_of_lt (Nat.div_le_self v w) hv) (by omega)]
  · rw [Nat.div_eq_of_lt hv, Nat.zero_mod]
    exact H2
theorem yy_divide {post : Int32 → SY → Prop} {y : Nat → Int32} {R d a b : Nat} {V : Nat → Nat} (hR : 2 ≤ R) (hR2 : R ≤ 36) (hB : rb_B R V) (hY : rb_Y R V y) (hd : d < 4) (ha : a < 4) (hb : b < 4) (n1 : d ≠ a) (n2 : d ≠ b) (n3 : a ≠ b)
    (h0 : V b ≠ 0 → rb_PY R (rb_up (rb_up V d (V a / V b)) a (V a % V b)) (post 0)) (h1 : V b = 0 → rb_PY R V (post (-3))) : wpY_divide post (nI R, y) (nI d) (nI a) (nI b) := by
  unfold wpY_divide
  dsimp only
  refine yy_ok hd (br_t rfl (yy_ok ha (br_t rfl (yy_ok hb (br_t rfl ?_)))))
  refine br_f (fun z => n1 ((nI_eq (by omega) (by omega)).mp z)) (br_f (fun z => n2 ((nI_eq (by omega) (by omega)).mp z)) (br_f (fun z => n3 ((nI_eq (by omega) (by omega)).mp z)) ?_))
  refine yy_zero (by omega) hR hR2 (hY b hb) (rb_w50 hR (hB b hb)) (fun z => br_t rfl ?_) (fun z => br_f (by decide) (h1 z _ hY))
  refine yy_div hR hR2 (by omega) (by omega) (by omega) (Ne.symm n1) (Ne.symm n2) n3 (hY a ha) (hY b hb) (Nat.pos_of_ne_zero z) (hB a ha) (hB b hb) (fun y1 H1 H2 K => h0 z _ (fun r hr => ?_))
  by_cases e : r = a
  · rw [e, rb_upS]
    exact H2
  · rw [rb_upN e]
    by_cases e2 : r = d
    · rw [e2, rb_upS]
      exact H1
    · rw [rb_upN e2]
      exact K r _ (by omega) e2 e (hY r hr)
/-! divisor -/
theorem yl_divisor {post : Int32 → SY → Prop} {R a G : Nat} {V : Nat → Nat} (hR : 2 ≤ R) (hR2 : R ≤ 36) (ha : a < 4)
    (h : rb_PY R (rb_up V a G) (post 0)) :
    ∀ d k u w y, k + d = 400 → u < R ^ 24 → w < R ^ 24 → Nat.gcd u w = G → (w = 0 ∨ rb_E k u w) → rb_H R y (50 * 5) 50 u → rb_H R y (50 * 6) 50 w → rb_Y R V y → wY_divisor_33 post (nI a) (d + 1) (nI k) (nI R) y
  | 0, k, u, w, y, e, hu, hw, hg, hE, Hu, Hw, hY => br_t (nI_le (a := 400) (by omega) (by omega)) (by
      have z : w = 0 := hE.elim id (fun z => rb_Ee z (by omega))
      rw [z, Nat.gcd_zero_right] at hg
      rw [hg] at Hu
      exact yy_copyRow (f := 5) (t := a) (by omega) (by omega) Hu (fun y1 H1 K1 => h _ (rb_Ys hY H1 K1)))
  | d + 1, k, u, w, y, e, hu, hw, hg, hE, Hu, Hw, hY => by
    refine br_f (nI_ge (b := 400) (by omega) (by decide)) (yy_zero (r := 6) (by omega) hR hR2 Hw (rb_w50 hR hw) (fun z => br_t rfl ?_) (fun z => br_f (by decide) (nm_r (nI_1 k) (yl_divisor hR hR2 ha h d (k + 1) u w y (by omega) hu hw hg (Or.inl z) Hu Hw hY))))
    have w0 := Nat.pos_of_ne_zero z
    have m := Nat.mod_lt u w0
    refine yy_div (q := 7) (a := 5) (b := 6) hR hR2 (by omega) (by omega) (by omega) (by omega) (by omega) (by omega) Hu Hw w0 hu hw (fun y1 H1 H2 K1 => ?_)
    refine yy_copyRow (f := 5) (t := 8) (by omega) (by omega) H2 (fun y2 H3 K2 => ?_)
    have Hw2 := rb_KH K2 (by omega : 6 ≠ 8) (by omega) (K1 6 w (by omega) (by omega) (by omega) Hw)
    refine yy_copyRow (f := 6) (t := 5) (by omega) (by omega) Hw2 (fun y3 H4 K3 => ?_)
    refine yy_copyRow (f := 8) (t := 6) (by omega) (by omega) (rb_KH K3 (by omega : 8 ≠ 5) (by omega) H3) (fun y4 H5 K4 => nm_r (nI_1 k) ?_)
    refine yl_divisor hR hR2 ha h d (k + 1) w (u % w) y4 (by omega) hw (Nat.lt_trans m hw) (by rw [rb_gc]; exact hg) (Or.inr (rb_Es w0 (hE.resolve_left z))) (rb_KH K4 (by omega : 5 ≠ 6) (by omega) H4) H5 ?_
    have hY1 : rb_Y R V y1 := fun r hr => K1 r _ (by omega) (by omega) (by omega) (hY r hr)
    exact rb_Yw (rb_Yw (rb_Yw hY1 (by omega) K2) (by omega) K3) (by omega) K4
theorem yy_divisor {post : Int32 → SY → Prop} {y : Nat → Int32} {R a b : Nat} {V : Nat → Nat} (hR : 2 ≤ R) (hR2 : R ≤ 36) (hB : rb_B R V) (hY : rb_Y R V y) (ha : a < 4) (hb : b < 4)
    (h : rb_PY R (rb_up V a (Nat.gcd (V a) (V b))) (post 0)) : wpY_divisor post (nI R, y) (nI a) (nI b) := by
  unfold wpY_divisor
  dsimp only
  refine yy_ok ha (br_t rfl (yy_ok hb (br_t rfl ?_)))
  refine yy_copyRow (f := a) (t := 5) (by omega) (by omega) (hY a ha) (fun y1 H1 K1 => ?_)
  refine yy_copyRow (f := b) (t := 6) (by omega) (by omega) (rb_KH K1 (by omega) (by omega) (hY b hb)) (fun y2 H2 K2 => ⟨401, ?_⟩)
  exact yl_divisor hR hR2 ha h 400 0 (V a) (V b) y2 (by omega) (hB a ha) (hB b hb) rfl (Or.inr (rb_E0 hR2 (hB a ha) (hB b hb))) (rb_KH K2 (by omega : 5 ≠ 6) (by omega) H1) H2 (rb_Yw (rb_Yw hY (by omega) K1) (by omega) K2)
/-! power -/
theorem yl_power {post : Int32 → SY → Prop} {R a n : Nat} {V : Nat → Nat} (hR : 2 ≤ R) (hR2 : R ≤ 36) (ha : a < 4) (hB : rb_B R V) (hn : n ≤ 100)
    (h0 : (∀ j, j ≤ n → V a ^ j < R ^ 24) → rb_PY R (rb_up V a (V a ^ n)) (post 0)) (h1 : (∃ j, j ≤ n ∧ R ^ 24 ≤ V a ^ j) → rb_PY R V (post (-3))) :
    ∀ d k y, k + d = n → (∀ j, j ≤ k → V a ^ j < R ^ 24) → rb_H R y (50 * 5) 50 (V a ^ k) → rb_Y R V y → wY_power_31 post (nI a) (nI n) (d + 1) (nI k) (nI R) y
  | 0, k, y, e, z, H, hY => br_t (nI_le (by omega) (by omega)) (by
      have e2 : k = n := by omega
      subst e2
      exact yy_copyRow (f := 5) (t := a) (by omega) (by omega) H (fun y1 H1 K1 => h0 z _ (rb_Ys hY H1 K1)))
  | d + 1, k, y, e, z, H, hY => by
    have zk := z k (Nat.le_refl k)
    refine br_f (nI_ge (by omega) (by omega)) (yy_multiplyRow (t := 6) (r := 5) (s := a) (by omega) (by omega) (by omega) (by omega) (by omega) hR hR2 zk (hB a ha) (rb_Hm H (by omega)) (rb_Hm (hY a ha) (by omega)) (fun y1 H1 K1 => ?_))
    rw [← Nat.pow_succ] at H1
    have b1 : V a ^ (k + 1) < R ^ 50 := by
      rw [Nat.pow_succ]
      exact Nat.lt_of_lt_of_le (rb_mlt zk (hB a ha)) (rb_pm hR (by omega))
    have hY1 := rb_Yw hY (by omega) K1
    refine yy_tooLong (r := 6) (by omega) hR hR2 H1 b1 (fun x => br_t rfl ?_) (fun x => br_f (by decide) (h1 ⟨k + 1, by omega, x⟩ _ hY1))
    refine yy_copyRow (f := 6) (t := 5) (by omega) (by omega) H1 (fun y2 H2 K2 => nm_r (nI_1 k) ?_)
    refine yl_power hR hR2 ha hB hn h0 h1 d (k + 1) y2 (by omega) (fun j hj => ?_) H2 (rb_Yw hY1 (by omega) K2)
    by_cases e9 : j = k + 1
    · rw [e9]
      exact x
    · exact z j (by omega)
theorem yy_power {post : Int32 → SY → Prop} {y : Nat → Int32} {R a n : Nat} {V : Nat → Nat} (hR : 2 ≤ R) (hR2 : R ≤ 36) (hB : rb_B R V) (hY : rb_Y R V y) (ha : a < 4) (hn : n ≤ 100)
    (h0 : (∀ j, j ≤ n → V a ^ j < R ^ 24) → rb_PY R (rb_up V a (V a ^ n)) (post 0)) (h1 : (∃ j, j ≤ n ∧ R ^ 24 ≤ V a ^ j) → rb_PY R V (post (-3))) : wpY_power post (nI R, y) (nI a) (nI n) := by
  unfold wpY_power
  dsimp only
  refine yy_ok ha (br_t rfl (br_f (nI_pos (by omega)) (br_t (nI_le (b := 100) hn (by decide)) ?_)))
  refine yy_setRow (R := R) (t := 5) (d := 1) (by omega) hR (by omega) (fun y1 H1 K1 => ⟨n + 1, ?_⟩)
  refine yl_power hR hR2 ha hB hn h0 h1 n 0 y1 (by omega) (fun j hj => ?_) (by rw [Nat.pow_zero]; exact H1) (rb_Yw hY (by omega) K1)
  have e : j = 0 := by omega
  rw [e, Nat.pow_zero]
  exact Nat.one_lt_pow (by decide) (by omega)
/-! root: from place 12 -/
theorem yl_rootIn {post : Int32 → SY → Prop} {J : Int32 → Int32 → (Nat → Int32) → Prop} {R A t i a : Nat} {V : Nat → Nat} (hR : 2 ≤ R) (hR2 : R ≤ 36) (ha : a < 4) (hA : A < R ^ 24) (eA : V a = A) (h1 : t * t ≤ A) (h2 : A < (t + 1) * (t + 1)) (hi : i < 13)
    (hJ : ∀ y', rb_H R y' (50 * 5) 50 (t / R ^ i * R ^ i) → rb_Y R V y' → J (nI i + (-1)) (nI R) y') :
    ∀ e y, rb_dg R t i < e → e ≤ R → (∀ k, k < 50 → k ≠ i → y (50 * 5 + k) = nI (if k < i then 0 else rb_dg R t k)) → rb_Y R V y → wY_root_33 post J (nI a) (nI i) (e + 1) 0 (nI e + (-1)) (nI R) y
  | 0, _, x, _, _, _ => absurd x (Nat.not_lt_zero _)
  | e + 1, y, x1, x2, hy, hY => by
    rw [pk_m1]
    have tb := rb_sqb hA h1
    have H := rb_rcw (d := e) hR (by omega) hy
    have cb : rb_rc R t i e < R ^ 13 := rb_rcb hR (Nat.lt_of_lt_of_le tb (rb_pm hR (by omega))) hi (by omega)
    have cb24 : rb_rc R t i e < R ^ 24 := Nat.lt_of_lt_of_le cb (rb_pm hR (by omega))
    have sb : rb_rc R t i e * rb_rc R t i e < R ^ 50 := Nat.lt_of_lt_of_le (rb_mlt cb cb) (rb_pm hR (by omega))
    have z1 : (250 : Int32) + nI i = nI (50 * 5 + i) := by rw [show (250 : Int32) = nI 250 from rfl, nI_add]
    have hY1 : rb_Y R V (upd y (50 * 5 + i) (nI e)) := rb_Yw hY (by omega) (rb_Ku (t := 5) (by omega))
    refine br_f (nI_pos (by omega)) (br_t rfl ⟨pk_in (50 * 5 + i) 500 (by omega) z1, nm_r (e' := upd y (50 * 5 + i) (nI e)) (by rw [z1, nI_clamp (by omega)]) ?_⟩)
    refine yy_multiplyRow (t := 6) (r := 5) (s := 5) (by omega) (by omega) (by omega) (by omega) (by omega) hR hR2 cb24 cb24 (rb_Hm H (by omega)) (rb_Hm H (by omega)) (fun y1 H1 K1 => ?_)
    have hY2 := rb_Yw hY1 (by omega) K1
    have cc := rb_sqc (rb_rc R t i e) h1 h2
    have cl := rb_rcl hR t i e
    have H5 := rb_KH K1 (by omega : 5 ≠ 6) (by omega) H
    have go : e ≤ rb_dg R t i → wY_root_33 post J (nI a) (nI i) (e + 1) 1 (nI e + (-1)) (nI R) y1 := by
      intro z
      have e2 : e = rb_dg R t i := by omega
      rw [e2, rb_rcs] at H5
      by_cases e0 : e = 0
      · rw [e0]
        exact br_t (by rw [nI_0]; decide) (nm_e (hJ _ H5 hY2))
      · obtain ⟨f, rfl⟩ : ∃ f, e = f + 1 := ⟨e - 1, by omega⟩
        rw [pk_m1]
        exact br_f (nI_pos (by omega)) (br_f (by decide) (nm_e (hJ _ H5 hY2)))
    have Ha := hY2 a ha
    rw [eA] at Ha
    refine yy_order (r := 6) (s := a) (by omega) (by omega) hR hR2 H1 Ha sb (rb_w50 hR hA) (fun z => br_f (by decide) (nm_e (go (cl.mp (cc.mp (by omega)))))) (fun z => br_t (by decide) (nm_e ?_)) (fun z => br_f (by decide) (nm_e (go (cl.mp (cc.mp (by omega))))))
    have y3 : ¬ e ≤ rb_dg R t i := fun x => absurd (cc.mpr (cl.mpr x)) (by omega)
    refine yl_rootIn hR hR2 ha hA eA h1 h2 hi hJ e y1 (by omega) (by omega) (fun k k1 k2 => ?_) hY2
    rw [K1 (50 * 5 + k) (by omega), pk_un (by omega), hy k k1 k2]
theorem yl_root {post : Int32 → SY → Prop} {R A t a : Nat} {V : Nat → Nat} (hR : 2 ≤ R) (hR2 : R ≤ 36) (ha : a < 4) (hA : A < R ^ 24) (eA : V a = A) (h1 : t * t ≤ A) (h2 : A < (t + 1) * (t + 1))
    (h : rb_PY R (rb_up V a t) (post 0)) :
    ∀ e y, e ≤ 13 → rb_H R y (50 * 5) 50 (t / R ^ e * R ^ e) → rb_Y R V y → wY_root_19 post (nI a) (e + 1) (nI e + (-1)) (nI R) y
  | 0, y, _, H, hY => br_t (by rw [nI_0]; decide) (by
      rw [Nat.pow_zero, Nat.div_one, Nat.mul_one] at H
      exact yy_copyRow (f := 5) (t := a) (by omega) (by omega) H (fun y1 H1 K1 => h _ (rb_Ys hY H1 K1)))
  | e + 1, y, l9, H, hY => by
    rw [pk_m1]
    refine br_f (nI_pos (by omega)) (nm_r (e' := nI R + (-1)) (Int32.sub_eq_add_neg (nI R) 1) ⟨R + 1, ?_⟩)
    exact yl_rootIn hR hR2 ha hA eA h1 h2 (by omega) (fun y1 H1 hY1 => yl_root hR hR2 ha hA eA h1 h2 h e y1 (by omega) H1 hY1) R y (rb_lt hR t e) (Nat.le_refl R) (rb_rch hR H) hY
theorem yy_root {post : Int32 → SY → Prop} {y : Nat → Int32} {R t a : Nat} {V : Nat → Nat} (hR : 2 ≤ R) (hR2 : R ≤ 36) (hB : rb_B R V) (hY : rb_Y R V y) (ha : a < 4) (h1 : t * t ≤ V a) (h2 : V a < (t + 1) * (t + 1))
    (h : rb_PY R (rb_up V a t) (post 0)) : wpY_root post (nI R, y) (nI a) := by
  unfold wpY_root
  dsimp only
  refine yy_ok ha (br_t rfl ?_)
  refine yy_setRow (R := R) (t := 5) (d := 0) (by omega) hR (by omega) (fun y1 H1 K1 => ⟨14, ?_⟩)
  refine yl_root hR hR2 ha (hB a ha) rfl h1 h2 h 13 y1 (by omega) ?_ (rb_Yw hY (by omega) K1)
  rw [Nat.div_eq_of_lt (Nat.lt_of_lt_of_le (rb_sqb (hB a ha) h1) (rb_pm hR (by omega))), Nat.zero_mul]
  exact H1
end
section
theorem yy_cut {post : Int32 → SY → Prop} {y : Nat → Int32} {R v m : Nat} (hR : 2 ≤ R) (hR2 : R ≤ 36) (hm : 0 < m) (hm2 : m ≤ 1000000) (H : rb_H R y (50 * 5) 50 v) (hv : v < R ^ 24)
    (h : ∀ y', rb_H R y' (50 * 5) 50 (v / m) → rb_K 5 y y' → post (nI (v % m)) (nI R, y')) : wpY_cut post (nI R, y) (nI m) := by
  have hq : v / m < R ^ 24 := Nat.lt_of_le_of_lt (Nat.div_le_self v m) hv
  have g := h (rb_ov y 250 0 24 (fun k => nI (rb_dg R (v / m) k))) (rb_HX (n := 24) hR (rb_ovF (fun i hi => rfl)) hq (fun i i1 i2 => by
    rw [rb_ovO (by omega), H i i2, rb_hi hR hv i1]
    rfl)) (rb_ovK (t := 5) (by omega))
  have w := yl_cut hR hR2 hm hm2 (rb_Hm H (by omega)) g 24 (by omega)
  rw [rb_ovE, Nat.div_eq_of_lt hv, Nat.zero_mod] at w
  exact br_t (nI_le (a := 1) hm (by omega)) ⟨25, w⟩
theorem yl_digitIn {post : Int32 → SY → Prop} {R v o i : Nat} {V : Nat → Nat} (hR : 2 ≤ R) (hR2 : R ≤ 36) (hv : v < R ^ 24) (ho : 2 ≤ o) (ho2 : o ≤ 36) (hi : i < 128)
    (h : rb_PY R V (post (nI (v / o ^ i % o)))) : ∀ d k (x : Int32) y, k + d = i + 1 → rb_H R y (50 * 5) 50 (v / o ^ k) → rb_Y R V y → (k = i + 1 → x = nI (v / o ^ i % o)) → wY_digitIn_49 post (nI o) (nI i) (d + 1) x (nI k) (nI R) y
  | 0, k, x, y, e, H, hY, hy => br_t (nI_lt (by omega) (by omega)) (by
      rw [hy (by omega)]
      exact h _ hY)
  | d + 1, k, x, y, e, H, hY, hy => br_f (nI_nlt (by omega) (by omega)) (yy_cut hR hR2 (by omega) (by omega) H (Nat.lt_of_le_of_lt (Nat.div_le_self _ _) hv) (fun y1 H1 K1 => nm_r (nI_1 k) (by
      rw [← rb_dv] at H1
      exact yl_digitIn hR hR2 hv ho ho2 hi h d (k + 1) _ y1 (by omega) H1 (rb_Yw hY (by omega) K1) (fun z => by
        have e2 : k = i := by omega
        rw [e2]))))
theorem yy_digitIn {post : Int32 → SY → Prop} {y : Nat → Int32} {R a o i : Nat} {V : Nat → Nat} (hR : 2 ≤ R) (hR2 : R ≤ 36) (hB : rb_B R V) (hY : rb_Y R V y) (ha : a < 4) (ho : 2 ≤ o) (ho2 : o ≤ 36) (hi : i < 128)
    (h : rb_PY R V (post (nI (V a / o ^ i % o)))) : wpY_digitIn post (nI R, y) (nI a) (nI o) (nI i) := by
  unfold wpY_digitIn
  dsimp only
  refine yy_ok ha (br_t rfl (br_f (nI_nlt (b := 2) ho (by omega)) (br_t (nI_le (b := 36) ho2 (by decide)) (br_f (nI_pos (by omega)) (br_t (nI_le (b := 127) (by omega) (by decide)) ?_)))))
  refine yy_copyRow (f := a) (t := 5) (by omega) (by omega) (hY a ha) (fun y1 H1 K1 => ⟨i + 2, ?_⟩)
  exact yl_digitIn hR hR2 (hB a ha) ho ho2 hi h (i + 1) 0 0 y1 (by omega) (by rw [Nat.pow_zero, Nat.div_one]; exact H1) (rb_Yw hY (by omega) K1) (fun z => absurd z (by omega))
theorem yl_lengthIn {post : Int32 → SY → Prop} {R v o : Nat} {V : Nat → Nat} (hR : 2 ≤ R) (hR2 : R ≤ 36) (hv : v < R ^ 24) (ho : 2 ≤ o) (ho2 : o ≤ 36)
    (h : ∀ n, n ≤ 128 → (∀ j, j < n → v / o ^ j ≠ 0) → (n = 128 ∨ v / o ^ n = 0) → rb_PY R V (post (nI n))) : ∀ d k n y, k + d = 128 → n ≤ k → (n = k ∨ v / o ^ n = 0) → rb_H R y (50 * 5) 50 (v / o ^ n) → rb_Y R V y → (∀ j, j < n → v / o ^ j ≠ 0) → wY_lengthIn_35 post (nI o) (d + 1) (nI n) (nI k) (nI R) y
  | 0, k, n, y, e, l, hn, H, hY, hj => br_t (nI_le (a := 128) (by omega) (by omega)) (h n (by omega) hj (hn.imp (fun z => by omega) id) _ hY)
  | d + 1, k, n, y, e, l, hn, H, hY, hj => by
    have b1 : v / o ^ n < R ^ 24 := Nat.lt_of_le_of_lt (Nat.div_le_self _ _) hv
    refine br_f (nI_ge (b := 128) (by omega) (by decide)) (yy_zero (r := 5) (by omega) hR hR2 H (rb_w50 hR b1) (fun z => br_t rfl ?_) (fun z => br_f (by decide) (nm_r (nI_1 k) (yl_lengthIn hR hR2 hv ho ho2 h d (k + 1) n y (by omega) (by omega) (Or.inr z) H hY hj))))
    have e2 : n = k := hn.resolve_right z
    refine yy_cut hR hR2 (by omega) (by omega) H b1 (fun y1 H1 K1 => nm_r (nI_1 n) (nm_r (nI_1 k) ?_))
    rw [← rb_dv] at H1
    refine yl_lengthIn hR hR2 hv ho ho2 h d (k + 1) (n + 1) y1 (by omega) (by omega) (Or.inl (by omega)) H1 (rb_Yw hY (by omega) K1) (fun j hj2 => ?_)
    by_cases e9 : j = n
    · rw [e9]
      exact z
    · exact hj j (by omega)
theorem yy_lengthIn {post : Int32 → SY → Prop} {y : Nat → Int32} {R a o : Nat} {V : Nat → Nat} (hR : 2 ≤ R) (hR2 : R ≤ 36) (hB : rb_B R V) (hY : rb_Y R V y) (ha : a < 4) (ho : 2 ≤ o) (ho2 : o ≤ 36)
    (h : ∀ n, n ≤ 128 → (∀ j, j < n → V a / o ^ j ≠ 0) → (n = 128 ∨ V a / o ^ n = 0) → rb_PY R V (post (nI n))) : wpY_lengthIn post (nI R, y) (nI a) (nI o) := by
  unfold wpY_lengthIn
  dsimp only
  refine yy_ok ha (br_t rfl (br_f (nI_nlt (b := 2) ho (by omega)) (br_t (nI_le (b := 36) ho2 (by decide)) ?_)))
  refine yy_copyRow (f := a) (t := 5) (by omega) (by omega) (hY a ha) (fun y1 H1 K1 => ⟨129, ?_⟩)
  exact yl_lengthIn hR hR2 (hB a ha) ho ho2 h 128 0 0 y1 (by omega) (by omega) (Or.inl rfl) (by rw [Nat.pow_zero, Nat.div_one]; exact H1) (rb_Yw hY (by omega) K1) (fun j z => absurd z (by omega))
theorem yy_remainder {post : Int32 → SY → Prop} {y : Nat → Int32} {R a m : Nat} {V : Nat → Nat} (hR : 2 ≤ R) (hR2 : R ≤ 36) (hB : rb_B R V) (hY : rb_Y R V y) (ha : a < 4) (hm : 0 < m) (hm2 : m ≤ 1000000)
    (h : rb_PY R V (post (nI (V a % m)))) : wpY_remainder post (nI R, y) (nI a) (nI m) := by
  unfold wpY_remainder
  dsimp only
  refine yy_ok ha (br_t rfl (br_f (nI_nlt (b := 1) hm (by omega)) (br_t (nI_le (b := 1000000) hm2 (by decide)) ?_)))
  refine yy_copyRow (f := a) (t := 5) (by omega) (by omega) (hY a ha) (fun y1 H1 K1 => ?_)
  exact yy_cut hR hR2 hm hm2 H1 (hB a ha) (fun y2 H2 K2 => h _ (rb_Yw (rb_Yw hY (by omega) K1) (by omega) K2))
theorem yl_length {post : Int32 → Prop} {y : Nat → Int32} {R v a : Nat} (hR : 2 ≤ R) (hR2 : R ≤ 36) (ha : a < 4) (H : rb_H R y (50 * a) 50 v)
    (h : ∀ n, n ≤ 24 → (∀ i, n ≤ i → i < 24 → rb_dg R v i = 0) → (0 < n → rb_dg R v (n - 1) ≠ 0) → post (nI n)) :
    ∀ d i n, i + d = 24 → n ≤ i → (∀ k, n ≤ k → k < i → rb_dg R v k = 0) → (0 < n → rb_dg R v (n - 1) ≠ 0) → wY_length_14 post (nI a) (nI R) y (d + 1) (nI n) (nI i)
  | 0, i, n, e, l, z1, z2 => br_t (nI_le (a := 24) (by omega) (by omega)) (h n (by omega) (fun k k1 k2 => z1 k k1 (by omega)) z2)
  | d + 1, i, n, e, l, z1, z2 => by
    have b1 := rb_dgb hR hR2 v i
    refine br_f (nI_ge (b := 24) (by omega) (by decide)) ⟨pk_in (50 * a + i) 500 (by omega) (rb_x50 a i), pk_eq (rb_dg R v i) 0 (fun k => nm_r (nI_1 i) (yl_length hR hR2 ha H h d (i + 1) n (by omega) (by omega) (fun k9 k1 k2 => ?_) z2)) (fun k => nm_r (nI_1 i) (nm_r (nI_1 i) (yl_length hR hR2 ha H h d (i + 1) (i + 1) (by omega) (by omega) (fun k9 k1 k2 => absurd k2 (by omega)) (fun _ => k)))) (rb_rH H (by omega) (rb_x50 a i) (by omega))⟩
    by_cases e9 : k9 = i
    · rw [e9]
      exact k
    · exact z1 k9 k1 (by omega)
theorem yy_length {post : Int32 → Prop} {y : Nat → Int32} {R a : Nat} {V : Nat → Nat} (hR : 2 ≤ R) (hR2 : R ≤ 36) (hY : rb_Y R V y) (ha : a < 4)
    (h : ∀ n, n ≤ 24 → (∀ i, n ≤ i → i < 24 → rb_dg R (V a) i = 0) → (0 < n → rb_dg R (V a) (n - 1) ≠ 0) → post (nI n)) : wpY_length post (nI R, y) (nI a) := by
  unfold wpY_length
  dsimp only
  exact yy_ok ha (br_t rfl ⟨25, yl_length hR hR2 ha (hY a ha) h 24 0 0 (by omega) (by omega) (fun k k1 k2 => absurd k2 (by omega)) (fun z => absurd z (by omega))⟩)
theorem yy_digitAt {post : Int32 → Prop} {y : Nat → Int32} {R a i : Nat} {V : Nat → Nat} (hY : rb_Y R V y) (ha : a < 4) (hi : i < 24)
    (h : post (nI (rb_dg R (V a) i))) : wpY_digit post (nI R, y) (nI a) (nI i) := by
  unfold wpY_digit
  dsimp only
  refine yy_ok ha (br_t rfl (br_f (nI_pos (by omega)) (br_t (nI_le (b := 23) (by omega) (by decide)) ⟨pk_in (50 * a + i) 500 (by omega) (rb_x50 a i), ?_⟩)))
  rw [rb_rH (hY a ha) (by omega) (rb_x50 a i) (by omega)]
  exact h
theorem yy_set {post : Int32 → SY → Prop} {y : Nat → Int32} {R a i d n : Nat} {V : Nat → Nat} (hR2 : R ≤ 36) (hY : rb_Y R V y) (ha : a < 4) (hi : i < 24) (hd : d < R) (hn : ∀ k, rb_dg R n k = if k = i then d else rb_dg R (V a) k)
    (h : rb_PY R (rb_up V a n) (post (nI (rb_dg R (V a) i)))) : wpY_set post (nI R, y) (nI a) (nI i) (nI d) := by
  unfold wpY_set
  dsimp only
  refine yy_ok ha (br_t rfl (br_f (nI_pos (by omega)) (br_t (nI_le (b := 23) (by omega) (by decide)) (br_f (nI_pos (by omega)) (br_t (nI_lt hd (by omega)) ⟨pk_in (50 * a + i) 500 (by omega) (rb_x50 a i), nm_r (rb_rH (hY a ha) (by omega) (rb_x50 a i) (by omega)) ⟨pk_in (50 * a + i) 500 (by omega) (rb_x50 a i), nm_r (e' := upd y (50 * a + i) (nI d)) (by rw [rb_x50, nI_clamp (by omega)]) ?_⟩⟩)))))
  exact h _ (rb_Ys hY (rb_setH (hY a ha) hn) (rb_Ku (by omega)))
/-! shift -/
theorem rb_tgt (p : Int32) (i : Nat) : (0 ≤ nI i + p ∧ nI i + p < 24) ∨ ¬ (0 ≤ nI i + p ∧ nI i + p < 24) := Classical.em _
theorem rb_tin {x : Int32} (h : 0 ≤ x ∧ x < 24) : ∃ t : Nat, t < 24 ∧ x = nI t := by
  obtain ⟨j, hj, rfl⟩ := nI_of (Int32.not_lt.mpr h.1)
  exact ⟨j, (nI_ltI (b := 24) hj (by decide)).mp h.2, rfl⟩
theorem rb_sEin {p : Int32} {d : Nat → Nat} {i t k : Nat} (ht : t < 24) (hk : k < 24) (e : nI i + p = nI t) : rb_sE p d (i + 1) k = if k = t then d i else rb_sE p d i k := by
  show (if nI i + p = nI k then d i else rb_sE p d i k) = _
  rw [e]
  by_cases c : k = t
  · rw [c, if_pos rfl, if_pos rfl]
  · rw [if_neg c, if_neg (fun z => c ((nI_eq (by omega) (by omega)).mp z).symm)]
theorem rb_sEout {p : Int32} {d : Nat → Nat} {i k : Nat} (hk : k < 24) (e : ¬ (0 ≤ nI i + p ∧ nI i + p < 24)) : rb_sE p d (i + 1) k = rb_sE p d i k := by
  show (if nI i + p = nI k then d i else rb_sE p d i k) = _
  rw [if_neg (fun z => e (by rw [z]; exact ⟨nI_pos' (by omega), nI_lt (b := 24) hk (by decide)⟩))]
theorem rb_sLin {p : Int32} {d : Nat → Nat} {i : Nat} (h : (0 ≤ nI i + p ∧ nI i + p < 24) ∨ d i = 0) : rb_sL p d (i + 1) = rb_sL p d i := if_pos h
theorem rb_sLout {p : Int32} {d : Nat → Nat} {i : Nat} (h : ¬ (0 ≤ nI i + p ∧ nI i + p < 24)) (h2 : d i ≠ 0) : rb_sL p d (i + 1) = rb_sL p d i + 1 := if_neg (fun z => z.elim h h2)
end
section
theorem rb_shN {R v : Nat} (hR : 2 ≤ R) (p : Int32) : ∃ n, n < R ^ 24 ∧ ∀ k, k < 24 → rb_dg R n k = rb_sE p (rb_dg R v) 24 k :=
  rb_mk hR (rb_sE p (rb_dg R v) 24) 24 (fun i _ => rb_sEl hR (rb_lt hR v) 24 i)
theorem xl_shift {post : Int32 → SX → Prop} {c l q s p : Nat → Int32} {R v n a : Nat} {V : Nat → Nat} {x : Int32} (hR : 2 ≤ R) (hR2 : R ≤ 36) (hX : rb_X R V c) (ha : a < 4) (Hl : rb_H R l 0 25 v) (hn : ∀ k, k < 24 → rb_dg R n k = rb_sE x (rb_dg R v) 24 k)
    (h : rb_PX R (rb_up V a n) (post (nI (rb_sL x (rb_dg R v) 24)))) :
    ∀ d i r, i + d = 24 → (∀ k, k < 24 → r k = nI (rb_sE x (rb_dg R v) i k)) → wX_shift_45 post (nI a) x (nI R) (d + 1) (nI (rb_sL x (rb_dg R v) i)) (nI i) c l r q s p
  | 0, i, r, e, hr => br_t (nI_le (a := 24) (by omega) (by omega)) (by
      have e2 : i = 24 := by omega
      subst e2
      refine xx_store_right ha (v := n) (rb_H0i (fun k hk => by rw [hr k hk, hn k hk])) (fun c1 H1 K => h _ _ _ _ _ _ (rb_Xs hX H1 K)))
  | d + 1, i, r, e, hr => by
    have b1 := rb_dgb hR hR2 v i
    have r1 : l (nI i).toNatClampNeg = nI (rb_dg R v i) := rb_rH0 Hl (by omega) rfl (by omega)
    have b2 := rb_sLl (p := x) (d := rb_dg R v) i
    refine br_f (nI_ge (b := 24) (by omega) (by decide)) (nm_e ?_)
    rcases rb_tgt x i with g | g
    · obtain ⟨t, ht, et⟩ := rb_tin g
      refine xx_placeI g (br_f (by decide) ⟨pk_in i 25 (by omega), pk_in t 25 (by omega) et, nm_r (e' := upd r t (nI (rb_dg R v i))) (by rw [et, nI_clamp (by omega), r1]) (nm_r (nI_1 i) ?_)⟩)
      have ih := xl_shift (q := q) (s := s) (p := p) hR hR2 hX ha Hl hn h d (i + 1) (upd r t (nI (rb_dg R v i))) (by omega) (fun k hk => ?_)
      · rw [rb_sLin (Or.inl g)] at ih
        exact ih
      · rw [rb_sEin ht hk et]
        by_cases e9 : k = t
        · rw [e9, pk_us, if_pos rfl]
        · rw [pk_un e9, if_neg e9, hr k hk]
    · have hr2 : ∀ k, k < 24 → r k = nI (rb_sE x (rb_dg R v) (i + 1) k) := fun k hk => by rw [rb_sEout hk g, hr k hk]
      have ih := xl_shift (q := q) (s := s) (p := p) hR hR2 hX ha Hl hn h d (i + 1) r (by omega) hr2
      refine xx_placeO g (br_t rfl ⟨pk_in i 25 (by omega), pk_eq (rb_dg R v i) 0 (fun z => nm_r (nI_1 i) ?_) (fun z => nm_r (nI_1 _) (nm_r (nI_1 i) ?_)) r1⟩)
      · rw [rb_sLin (Or.inr z)] at ih
        exact ih
      · rw [rb_sLout g z] at ih
        exact ih
theorem xx_shift {post : Int32 → SX → Prop} {c l r q s p : Nat → Int32} {R n a : Nat} {V : Nat → Nat} {x : Int32} (hR : 2 ≤ R) (hR2 : R ≤ 36) (hB : rb_B R V) (hX : rb_X R V c) (ha : a < 4) (h1 : ¬ x < -24) (h2 : x ≤ 24) (hn : ∀ k, k < 24 → rb_dg R n k = rb_sE x (rb_dg R (V a)) 24 k)
    (h : rb_PX R (rb_up V a n) (post (nI (rb_sL x (rb_dg R (V a)) 24)))) : wpX_shift post (nI R, c, l, r, q, s, p) (nI a) x := by
  unfold wpX_shift
  dsimp only
  refine xx_reg ha (br_f (by decide) (br_f h1 (br_t h2 ?_)))
  refine xx_load_left ha hR (hX a ha) (hB a ha) (fun l1 Hl => ?_)
  refine xx_clear_right (R := R) (fun r1 H1 => ⟨25, ?_⟩)
  exact xl_shift hR hR2 hX ha Hl hn h 24 0 r1 (by omega) (fun k hk => by rw [rb_H0 H1 (by omega), rb_z]; rfl)
theorem yl_shift {post : Int32 → SY → Prop} {R v n a : Nat} {V : Nat → Nat} {x : Int32} (hR : 2 ≤ R) (hR2 : R ≤ 36) (ha : a < 4) (hn0 : n < R ^ 24) (hn : ∀ k, k < 24 → rb_dg R n k = rb_sE x (rb_dg R v) 24 k)
    (h : rb_PY R (rb_up V a n) (post (nI (rb_sL x (rb_dg R v) 24)))) :
    ∀ d i y, i + d = 24 → (∀ k, k < 24 → y (50 * a + k) = nI (rb_sE x (rb_dg R v) i k)) → (∀ k, 24 ≤ k → k < 50 → y (50 * a + k) = 0) → rb_H R y (50 * 4) 50 v → (∀ r, r < 4 → r ≠ a → rb_H R y (50 * r) 50 (V r)) → wY_shift_42 post (nI a) x (nI R) (d + 1) (nI (rb_sL x (rb_dg R v) i)) (nI i) y
  | 0, i, y, e, h1, h2, h3, h4 => br_t (nI_le (a := 24) (by omega) (by omega)) (by
      have e2 : i = 24 := by omega
      subst e2
      refine h _ (fun r hr => ?_)
      by_cases e9 : r = a
      · rw [e9, rb_upS]
        exact rb_HX (n := 24) hR (fun k hk => by rw [h1 k hk, hn k hk]) hn0 h2
      · rw [rb_upN e9]
        exact h4 r hr e9)
  | d + 1, i, y, e, h1, h2, h3, h4 => by
    have b1 := rb_dgb hR hR2 v i
    have x1 : (200 : Int32) + nI i = nI (50 * 4 + i) := by rw [show (200 : Int32) = nI 200 from rfl, nI_add]
    have r1 : y (200 + nI i).toNatClampNeg = nI (rb_dg R v i) := rb_rH h3 (by omega) x1 (by omega)
    have b2 := rb_sLl (p := x) (d := rb_dg R v) i
    refine br_f (nI_ge (b := 24) (by omega) (by decide)) (nm_e ?_)
    rcases rb_tgt x i with g | g
    · obtain ⟨t, ht, et⟩ := rb_tin g
      have z1 : (50 : Int32) * nI a + (nI i + x) = nI (50 * a + t) := by rw [et, rb_x50]
      refine br_f (Int32.not_lt.mpr g.1) (br_f (Int32.not_le.mpr g.2) ⟨pk_in (50 * 4 + i) 500 (by omega) x1, pk_in (50 * a + t) 500 (by omega) z1, nm_r (e' := upd y (50 * a + t) (nI (rb_dg R v i))) (by rw [z1, nI_clamp (by omega), r1]) (nm_r (nI_1 i) ?_)⟩)
      have ih := yl_shift hR hR2 ha hn0 hn h d (i + 1) (upd y (50 * a + t) (nI (rb_dg R v i))) (by omega) (fun k hk => ?_) (fun k k1 k2 => by rw [pk_un (by omega), h2 k k1 k2]) (rb_KH (rb_Ku (t := a) (by omega)) (by omega) (by omega) h3) (fun r hr hra => rb_KH (rb_Ku (t := a) (by omega)) hra (by omega) (h4 r hr hra))
      · rw [rb_sLin (Or.inl g)] at ih
        exact ih
      · rw [rb_sEin ht hk et]
        by_cases e9 : k = t
        · rw [e9, pk_us, if_pos rfl]
        · rw [pk_un (by omega), if_neg e9, h1 k hk]
    · have hr2 : ∀ k, k < 24 → y (50 * a + k) = nI (rb_sE x (rb_dg R v) (i + 1) k) := fun k hk => by rw [rb_sEout hk g, h1 k hk]
      have ih := yl_shift hR hR2 ha hn0 hn h d (i + 1) y (by omega) hr2 h2 h3 h4
      have fin : wY_shift_93 post (wY_shift_42 post (nI a) x (nI R) (d + 1)) (nI a) x (nI (rb_sL x (rb_dg R v) i)) (nI i) (nI R) y := by
        refine ⟨pk_in (50 * 4 + i) 500 (by omega) x1, pk_eq (rb_dg R v i) 0 (fun z => nm_r (nI_1 i) ?_) (fun z => nm_r (nI_1 _) (nm_r (nI_1 i) ?_)) r1⟩
        · rw [rb_sLin (Or.inr z)] at ih
          exact ih
        · rw [rb_sLout g z] at ih
          exact ih
      by_cases z : nI i + x < 0
      · exact br_t z fin
      · exact br_f z (br_t (Int32.not_lt.mp (fun w => g ⟨Int32.not_lt.mp z, w⟩)) fin)
theorem yy_shift {post : Int32 → SY → Prop} {y : Nat → Int32} {R n a : Nat} {V : Nat → Nat} {x : Int32} (hR : 2 ≤ R) (hR2 : R ≤ 36) (hY : rb_Y R V y) (ha : a < 4) (h1 : ¬ x < -24) (h2 : x ≤ 24) (hn0 : n < R ^ 24) (hn : ∀ k, k < 24 → rb_dg R n k = rb_sE x (rb_dg R (V a)) 24 k)
    (h : rb_PY R (rb_up V a n) (post (nI (rb_sL x (rb_dg R (V a)) 24)))) : wpY_shift post (nI R, y) (nI a) x := by
  unfold wpY_shift
  dsimp only
  refine yy_ok ha (br_t rfl (br_f h1 (br_t h2 ?_)))
  refine yy_copyRow (f := a) (t := 4) (by omega) (by omega) (hY a ha) (fun y1 H1 K1 => ?_)
  refine yy_setRow (R := R) (t := a) (d := 0) (by omega) hR (by omega) (fun y2 H2 K2 => ⟨25, ?_⟩)
  exact yl_shift hR hR2 ha hn0 hn h 24 0 y2 (by omega) (fun k hk => by rw [H2 k (by omega), rb_z]; rfl) (fun k k1 k2 => by rw [H2 k k2, rb_z]; rfl) (rb_KH K2 (by omega) (by omega) H1) (fun r hr hra => rb_KH K2 hra (by omega) (rb_KH K1 (by omega) (by omega) (hY r hr)))
end
section
theorem rb_rng (lo hi : Nat) (h : lo ≤ hi) (hh : hi < 2 ^ 31) (x : Int32) : (x < nI lo ∨ nI hi < x) ∨ ∃ j : Nat, lo ≤ j ∧ j ≤ hi ∧ x = nI j := by
  by_cases c : x < nI lo
  · exact Or.inl (Or.inl c)
  · have z : ¬ x < 0 := fun y => c (Int32.lt_of_lt_of_le y (nI_pos' (by omega)))
    obtain ⟨j, hj, rfl⟩ := nI_of z
    rw [nI_ltI hj (by omega)] at c
    by_cases d : j ≤ hi
    · exact Or.inr ⟨j, by omega, d, rfl⟩
    · exact Or.inl (Or.inr (nI_lt (by omega) hj))
theorem rb_ix24 (x : Int32) : (x < 0 ∨ nI 24 ≤ x) ∨ ∃ i : Nat, i < 24 ∧ x = nI i := by
  rcases pk_ix x (n := 24) (by decide) with h | h | h
  · exact Or.inl (Or.inl h)
  · exact Or.inl (Or.inr h)
  · exact Or.inr h
theorem rb_ixR {R : Nat} (x : Int32) (hR2 : R ≤ 36) : (x < 0 ∨ nI R ≤ x) ∨ ∃ i : Nat, i < R ∧ x = nI i := by
  rcases pk_ix x (n := R) (by omega) with h | h | h
  · exact Or.inl (Or.inl h)
  · exact Or.inl (Or.inr h)
  · exact Or.inr h
theorem rb_ix101 (x : Int32) : (x < 0 ∨ 100 < x) ∨ ∃ n : Nat, n ≤ 100 ∧ x = nI n := by
  rcases rb_rng 0 100 (by decide) (by decide) x with h | ⟨j, _, h1, h2⟩
  · exact Or.inl h
  · exact Or.inr ⟨j, h1, h2⟩
theorem rb_ix128 (x : Int32) : (x < 0 ∨ 127 < x) ∨ ∃ n : Nat, n < 128 ∧ x = nI n := by
  rcases rb_rng 0 127 (by decide) (by decide) x with h | ⟨j, _, h1, h2⟩
  · exact Or.inl h
  · exact Or.inr ⟨j, by omega, h2⟩
theorem rb_ixO (x : Int32) : (x < 2 ∨ 36 < x) ∨ ∃ o : Nat, 2 ≤ o ∧ o ≤ 36 ∧ x = nI o := rb_rng 2 36 (by decide) (by decide) x
theorem rb_ixM (x : Int32) : (x < 1 ∨ 1000000 < x) ∨ ∃ o : Nat, 0 < o ∧ o ≤ 1000000 ∧ x = nI o := rb_rng 1 1000000 (by decide) (by decide) x
/-- a test with two limits, refused -/
theorem rb_rf {c d A B : Prop} (h : c ∨ ¬ d) (a : A) : (c → A) ∧ (¬ c → ((d → B) ∧ (¬ d → A))) :=
  ⟨fun _ => a, fun n => ⟨fun y => h.elim (fun z => absurd z n) (fun z => absurd y z), fun _ => a⟩⟩
theorem rb_le127 {x : Int32} (h : 127 < x) : ¬ x < 128 := by
  rw [Int32.lt_iff_toInt_lt] at h ⊢
  have a : (127 : Int32).toInt = 127 := by decide
  have b : (128 : Int32).toInt = 128 := by decide
  omega
theorem rb_n23 {x : Int32} (g : x < 0 ∨ nI 24 ≤ x) : x < 0 ∨ ¬ x ≤ 23 := by
  rcases g with g | g
  · exact Or.inl g
  · by_cases z : x < 0
    · exact Or.inl z
    · obtain ⟨j, hj, rfl⟩ := nI_of z
      have h := (nI_leI (by decide) hj).mp g
      exact Or.inr (nI_ge (a := 23) (by omega) hj)
theorem rb_nR {x : Int32} {R : Nat} (g : x < 0 ∨ nI R ≤ x) : x < 0 ∨ ¬ x < nI R := g.imp id Int32.not_lt.mpr
theorem xn_set {post : Int32 → SX → Prop} {F : Int32} {c l r q s p : Nat → Int32} {x x2 x3 : Int32} (g : rb_bad x) (h : post (-1) (F, c, l, r, q, s, p)) : wpX_set post (F, c, l, r, q, s, p) x x2 x3 := by
  unfold wpX_set
  exact xx_noreg g (br_t rfl h)
theorem yn_set {post : Int32 → SY → Prop} {F : Int32} {y : Nat → Int32} {x x2 x3 : Int32} (g : rb_bad x) (h : post (-1) (F, y)) : wpY_set post (F, y) x x2 x3 := by
  unfold wpY_set
  exact yy_bad g (br_f (by decide) h)
theorem xn_shift {post : Int32 → SX → Prop} {F : Int32} {c l r q s p : Nat → Int32} {x x2 : Int32} (g : rb_bad x) (h : post (-1) (F, c, l, r, q, s, p)) : wpX_shift post (F, c, l, r, q, s, p) x x2 := by
  unfold wpX_shift
  exact xx_noreg g (br_t rfl h)
theorem yn_shift {post : Int32 → SY → Prop} {F : Int32} {y : Nat → Int32} {x x2 : Int32} (g : rb_bad x) (h : post (-1) (F, y)) : wpY_shift post (F, y) x x2 := by
  unfold wpY_shift
  exact yy_bad g (br_f (by decide) h)
theorem xn_feed {post : Int32 → SX → Prop} {F : Int32} {c l r q s p : Nat → Int32} {x x2 : Int32} (g : rb_bad x) (h : post (-1) (F, c, l, r, q, s, p)) : wpX_feed post (F, c, l, r, q, s, p) x x2 := by
  unfold wpX_feed
  exact xx_noreg g (br_t rfl h)
theorem yn_feed {post : Int32 → SY → Prop} {F : Int32} {y : Nat → Int32} {x x2 : Int32} (g : rb_bad x) (h : post (-1) (F, y)) : wpY_feed post (F, y) x x2 := by
  unfold wpY_feed
  exact yy_bad g (br_f (by decide) h)
theorem xn_copy {post : Int32 → SX → Prop} {F : Int32} {c l r q s p : Nat → Int32} {x x2 : Int32} (g : rb_bad x) (h : post (-1) (F, c, l, r, q, s, p)) : wpX_copy post (F, c, l, r, q, s, p) x x2 := by
  unfold wpX_copy
  exact xx_noreg g (br_t rfl h)
theorem yn_copy {post : Int32 → SY → Prop} {F : Int32} {y : Nat → Int32} {x x2 : Int32} (g : rb_bad x) (h : post (-1) (F, y)) : wpY_copy post (F, y) x x2 := by
  unfold wpY_copy
  exact yy_bad g (br_f (by decide) h)
theorem xn_add {post : Int32 → SX → Prop} {F : Int32} {c l r q s p : Nat → Int32} {x x2 : Int32} (g : rb_bad x) (h : post (-1) (F, c, l, r, q, s, p)) : wpX_add post (F, c, l, r, q, s, p) x x2 := by
  unfold wpX_add
  exact xx_noreg g (br_t rfl h)
theorem yn_add {post : Int32 → SY → Prop} {F : Int32} {y : Nat → Int32} {x x2 : Int32} (g : rb_bad x) (h : post (-1) (F, y)) : wpY_add post (F, y) x x2 := by
  unfold wpY_add
  exact yy_bad g (br_f (by decide) h)
theorem xn_subtract {post : Int32 → SX → Prop} {F : Int32} {c l r q s p : Nat → Int32} {x x2 : Int32} (g : rb_bad x) (h : post (-1) (F, c, l, r, q, s, p)) : wpX_subtract post (F, c, l, r, q, s, p) x x2 := by
  unfold wpX_subtract
  exact xx_noreg g (br_t rfl h)
theorem yn_subtract {post : Int32 → SY → Prop} {F : Int32} {y : Nat → Int32} {x x2 : Int32} (g : rb_bad x) (h : post (-1) (F, y)) : wpY_subtract post (F, y) x x2 := by
  unfold wpY_subtract
  exact yy_bad g (br_f (by decide) h)
theorem xn_multiply {post : Int32 → SX → Prop} {F : Int32} {c l r q s p : Nat → Int32} {x x2 : Int32} (g : rb_bad x) (h : post (-1) (F, c, l, r, q, s, p)) : wpX_multiply post (F, c, l, r, q, s, p) x x2 := by
  unfold wpX_multiply
  exact xx_noreg g (br_t rfl h)
theorem yn_multiply {post : Int32 → SY → Prop} {F : Int32} {y : Nat → Int32} {x x2 : Int32} (g : rb_bad x) (h : post (-1) (F, y)) : wpY_multiply post (F, y) x x2 := by
  unfold wpY_multiply
  exact yy_bad g (br_f (by decide) h)
theorem xn_multiplyLow {post : Int32 → SX → Prop} {F : Int32} {c l r q s p : Nat → Int32} {x x2 : Int32} (g : rb_bad x) (h : post (-1) (F, c, l, r, q, s, p)) : wpX_multiplyLow post (F, c, l, r, q, s, p) x x2 := by
  unfold wpX_multiplyLow
  exact xx_noreg g (br_t rfl h)
theorem yn_multiplyLow {post : Int32 → SY → Prop} {F : Int32} {y : Nat → Int32} {x x2 : Int32} (g : rb_bad x) (h : post (-1) (F, y)) : wpY_multiplyLow post (F, y) x x2 := by
  unfold wpY_multiplyLow
  exact yy_bad g (br_f (by decide) h)
theorem xn_divide {post : Int32 → SX → Prop} {F : Int32} {c l r q s p : Nat → Int32} {x x2 x3 : Int32} (g : rb_bad x) (h : post (-1) (F, c, l, r, q, s, p)) : wpX_divide post (F, c, l, r, q, s, p) x x2 x3 := by
  unfold wpX_divide
  exact xx_noreg g (br_t rfl h)
theorem yn_divide {post : Int32 → SY → Prop} {F : Int32} {y : Nat → Int32} {x x2 x3 : Int32} (g : rb_bad x) (h : post (-1) (F, y)) : wpY_divide post (F, y) x x2 x3 := by
  unfold wpY_divide
  exact yy_bad g (br_f (by decide) h)
theorem xn_root {post : Int32 → SX → Prop} {F : Int32} {c l r q s p : Nat → Int32} {x : Int32} (g : rb_bad x) (h : post (-1) (F, c, l, r, q, s, p)) : wpX_root post (F, c, l, r, q, s, p) x := by
  unfold wpX_root
  exact xx_noreg g (br_t rfl h)
theorem yn_root {post : Int32 → SY → Prop} {F : Int32} {y : Nat → Int32} {x : Int32} (g : rb_bad x) (h : post (-1) (F, y)) : wpY_root post (F, y) x := by
  unfold wpY_root
  exact yy_bad g (br_f (by decide) h)
theorem xn_power {post : Int32 → SX → Prop} {F : Int32} {c l r q s p : Nat → Int32} {x x2 : Int32} (g : rb_bad x) (h : post (-1) (F, c, l, r, q, s, p)) : wpX_power post (F, c, l, r, q, s, p) x x2 := by
  unfold wpX_power
  exact xx_noreg g (br_t rfl h)
theorem yn_power {post : Int32 → SY → Prop} {F : Int32} {y : Nat → Int32} {x x2 : Int32} (g : rb_bad x) (h : post (-1) (F, y)) : wpY_power post (F, y) x x2 := by
  unfold wpY_power
  exact yy_bad g (br_f (by decide) h)
theorem xn_divisor {post : Int32 → SX → Prop} {F : Int32} {c l r q s p : Nat → Int32} {x x2 : Int32} (g : rb_bad x) (h : post (-1) (F, c, l, r, q, s, p)) : wpX_divisor post (F, c, l, r, q, s, p) x x2 := by
  unfold wpX_divisor
  exact xx_noreg g (br_t rfl h)
theorem yn_divisor {post : Int32 → SY → Prop} {F : Int32} {y : Nat → Int32} {x x2 : Int32} (g : rb_bad x) (h : post (-1) (F, y)) : wpY_divisor post (F, y) x x2 := by
  unfold wpY_divisor
  exact yy_bad g (br_f (by decide) h)
theorem xn_digit {post : Int32 → Prop} {F : Int32} {c l r q s p : Nat → Int32} {x x2 : Int32} (g : rb_bad x) (h : post (-1)) : wpX_digit post (F, c, l, r, q, s, p) x x2 := by
  unfold wpX_digit
  exact xx_noreg g (br_t rfl h)
theorem yn_digit {post : Int32 → Prop} {F : Int32} {y : Nat → Int32} {x x2 : Int32} (g : rb_bad x) (h : post (-1)) : wpY_digit post (F, y) x x2 := by
  unfold wpY_digit
  exact yy_bad g (br_f (by decide) h)
theorem xn_length {post : Int32 → Prop} {F : Int32} {c l r q s p : Nat → Int32} {x : Int32} (g : rb_bad x) (h : post (-1)) : wpX_length post (F, c, l, r, q, s, p) x := by
  unfold wpX_length
  exact xx_noreg g (br_t rfl h)
theorem yn_length {post : Int32 → Prop} {F : Int32} {y : Nat → Int32} {x : Int32} (g : rb_bad x) (h : post (-1)) : wpY_length post (F, y) x := by
  unfold wpY_length
  exact yy_bad g (br_f (by decide) h)
theorem xn_compare {post : Int32 → SX → Prop} {F : Int32} {c l r q s p : Nat → Int32} {x x2 : Int32} (g : rb_bad x) (h : post (-1) (F, c, l, r, q, s, p)) : wpX_compare post (F, c, l, r, q, s, p) x x2 := by
  unfold wpX_compare
  exact xx_noreg g (br_t rfl h)
theorem yn_compare {post : Int32 → Prop} {F : Int32} {y : Nat → Int32} {x x2 : Int32} (g : rb_bad x) (h : post (-1)) : wpY_compare post (F, y) x x2 := by
  unfold wpY_compare
  exact yy_bad g (br_f (by decide) h)
theorem xn_digitIn {post : Int32 → SX → Prop} {F : Int32} {c l r q s p : Nat → Int32} {x x2 x3 : Int32} (g : rb_bad x) (h : post (-1) (F, c, l, r, q, s, p)) : wpX_digitIn post (F, c, l, r, q, s, p) x x2 x3 := by
  unfold wpX_digitIn
  exact xx_noreg g (br_t rfl h)
theorem yn_digitIn {post : Int32 → SY → Prop} {F : Int32} {y : Nat → Int32} {x x2 x3 : Int32} (g : rb_bad x) (h : post (-1) (F, y)) : wpY_digitIn post (F, y) x x2 x3 := by
  unfold wpY_digitIn
  exact yy_bad g (br_f (by decide) h)
theorem xn_lengthIn {post : Int32 → SX → Prop} {F : Int32} {c l r q s p : Nat → Int32} {x x2 : Int32} (g : rb_bad x) (h : post (-1) (F, c, l, r, q, s, p)) : wpX_lengthIn post (F, c, l, r, q, s, p) x x2 := by
  unfold wpX_lengthIn
  exact xx_noreg g (br_t rfl h)
theorem yn_lengthIn {post : Int32 → SY → Prop} {F : Int32} {y : Nat → Int32} {x x2 : Int32} (g : rb_bad x) (h : post (-1) (F, y)) : wpY_lengthIn post (F, y) x x2 := by
  unfold wpY_lengthIn
  exact yy_bad g (br_f (by decide) h)
theorem xn_remainder {post : Int32 → Prop} {F : Int32} {c l r q s p : Nat → Int32} {x x2 : Int32} (g : rb_bad x) (h : post (-1)) : wpX_remainder post (F, c, l, r, q, s, p) x x2 := by
  unfold wpX_remainder
  exact xx_noreg g (br_t rfl h)
theorem yn_remainder {post : Int32 → SY → Prop} {F : Int32} {y : Nat → Int32} {x x2 : Int32} (g : rb_bad x) (h : post (-1) (F, y)) : wpY_remainder post (F, y) x x2 := by
  unfold wpY_remainder
  exact yy_bad g (br_f (by decide) h)
theorem xm_copy {post : Int32 → SX → Prop} {F : Int32} {c l r q s p : Nat → Int32} {a : Nat} {x2 : Int32} (ha : a < 4) (g : rb_bad x2) (h : post (-1) (F, c, l, r, q, s, p)) : wpX_copy post (F, c, l, r, q, s, p) (nI a) x2 := by
  unfold wpX_copy
  exact xx_reg ha (br_f (by decide) (xx_noreg g (br_t rfl h)))
theorem ym_copy {post : Int32 → SY → Prop} {F : Int32} {y : Nat → Int32} {a : Nat} {x2 : Int32} (ha : a < 4) (g : rb_bad x2) (h : post (-1) (F, y)) : wpY_copy post (F, y) (nI a) x2 := by
  unfold wpY_copy
  exact yy_ok ha (br_t rfl (yy_bad g (br_f (by decide) h)))
theorem xm_add {post : Int32 → SX → Prop} {F : Int32} {c l r q s p : Nat → Int32} {a : Nat} {x2 : Int32} (ha : a < 4) (g : rb_bad x2) (h : post (-1) (F, c, l, r, q, s, p)) : wpX_add post (F, c, l, r, q, s, p) (nI a) x2 := by
  unfold wpX_add
  exact xx_reg ha (br_f (by decide) (xx_noreg g (br_t rfl h)))
theorem ym_add {post : Int32 → SY → Prop} {F : Int32} {y : Nat → Int32} {a : Nat} {x2 : Int32} (ha : a < 4) (g : rb_bad x2) (h : post (-1) (F, y)) : wpY_add post (F, y) (nI a) x2 := by
  unfold wpY_add
  exact yy_ok ha (br_t rfl (yy_bad g (br_f (by decide) h)))
theorem xm_subtract {post : Int32 → SX → Prop} {F : Int32} {c l r q s p : Nat → Int32} {a : Nat} {x2 : Int32} (ha : a < 4) (g : rb_bad x2) (h : post (-1) (F, c, l, r, q, s, p)) : wpX_subtract post (F, c, l, r, q, s, p) (nI a) x2 := by
  unfold wpX_subtract
  exact xx_reg ha (br_f (by decide) (xx_noreg g (br_t rfl h)))
theorem ym_subtract {post : Int32 → SY → Prop} {F : Int32} {y : Nat → Int32} {a : Nat} {x2 : Int32} (ha : a < 4) (g : rb_bad x2) (h : post (-1) (F, y)) : wpY_subtract post (F, y) (nI a) x2 := by
  unfold wpY_subtract
  exact yy_ok ha (br_t rfl (yy_bad g (br_f (by decide) h)))
theorem xm_multiply {post : Int32 → SX → Prop} {F : Int32} {c l r q s p : Nat → Int32} {a : Nat} {x2 : Int32} (ha : a < 4) (g : rb_bad x2) (h : post (-1) (F, c, l, r, q, s, p)) : wpX_multiply post (F, c, l, r, q, s, p) (nI a) x2 := by
  unfold wpX_multiply
  exact xx_reg ha (br_f (by decide) (xx_noreg g (br_t rfl h)))
theorem ym_multiply {post : Int32 → SY → Prop} {F : Int32} {y : Nat → Int32} {a : Nat} {x2 : Int32} (ha : a < 4) (g : rb_bad x2) (h : post (-1) (F, y)) : wpY_multiply post (F, y) (nI a) x2 := by
  unfold wpY_multiply
  exact yy_ok ha (br_t rfl (yy_bad g (br_f (by decide) h)))
theorem xm_multiplyLow {post : Int32 → SX → Prop} {F : Int32} {c l r q s p : Nat → Int32} {a : Nat} {x2 : Int32} (ha : a < 4) (g : rb_bad x2) (h : post (-1) (F, c, l, r, q, s, p)) : wpX_multiplyLow post (F, c, l, r, q, s, p) (nI a) x2 := by
  unfold wpX_multiplyLow
  exact xx_reg ha (br_f (by decide) (xx_noreg g (br_t rfl h)))
theorem ym_multiplyLow {post : Int32 → SY → Prop} {F : Int32} {y : Nat → Int32} {a : Nat} {x2 : Int32} (ha : a < 4) (g : rb_bad x2) (h : post (-1) (F, y)) : wpY_multiplyLow post (F, y) (nI a) x2 := by
  unfold wpY_multiplyLow
  exact yy_ok ha (br_t rfl (yy_bad g (br_f (by decide) h)))
theorem xm_divide {post : Int32 → SX → Prop} {F : Int32} {c l r q s p : Nat → Int32} {a : Nat} {x2 x3 : Int32} (ha : a < 4) (g : rb_bad x2) (h : post (-1) (F, c, l, r, q, s, p)) : wpX_divide post (F, c, l, r, q, s, p) (nI a) x2 x3 := by
  unfold wpX_divide
  exact xx_reg ha (br_f (by decide) (xx_noreg g (br_t rfl h)))
theorem ym_divide {post : Int32 → SY → Prop} {F : Int32} {y : Nat → Int32} {a : Nat} {x2 x3 : Int32} (ha : a < 4) (g : rb_bad x2) (h : post (-1) (F, y)) : wpY_divide post (F, y) (nI a) x2 x3 := by
  unfold wpY_divide
  exact yy_ok ha (br_t rfl (yy_bad g (br_f (by decide) h)))
theorem xm_divisor {post : Int32 → SX → Prop} {F : Int32} {c l r q s p : Nat → Int32} {a : Nat} {x2 : Int32} (ha : a < 4) (g : rb_bad x2) (h : post (-1) (F, c, l, r, q, s, p)) : wpX_divisor post (F, c, l, r, q, s, p) (nI a) x2 := by
  unfold wpX_divisor
  exact xx_reg ha (br_f (by decide) (xx_noreg g (br_t rfl h)))
theorem ym_divisor {post : Int32 → SY → Prop} {F : Int32} {y : Nat → Int32} {a : Nat} {x2 : Int32} (ha : a < 4) (g : rb_bad x2) (h : post (-1) (F, y)) : wpY_divisor post (F, y) (nI a) x2 := by
  unfold wpY_divisor
  exact yy_ok ha (br_t rfl (yy_bad g (br_f (by decide) h)))
theorem xm_compare {post : Int32 → SX → Prop} {F : Int32} {c l r q s p : Nat → Int32} {a : Nat} {x2 : Int32} (ha : a < 4) (g : rb_bad x2) (h : post (-1) (F, c, l, r, q, s, p)) : wpX_compare post (F, c, l, r, q, s, p) (nI a) x2 := by
  unfold wpX_compare
  exact xx_reg ha (br_f (by decide) (xx_noreg g (br_t rfl h)))
theorem ym_compare {post : Int32 → Prop} {F : Int32} {y : Nat → Int32} {a : Nat} {x2 : Int32} (ha : a < 4) (g : rb_bad x2) (h : post (-1)) : wpY_compare post (F, y) (nI a) x2 := by
  unfold wpY_compare
  exact yy_ok ha (br_t rfl (yy_bad g (br_f (by decide) h)))
theorem xk_divide {post : Int32 → SX → Prop} {F : Int32} {c l r q s p : Nat → Int32} {a b : Nat} {x : Int32} (ha : a < 4) (hb : b < 4) (g : rb_bad x) (h : post (-1) (F, c, l, r, q, s, p)) : wpX_divide post (F, c, l, r, q, s, p) (nI a) (nI b) x := by
  unfold wpX_divide
  exact xx_reg ha (br_f (by decide) (xx_reg hb (br_f (by decide) (xx_noreg g (br_t rfl h)))))
theorem yk_divide {post : Int32 → SY → Prop} {F : Int32} {y : Nat → Int32} {a b : Nat} {x : Int32} (ha : a < 4) (hb : b < 4) (g : rb_bad x) (h : post (-1) (F, y)) : wpY_divide post (F, y) (nI a) (nI b) x := by
  unfold wpY_divide
  exact yy_ok ha (br_t rfl (yy_ok hb (br_t rfl (yy_bad g (br_f (by decide) h)))))
theorem xe_divide {post : Int32 → SX → Prop} {F : Int32} {c l r q s p : Nat → Int32} {d a b : Nat} (hd : d < 4) (ha : a < 4) (hb : b < 4) (g : d = a ∨ d = b ∨ a = b) (h : post (-2) (F, c, l, r, q, s, p)) : wpX_divide post (F, c, l, r, q, s, p) (nI d) (nI a) (nI b) := by
  unfold wpX_divide
  exact xx_reg hd (br_f (by decide) (xx_reg ha (br_f (by decide) (xx_reg hb (br_f (by decide) ⟨fun _ => h, fun n1 => ⟨fun _ => h, fun n2 => ⟨fun _ => h, fun n3 => (g.elim (fun e => absurd (congrArg nI e) n1) (fun g => g.elim (fun e => absurd (congrArg nI e) n2) (fun e => absurd (congrArg nI e) n3)))⟩⟩⟩)))))
theorem ye_divide {post : Int32 → SY → Prop} {F : Int32} {y : Nat → Int32} {d a b : Nat} (hd : d < 4) (ha : a < 4) (hb : b < 4) (g : d = a ∨ d = b ∨ a = b) (h : post (-2) (F, y)) : wpY_divide post (F, y) (nI d) (nI a) (nI b) := by
  unfold wpY_divide
  exact yy_ok hd (br_t rfl (yy_ok ha (br_t rfl (yy_ok hb (br_t rfl ⟨fun _ => h, fun n1 => ⟨fun _ => h, fun n2 => ⟨fun _ => h, fun n3 => (g.elim (fun e => absurd (congrArg nI e) n1) (fun g => g.elim (fun e => absurd (congrArg nI e) n2) (fun e => absurd (congrArg nI e) n3)))⟩⟩⟩)))))
theorem xo_digit {post : Int32 → Prop} {F : Int32} {c l r q s p : Nat → Int32} {x : Int32} {a : Nat} (ha : a < 4) (g : x < 0 ∨ nI 24 ≤ x) (h : post (-2)) : wpX_digit post (F, c, l, r, q, s, p) (nI a) x := by
  unfold wpX_digit
  exact xx_reg ha (br_f (by decide) (xx_noplace g (br_t rfl h)))
theorem yo_digit {post : Int32 → Prop} {F : Int32} {y : Nat → Int32} {x : Int32} {a : Nat} (ha : a < 4) (g : x < 0 ∨ nI 24 ≤ x) (h : post (-2)) : wpY_digit post (F, y) (nI a) x := by
  unfold wpY_digit
  exact yy_ok ha (br_t rfl (rb_rf (rb_n23 g) h))
theorem xo_set {post : Int32 → SX → Prop} {F : Int32} {c l r q s p : Nat → Int32} {x x3 : Int32} {a : Nat} (ha : a < 4) (g : x < 0 ∨ nI 24 ≤ x) (h : post (-2) (F, c, l, r, q, s, p)) : wpX_set post (F, c, l, r, q, s, p) (nI a) x x3 := by
  unfold wpX_set
  exact xx_reg ha (br_f (by decide) (xx_noplace g (br_t rfl h)))
theorem yo_set {post : Int32 → SY → Prop} {F : Int32} {y : Nat → Int32} {x x3 : Int32} {a : Nat} (ha : a < 4) (g : x < 0 ∨ nI 24 ≤ x) (h : post (-2) (F, y)) : wpY_set post (F, y) (nI a) x x3 := by
  unfold wpY_set
  exact yy_ok ha (br_t rfl (rb_rf (rb_n23 g) h))
theorem xp_set {post : Int32 → SX → Prop} {R : Nat} {c l r q s p : Nat → Int32} {a i : Nat} {x : Int32}  (hR2 : R ≤ 36) (ha : a < 4) (hi : i < 24) (g : x < 0 ∨ nI R ≤ x) (h : post (-3) (nI R, c, l, r, q, s, p)) : wpX_set post (nI R, c, l, r, q, s, p) (nI a) (nI i) x := by
  unfold wpX_set
  exact xx_reg ha (br_f (by decide) (xx_place hi (br_f (by decide) (xx_nodigit g (br_t rfl h)))))
theorem yp_set {post : Int32 → SY → Prop} {R : Nat} {y : Nat → Int32} {a i : Nat} {x : Int32}  (hR2 : R ≤ 36) (ha : a < 4) (hi : i < 24) (g : x < 0 ∨ nI R ≤ x) (h : post (-3) (nI R, y)) : wpY_set post (nI R, y) (nI a) (nI i) x := by
  unfold wpY_set
  exact yy_ok ha (br_t rfl (br_f (nI_pos (by omega)) (br_t (nI_le (b := 23) (by omega) (by decide)) (rb_rf (rb_nR g) h))))
theorem xo_feed {post : Int32 → SX → Prop} {R : Nat} {c l r q s p : Nat → Int32} {a : Nat} {x : Int32}  (hR2 : R ≤ 36) (ha : a < 4) (g : x < 0 ∨ nI R ≤ x) (h : post (-2) (nI R, c, l, r, q, s, p)) : wpX_feed post (nI R, c, l, r, q, s, p) (nI a) x := by
  unfold wpX_feed
  exact xx_reg ha (br_f (by decide) (xx_nodigit g (br_t rfl h)))
theorem yo_feed {post : Int32 → SY → Prop} {R : Nat} {y : Nat → Int32} {a : Nat} {x : Int32}  (hR2 : R ≤ 36) (ha : a < 4) (g : x < 0 ∨ nI R ≤ x) (h : post (-2) (nI R, y)) : wpY_feed post (nI R, y) (nI a) x := by
  unfold wpY_feed
  exact yy_ok ha (br_t rfl (rb_rf (rb_nR g) h))
theorem xo_shift {post : Int32 → SX → Prop} {F : Int32} {c l r q s p : Nat → Int32} {x : Int32} {a : Nat} (ha : a < 4) (g : x < -24 ∨ ¬ x ≤ 24) (h : post (-2) (F, c, l, r, q, s, p)) : wpX_shift post (F, c, l, r, q, s, p) (nI a) x := by
  unfold wpX_shift
  exact xx_reg ha (br_f (by decide) (rb_rf g h))
theorem yo_shift {post : Int32 → SY → Prop} {F : Int32} {y : Nat → Int32} {x : Int32} {a : Nat} (ha : a < 4) (g : x < -24 ∨ ¬ x ≤ 24) (h : post (-2) (F, y)) : wpY_shift post (F, y) (nI a) x := by
  unfold wpY_shift
  exact yy_ok ha (br_t rfl (rb_rf g h))
theorem xo_power {post : Int32 → SX → Prop} {F : Int32} {c l r q s p : Nat → Int32} {x : Int32} {a : Nat} (ha : a < 4) (g : x < 0 ∨ 100 < x) (h : post (-2) (F, c, l, r, q, s, p)) : wpX_power post (F, c, l, r, q, s, p) (nI a) x := by
  unfold wpX_power
  exact xx_reg ha (br_f (by decide) (rb_rf (g.imp id Int32.not_le.mpr) h))
theorem yo_power {post : Int32 → SY → Prop} {F : Int32} {y : Nat → Int32} {x : Int32} {a : Nat} (ha : a < 4) (g : x < 0 ∨ 100 < x) (h : post (-2) (F, y)) : wpY_power post (F, y) (nI a) x := by
  unfold wpY_power
  exact yy_ok ha (br_t rfl (rb_rf (g.imp id Int32.not_le.mpr) h))
theorem xo_remainder {post : Int32 → Prop} {F : Int32} {c l r q s p : Nat → Int32} {x : Int32} {a : Nat} (ha : a < 4) (g : x < 1 ∨ 1000000 < x) (h : post (-2)) : wpX_remainder post (F, c, l, r, q, s, p) (nI a) x := by
  unfold wpX_remainder
  exact xx_reg ha (br_f (by decide) (rb_rf (g.imp id Int32.not_le.mpr) h))
theorem yo_remainder {post : Int32 → SY → Prop} {F : Int32} {y : Nat → Int32} {x : Int32} {a : Nat} (ha : a < 4) (g : x < 1 ∨ 1000000 < x) (h : post (-2) (F, y)) : wpY_remainder post (F, y) (nI a) x := by
  unfold wpY_remainder
  exact yy_ok ha (br_t rfl (rb_rf (g.imp id Int32.not_le.mpr) h))
theorem xo_lengthIn {post : Int32 → SX → Prop} {F : Int32} {c l r q s p : Nat → Int32} {x : Int32} {a : Nat} (ha : a < 4) (g : x < 2 ∨ 36 < x) (h : post (-2) (F, c, l, r, q, s, p)) : wpX_lengthIn post (F, c, l, r, q, s, p) (nI a) x := by
  unfold wpX_lengthIn
  exact xx_reg ha (br_f (by decide) (xx_noradix g (br_t rfl h)))
theorem yo_lengthIn {post : Int32 → SY → Prop} {F : Int32} {y : Nat → Int32} {x : Int32} {a : Nat} (ha : a < 4) (g : x < 2 ∨ 36 < x) (h : post (-2) (F, y)) : wpY_lengthIn post (F, y) (nI a) x := by
  unfold wpY_lengthIn
  exact yy_ok ha (br_t rfl (rb_rf (g.imp id Int32.not_le.mpr) h))
theorem xo_digitIn {post : Int32 → SX → Prop} {F : Int32} {c l r q s p : Nat → Int32} {x x3 : Int32} {a : Nat} (ha : a < 4) (g : x < 2 ∨ 36 < x) (h : post (-2) (F, c, l, r, q, s, p)) : wpX_digitIn post (F, c, l, r, q, s, p) (nI a) x x3 := by
  unfold wpX_digitIn
  exact xx_reg ha (br_f (by decide) (xx_noradix g (br_t rfl h)))
theorem yo_digitIn {post : Int32 → SY → Prop} {F : Int32} {y : Nat → Int32} {x x3 : Int32} {a : Nat} (ha : a < 4) (g : x < 2 ∨ 36 < x) (h : post (-2) (F, y)) : wpY_digitIn post (F, y) (nI a) x x3 := by
  unfold wpY_digitIn
  exact yy_ok ha (br_t rfl (rb_rf (g.imp id Int32.not_le.mpr) h))
theorem xp_digitIn {post : Int32 → SX → Prop} {F : Int32} {c l r q s p : Nat → Int32} {a o : Nat} {x : Int32} (ha : a < 4) (ho : 2 ≤ o) (ho2 : o ≤ 36) (g : x < 0 ∨ 127 < x) (h : post (-3) (F, c, l, r, q, s, p)) : wpX_digitIn post (F, c, l, r, q, s, p) (nI a) (nI o) x := by
  unfold wpX_digitIn
  exact xx_reg ha (br_f (by decide) (xx_radix ho ho2 (br_f (by decide) (rb_rf (g.imp id rb_le127) h))))
theorem yp_digitIn {post : Int32 → SY → Prop} {F : Int32} {y : Nat → Int32} {a o : Nat} {x : Int32} (ha : a < 4) (ho : 2 ≤ o) (ho2 : o ≤ 36) (g : x < 0 ∨ 127 < x) (h : post (-3) (F, y)) : wpY_digitIn post (F, y) (nI a) (nI o) x := by
  unfold wpY_digitIn
  exact yy_ok ha (br_t rfl (br_f (nI_nlt (b := 2) ho (by omega)) (br_t (nI_le (b := 36) ho2 (by decide)) (rb_rf (g.imp id Int32.not_le.mpr) h))))
end
section
def i_Rel (_ : Nat) (u : SX) (v : SY) : Prop := ∃ (R : Nat) (V : Nat → Nat) (c l r q s p y : Nat → Int32), u = (nI R, c, l, r, q, s, p) ∧ v = (nI R, y) ∧ 2 ≤ R ∧ R ≤ 36 ∧ rb_B R V ∧ rb_X R V c ∧ rb_Y R V y
theorem rb_rel {R : Nat} {V : Nat → Nat} {c l r q s p y : Nat → Int32} (k : Nat) (hR : 2 ≤ R) (hR2 : R ≤ 36) (hB : rb_B R V) (hX : rb_X R V c) (hY : rb_Y R V y) : i_Rel k (nI R, c, l, r, q, s, p) (nI R, y) :=
  ⟨R, V, c, l, r, q, s, p, y, rfl, rfl, hR, hR2, hB, hX, hY⟩
theorem i_vc_radix {k : Nat} {u : SX} {v : SY} (I : i_Rel k u v) (hk : k + 4 ≤ 2049) : wpX_radix (fun r => wpY_radix (fun r' => r' = r ∧ i_Rel (k + 4) u v) v) u := by
  obtain ⟨R, V, c, l, r, q, s, p, y, rfl, rfl, hR, hR2, hB, hX, hY⟩ := I
  exact ⟨rfl, rb_rel _ hR hR2 hB hX hY⟩
theorem i_vc_add {k : Nat} {u : SX} {v : SY} (I : i_Rel k u v) (hk : k + 4 ≤ 2049) (v1 : Int32) (v2 : Int32) : wpX_add (fun r u' => wpY_add (fun r' v' => r' = r ∧ i_Rel (k + 4) u' v') v v1 v2) u v1 v2 := by
  obtain ⟨R, V, c, l, r, q, s, p, y, rfl, rfl, hR, hR2, hB, hX, hY⟩ := I
  rcases rb_reg v1 with g1 | ⟨a, ha, rfl⟩
  · exact xn_add g1 (yn_add g1 ⟨rfl, rb_rel _ hR hR2 hB hX hY⟩)
  · rcases rb_reg v2 with g2 | ⟨b, hb, rfl⟩
    · exact xm_add ha g2 (ym_add ha g2 ⟨rfl, rb_rel _ hR hR2 hB hX hY⟩)
    · refine xx_add hR hR2 hB hX ha hb (fun z c1 l1 r1 q1 s1 p1 hX1 => ?_) (fun z c1 l1 r1 q1 s1 p1 hX1 => ?_)
      · exact yy_add hR hR2 hB hY ha hb (fun _ y1 hY1 => ⟨rfl, rb_rel _ hR hR2 (rb_Bs hB z) hX1 hY1⟩) (fun z2 => absurd z2 (by omega))
      · exact yy_add hR hR2 hB hY ha hb (fun z2 => absurd z2 (by omega)) (fun _ y1 hY1 => ⟨rfl, rb_rel _ hR hR2 hB hX1 hY1⟩)
theorem i_vc_subtract {k : Nat} {u : SX} {v : SY} (I : i_Rel k u v) (hk : k + 4 ≤ 2049) (v1 : Int32) (v2 : Int32) : wpX_subtract (fun r u' => wpY_subtract (fun r' v' => r' = r ∧ i_Rel (k + 4) u' v') v v1 v2) u v1 v2 := by
  obtain ⟨R, V, c, l, r, q, s, p, y, rfl, rfl, hR, hR2, hB, hX, hY⟩ := I
  rcases rb_reg v1 with g1 | ⟨a, ha, rfl⟩
  · exact xn_subtract g1 (yn_subtract g1 ⟨rfl, rb_rel _ hR hR2 hB hX hY⟩)
  · rcases rb_reg v2 with g2 | ⟨b, hb, rfl⟩
    · exact xm_subtract ha g2 (ym_subtract ha g2 ⟨rfl, rb_rel _ hR hR2 hB hX hY⟩)
    · refine xx_subtract hR hR2 hB hX ha hb (fun z c1 l1 r1 q1 s1 p1 hX1 => ?_) (fun z c1 l1 r1 q1 s1 p1 hX1 => ?_)
      · exact yy_subtract hR hR2 hB hY ha hb (fun _ y1 hY1 => ⟨rfl, rb_rel _ hR hR2 (rb_Bs hB (Nat.lt_of_le_of_lt (Nat.sub_le _ _) (hB a ha))) hX1 hY1⟩) (fun z2 => absurd z2 (by omega))
      · exact yy_subtract hR hR2 hB hY ha hb (fun z2 => absurd z2 (by omega)) (fun _ y1 hY1 => ⟨rfl, rb_rel _ hR hR2 hB hX1 hY1⟩)
theorem i_vc_multiply {k : Nat} {u : SX} {v : SY} (I : i_Rel k u v) (hk : k + 4 ≤ 2049) (v1 : Int32) (v2 : Int32) : wpX_multiply (fun r u' => wpY_multiply (fun r' v' => r' = r ∧ i_Rel (k + 4) u' v') v v1 v2) u v1 v2 := by
  obtain ⟨R, V, c, l, r, q, s, p, y, rfl, rfl, hR, hR2, hB, hX, hY⟩ := I
  rcases rb_reg v1 with g1 | ⟨a, ha, rfl⟩
  · exact xn_multiply g1 (yn_multiply g1 ⟨rfl, rb_rel _ hR hR2 hB hX hY⟩)
  · rcases rb_reg v2 with g2 | ⟨b, hb, rfl⟩
    · exact xm_multiply ha g2 (ym_multiply ha g2 ⟨rfl, rb_rel _ hR hR2 hB hX hY⟩)
    · refine xx_multiply hR hR2 hB hX ha hb (fun z c1 l1 r1 q1 s1 p1 hX1 => ?_) (fun z c1 l1 r1 q1 s1 p1 hX1 => ?_)
      · exact yy_multiply hR hR2 hB hY ha hb (fun _ y1 hY1 => ⟨rfl, rb_rel _ hR hR2 (rb_Bs hB z) hX1 hY1⟩) (fun z2 => absurd z2 (Nat.not_le.mpr z))
      · exact yy_multiply hR hR2 hB hY ha hb (fun z2 => absurd z2 (Nat.not_lt.mpr z)) (fun _ y1 hY1 => ⟨rfl, rb_rel _ hR hR2 hB hX1 hY1⟩)
theorem i_vc_multiplyLow {k : Nat} {u : SX} {v : SY} (I : i_Rel k u v) (hk : k + 4 ≤ 2049) (v1 : Int32) (v2 : Int32) : wpX_multiplyLow (fun r u' => wpY_multiplyLow (fun r' v' => r' = r ∧ i_Rel (k + 4) u' v') v v1 v2) u v1 v2 := by
  obtain ⟨R, V, c, l, r, q, s, p, y, rfl, rfl, hR, hR2, hB, hX, hY⟩ := I
  rcases rb_reg v1 with g1 | ⟨a, ha, rfl⟩
  · exact xn_multiplyLow g1 (yn_multiplyLow g1 ⟨rfl, rb_rel _ hR hR2 hB hX hY⟩)
  · rcases rb_reg v2 with g2 | ⟨b, hb, rfl⟩
    · exact xm_multiplyLow ha g2 (ym_multiplyLow ha g2 ⟨rfl, rb_rel _ hR hR2 hB hX hY⟩)
    · refine xx_multiplyLow hR hR2 hB hX ha hb (fun z c1 l1 r1 q1 s1 p1 hX1 => ?_) (fun z c1 l1 r1 q1 s1 p1 hX1 => ?_)
      · exact yy_multiplyLow hR hR2 hB hY ha hb (fun _ y1 hY1 => ⟨rfl, rb_rel _ hR hR2 (rb_Bs hB (Nat.mod_lt _ (rb_pp hR 24))) hX1 hY1⟩) (fun z2 => absurd z2 (Nat.not_le.mpr z))
      · exact yy_multiplyLow hR hR2 hB hY ha hb (fun z2 => absurd z2 (Nat.not_lt.mpr z)) (fun _ y1 hY1 => ⟨rfl, rb_rel _ hR hR2 (rb_Bs hB (Nat.mod_lt _ (rb_pp hR 24))) hX1 hY1⟩)
theorem i_vc_copy {k : Nat} {u : SX} {v : SY} (I : i_Rel k u v) (hk : k + 4 ≤ 2049) (v1 : Int32) (v2 : Int32) : wpX_copy (fun r u' => wpY_copy (fun r' v' => r' = r ∧ i_Rel (k + 4) u' v') v v1 v2) u v1 v2 := by
  obtain ⟨R, V, c, l, r, q, s, p, y, rfl, rfl, hR, hR2, hB, hX, hY⟩ := I
  rcases rb_reg v1 with g1 | ⟨a, ha, rfl⟩
  · exact xn_copy g1 (yn_copy g1 ⟨rfl, rb_rel _ hR hR2 hB hX hY⟩)
  · rcases rb_reg v2 with g2 | ⟨b, hb, rfl⟩
    · exact xm_copy ha g2 (ym_copy ha g2 ⟨rfl, rb_rel _ hR hR2 hB hX hY⟩)
    · exact xx_copy hR hB hX ha hb (fun c1 l1 r1 q1 s1 p1 hX1 => yy_copy hY ha hb (fun y1 hY1 => ⟨rfl, rb_rel _ hR hR2 (rb_Bs hB (hB b hb)) hX1 hY1⟩))
theorem i_vc_compare {k : Nat} {u : SX} {v : SY} (I : i_Rel k u v) (hk : k + 4 ≤ 2049) (v1 : Int32) (v2 : Int32) : wpX_compare (fun r u' => wpY_compare (fun r' => r' = r ∧ i_Rel (k + 4) u' v) v v1 v2) u v1 v2 := by
  obtain ⟨R, V, c, l, r, q, s, p, y, rfl, rfl, hR, hR2, hB, hX, hY⟩ := I
  rcases rb_reg v1 with g1 | ⟨a, ha, rfl⟩
  · exact xn_compare g1 (yn_compare g1 ⟨rfl, rb_rel _ hR hR2 hB hX hY⟩)
  · rcases rb_reg v2 with g2 | ⟨b, hb, rfl⟩
    · exact xm_compare ha g2 (ym_compare ha g2 ⟨rfl, rb_rel _ hR hR2 hB hX hY⟩)
    · refine xx_compare hR hR2 hB hX ha hb (fun z c1 l1 r1 q1 s1 p1 hX1 => ?_) (fun z c1 l1 r1 q1 s1 p1 hX1 => ?_) (fun z c1 l1 r1 q1 s1 p1 hX1 => ?_)
      · exact yy_compare hR hR2 hB hY ha hb (fun _ => ⟨rfl, rb_rel _ hR hR2 hB hX1 hY⟩) (fun z2 => absurd z2 (by omega)) (fun z2 => absurd z2 (by omega))
      · exact yy_compare hR hR2 hB hY ha hb (fun z2 => absurd z2 (by omega)) (fun _ => ⟨rfl, rb_rel _ hR hR2 hB hX1 hY⟩) (fun z2 => absurd z2 (by omega))
      · exact yy_compare hR hR2 hB hY ha hb (fun z2 => absurd z2 (by omega)) (fun z2 => absurd z2 (by omega)) (fun _ => ⟨rfl, rb_rel _ hR hR2 hB hX1 hY⟩)
theorem i_vc_divisor {k : Nat} {u : SX} {v : SY} (I : i_Rel k u v) (hk : k + 4 ≤ 2049) (v1 : Int32) (v2 : Int32) : wpX_divisor (fun r u' => wpY_divisor (fun r' v' => r' = r ∧ i_Rel (k + 4) u' v') v v1 v2) u v1 v2 := by
  obtain ⟨R, V, c, l, r, q, s, p, y, rfl, rfl, hR, hR2, hB, hX, hY⟩ := I
  rcases rb_reg v1 with g1 | ⟨a, ha, rfl⟩
  · exact xn_divisor g1 (yn_divisor g1 ⟨rfl, rb_rel _ hR hR2 hB hX hY⟩)
  · rcases rb_reg v2 with g2 | ⟨b, hb, rfl⟩
    · exact xm_divisor ha g2 (ym_divisor ha g2 ⟨rfl, rb_rel _ hR hR2 hB hX hY⟩)
    · have gb : Nat.gcd (V a) (V b) < R ^ 24 := by
        by_cases z : V a = 0
        · rw [z, Nat.gcd_zero_left]
          exact hB b hb
        · exact Nat.lt_of_le_of_lt (Nat.gcd_le_left _ (Nat.pos_of_ne_zero z)) (hB a ha)
      exact xx_divisor hR hR2 hB hX ha hb (fun c1 l1 r1 q1 s1 p1 hX1 => yy_divisor hR hR2 hB hY ha hb (fun y1 hY1 => ⟨rfl, rb_rel _ hR hR2 (rb_Bs hB gb) hX1 hY1⟩))
theorem i_vc_root {k : Nat} {u : SX} {v : SY} (I : i_Rel k u v) (hk : k + 4 ≤ 2049) (v1 : Int32) : wpX_root (fun r u' => wpY_root (fun r' v' => r' = r ∧ i_Rel (k + 4) u' v') v v1) u v1 := by
  obtain ⟨R, V, c, l, r, q, s, p, y, rfl, rfl, hR, hR2, hB, hX, hY⟩ := I
  rcases rb_reg v1 with g1 | ⟨a, ha, rfl⟩
  · exact xn_root g1 (yn_root g1 ⟨rfl, rb_rel _ hR hR2 hB hX hY⟩)
  · obtain ⟨t, h1, h2⟩ := rb_sq (V a)
    have tb : t < R ^ 24 := Nat.lt_of_lt_of_le (rb_sqb (hB a ha) h1) (rb_pm hR (by omega))
    exact xx_root hR hR2 hB hX ha h1 h2 (fun c1 l1 r1 q1 s1 p1 hX1 => yy_root hR hR2 hB hY ha h1 h2 (fun y1 hY1 => ⟨rfl, rb_rel _ hR hR2 (rb_Bs hB tb) hX1 hY1⟩))
theorem i_vc_length {k : Nat} {u : SX} {v : SY} (I : i_Rel k u v) (hk : k + 4 ≤ 2049) (v1 : Int32) : wpX_length (fun r => wpY_length (fun r' => r' = r ∧ i_Rel (k + 4) u v) v v1) u v1 := by
  obtain ⟨R, V, c, l, r, q, s, p, y, rfl, rfl, hR, hR2, hB, hX, hY⟩ := I
  rcases rb_reg v1 with g1 | ⟨a, ha, rfl⟩
  · exact xn_length g1 (yn_length g1 ⟨rfl, rb_rel _ hR hR2 hB hX hY⟩)
  · exact xx_length hR hR2 hX ha (fun n n1 n2 n3 => yy_length hR hR2 hY ha (fun m m1 m2 m3 => ⟨congrArg nI (rb_lnu m1 n1 m2 m3 n2 n3), rb_rel _ hR hR2 hB hX hY⟩))
theorem i_vc_digit {k : Nat} {u : SX} {v : SY} (I : i_Rel k u v) (hk : k + 4 ≤ 2049) (v1 : Int32) (v2 : Int32) : wpX_digit (fun r => wpY_digit (fun r' => r' = r ∧ i_Rel (k + 4) u v) v v1 v2) u v1 v2 := by
  obtain ⟨R, V, c, l, r, q, s, p, y, rfl, rfl, hR, hR2, hB, hX, hY⟩ := I
  rcases rb_reg v1 with g1 | ⟨a, ha, rfl⟩
  · exact xn_digit g1 (yn_digit g1 ⟨rfl, rb_rel _ hR hR2 hB hX hY⟩)
  · rcases pk_ix v2 (n := 24) (by decide) with g | g | ⟨i, hi, rfl⟩
    · exact xo_digit ha (Or.inl g) (yo_digit ha (Or.inl g) ⟨rfl, rb_rel _ hR hR2 hB hX hY⟩)
    · exact xo_digit ha (Or.inr g) (yo_digit ha (Or.inr g) ⟨rfl, rb_rel _ hR hR2 hB hX hY⟩)
    · exact xx_digitAt hX ha hi (yy_digitAt hY ha hi ⟨rfl, rb_rel _ hR hR2 hB hX hY⟩)
theorem i_vc_set {k : Nat} {u : SX} {v : SY} (I : i_Rel k u v) (hk : k + 4 ≤ 2049) (v1 : Int32) (v2 : Int32) (v3 : Int32) : wpX_set (fun r u' => wpY_set (fun r' v' => r' = r ∧ i_Rel (k + 4) u' v') v v1 v2 v3) u v1 v2 v3 := by
  obtain ⟨R, V, c, l, r, q, s, p, y, rfl, rfl, hR, hR2, hB, hX, hY⟩ := I
  rcases rb_reg v1 with g1 | ⟨a, ha, rfl⟩
  · exact xn_set g1 (yn_set g1 ⟨rfl, rb_rel _ hR hR2 hB hX hY⟩)
  · rcases rb_ix24 v2 with g | ⟨i, hi, rfl⟩
    · exact xo_set ha g (yo_set ha g ⟨rfl, rb_rel _ hR hR2 hB hX hY⟩)
    · rcases rb_ixR v3 hR2 with g | ⟨d, hd, rfl⟩
      · exact xp_set hR2 ha hi g (yp_set hR2 ha hi g ⟨rfl, rb_rel _ hR hR2 hB hX hY⟩)
      · obtain ⟨n, n1, n2⟩ := rb_set hR (hB a ha) hi hd
        exact xx_set hR2 hX ha hi hd n2 (fun c1 l1 r1 q1 s1 p1 hX1 => yy_set hR2 hY ha hi hd n2 (fun y1 hY1 => ⟨rfl, rb_rel _ hR hR2 (rb_Bs hB n1) hX1 hY1⟩))
theorem i_vc_feed {k : Nat} {u : SX} {v : SY} (I : i_Rel k u v) (hk : k + 4 ≤ 2049) (v1 : Int32) (v2 : Int32) : wpX_feed (fun r u' => wpY_feed (fun r' v' => r' = r ∧ i_Rel (k + 4) u' v') v v1 v2) u v1 v2 := by
  obtain ⟨R, V, c, l, r, q, s, p, y, rfl, rfl, hR, hR2, hB, hX, hY⟩ := I
  rcases rb_reg v1 with g1 | ⟨a, ha, rfl⟩
  · exact xn_feed g1 (yn_feed g1 ⟨rfl, rb_rel _ hR hR2 hB hX hY⟩)
  · rcases rb_ixR v2 hR2 with g | ⟨d, hd, rfl⟩
    · exact xo_feed hR2 ha g (yo_feed hR2 ha g ⟨rfl, rb_rel _ hR hR2 hB hX hY⟩)
    · exact xx_feed hR hR2 hB hX ha hd (fun c1 l1 r1 q1 s1 p1 hX1 => yy_feed hR hR2 hB hY ha hd (fun y1 hY1 => ⟨rfl, rb_rel _ hR hR2 (rb_Bs hB (Nat.mod_lt _ (rb_pp hR 24))) hX1 hY1⟩))
theorem i_vc_shift {k : Nat} {u : SX} {v : SY} (I : i_Rel k u v) (hk : k + 4 ≤ 2049) (v1 : Int32) (v2 : Int32) : wpX_shift (fun r u' => wpY_shift (fun r' v' => r' = r ∧ i_Rel (k + 4) u' v') v v1 v2) u v1 v2 := by
  obtain ⟨R, V, c, l, r, q, s, p, y, rfl, rfl, hR, hR2, hB, hX, hY⟩ := I
  rcases rb_reg v1 with g1 | ⟨a, ha, rfl⟩
  · exact xn_shift g1 (yn_shift g1 ⟨rfl, rb_rel _ hR hR2 hB hX hY⟩)
  · by_cases g1 : v2 < -24
    · exact xo_shift ha (Or.inl g1) (yo_shift ha (Or.inl g1) ⟨rfl, rb_rel _ hR hR2 hB hX hY⟩)
    · by_cases g2 : v2 ≤ 24
      · obtain ⟨n, n1, n2⟩ := rb_shN (v := V a) hR v2
        exact xx_shift hR hR2 hB hX ha g1 g2 n2 (fun c1 l1 r1 q1 s1 p1 hX1 => yy_shift hR hR2 hY ha g1 g2 n1 n2 (fun y1 hY1 => ⟨rfl, rb_rel _ hR hR2 (rb_Bs hB n1) hX1 hY1⟩))
      · exact xo_shift ha (Or.inr g2) (yo_shift ha (Or.inr g2) ⟨rfl, rb_rel _ hR hR2 hB hX hY⟩)
theorem i_vc_power {k : Nat} {u : SX} {v : SY} (I : i_Rel k u v) (hk : k + 4 ≤ 2049) (v1 : Int32) (v2 : Int32) : wpX_power (fun r u' => wpY_power (fun r' v' => r' = r ∧ i_Rel (k + 4) u' v') v v1 v2) u v1 v2 := by
  obtain ⟨R, V, c, l, r, q, s, p, y, rfl, rfl, hR, hR2, hB, hX, hY⟩ := I
  rcases rb_reg v1 with g1 | ⟨a, ha, rfl⟩
  · exact xn_power g1 (yn_power g1 ⟨rfl, rb_rel _ hR hR2 hB hX hY⟩)
  · rcases rb_ix101 v2 with g | ⟨n, hn, rfl⟩
    · exact xo_power ha g (yo_power ha g ⟨rfl, rb_rel _ hR hR2 hB hX hY⟩)
    · refine xx_power hR hR2 hB hX ha hn (fun z c1 l1 r1 q1 s1 p1 hX1 => ?_) (fun z c1 l1 r1 q1 s1 p1 hX1 => ?_)
      · exact yy_power hR hR2 hB hY ha hn (fun _ y1 hY1 => ⟨rfl, rb_rel _ hR hR2 (rb_Bs hB (z n (Nat.le_refl n))) hX1 hY1⟩) (fun ⟨j, j1, j2⟩ => absurd j2 (Nat.not_le.mpr (z j j1)))
      · obtain ⟨j, j1, j2⟩ := z
        exact yy_power hR hR2 hB hY ha hn (fun z2 => absurd j2 (Nat.not_le.mpr (z2 j j1))) (fun _ y1 hY1 => ⟨rfl, rb_rel _ hR hR2 hB hX1 hY1⟩)
theorem i_vc_digitIn {k : Nat} {u : SX} {v : SY} (I : i_Rel k u v) (hk : k + 4 ≤ 2049) (v1 : Int32) (v2 : Int32) (v3 : Int32) : wpX_digitIn (fun r u' => wpY_digitIn (fun r' v' => r' = r ∧ i_Rel (k + 4) u' v') v v1 v2 v3) u v1 v2 v3 := by
  obtain ⟨R, V, c, l, r, q, s, p, y, rfl, rfl, hR, hR2, hB, hX, hY⟩ := I
  rcases rb_reg v1 with g1 | ⟨a, ha, rfl⟩
  · exact xn_digitIn g1 (yn_digitIn g1 ⟨rfl, rb_rel _ hR hR2 hB hX hY⟩)
  · rcases rb_ixO v2 with g | ⟨o, ho, ho2, rfl⟩
    · exact xo_digitIn ha g (yo_digitIn ha g ⟨rfl, rb_rel _ hR hR2 hB hX hY⟩)
    · rcases rb_ix128 v3 with g | ⟨i, hi, rfl⟩
      · exact xp_digitIn ha ho ho2 g (yp_digitIn ha ho ho2 g ⟨rfl, rb_rel _ hR hR2 hB hX hY⟩)
      · exact xx_digitIn hR hR2 hB hX ha ho ho2 hi (fun c1 l1 r1 q1 s1 p1 hX1 => yy_digitIn hR hR2 hB hY ha ho ho2 hi (fun y1 hY1 => ⟨rfl, rb_rel _ hR hR2 hB hX1 hY1⟩))
theorem i_vc_lengthIn {k : Nat} {u : SX} {v : SY} (I : i_Rel k u v) (hk : k + 4 ≤ 2049) (v1 : Int32) (v2 : Int32) : wpX_lengthIn (fun r u' => wpY_lengthIn (fun r' v' => r' = r ∧ i_Rel (k + 4) u' v') v v1 v2) u v1 v2 := by
  obtain ⟨R, V, c, l, r, q, s, p, y, rfl, rfl, hR, hR2, hB, hX, hY⟩ := I
  rcases rb_reg v1 with g1 | ⟨a, ha, rfl⟩
  · exact xn_lengthIn g1 (yn_lengthIn g1 ⟨rfl, rb_rel _ hR hR2 hB hX hY⟩)
  · rcases rb_ixO v2 with g | ⟨o, ho, ho2, rfl⟩
    · exact xo_lengthIn ha g (yo_lengthIn ha g ⟨rfl, rb_rel _ hR hR2 hB hX hY⟩)
    · exact xx_lengthIn hR hR2 hB hX ha ho ho2 (fun n n1 n2 n3 c1 l1 r1 q1 s1 p1 hX1 => yy_lengthIn hR hR2 hB hY ha ho ho2 (fun m m1 m2 m3 y1 hY1 => ⟨congrArg nI (rb_liu m1 n1 m2 m3 n2 n3), rb_rel _ hR hR2 hB hX1 hY1⟩))
theorem i_vc_remainder {k : Nat} {u : SX} {v : SY} (I : i_Rel k u v) (hk : k + 4 ≤ 2049) (v1 : Int32) (v2 : Int32) : wpX_remainder (fun r => wpY_remainder (fun r' v' => r' = r ∧ i_Rel (k + 4) u v') v v1 v2) u v1 v2 := by
  obtain ⟨R, V, c, l, r, q, s, p, y, rfl, rfl, hR, hR2, hB, hX, hY⟩ := I
  rcases rb_reg v1 with g1 | ⟨a, ha, rfl⟩
  · exact xn_remainder g1 (yn_remainder g1 ⟨rfl, rb_rel _ hR hR2 hB hX hY⟩)
  · rcases rb_ixM v2 with g | ⟨m, hm, hm2, rfl⟩
    · exact xo_remainder ha g (yo_remainder ha g ⟨rfl, rb_rel _ hR hR2 hB hX hY⟩)
    · exact xx_remainder hR hR2 hB hX ha hm hm2 (yy_remainder hR hR2 hB hY ha hm hm2 (fun y1 hY1 => ⟨rfl, rb_rel _ hR hR2 hB hX hY1⟩))
theorem i_vc_divide {k : Nat} {u : SX} {v : SY} (I : i_Rel k u v) (hk : k + 4 ≤ 2049) (v1 : Int32) (v2 : Int32) (v3 : Int32) : wpX_divide (fun r u' => wpY_divide (fun r' v' => r' = r ∧ i_Rel (k + 4) u' v') v v1 v2 v3) u v1 v2 v3 := by
  obtain ⟨R, V, c, l, r, q, s, p, y, rfl, rfl, hR, hR2, hB, hX, hY⟩ := I
  rcases rb_reg v1 with g1 | ⟨d, hd, rfl⟩
  · exact xn_divide g1 (yn_divide g1 ⟨rfl, rb_rel _ hR hR2 hB hX hY⟩)
  · rcases rb_reg v2 with g2 | ⟨a, ha, rfl⟩
    · exact xm_divide hd g2 (ym_divide hd g2 ⟨rfl, rb_rel _ hR hR2 hB hX hY⟩)
    · rcases rb_reg v3 with g3 | ⟨b, hb, rfl⟩
      · exact xk_divide hd ha g3 (yk_divide hd ha g3 ⟨rfl, rb_rel _ hR hR2 hB hX hY⟩)
      · by_cases n1 : d = a
        · exact xe_divide hd ha hb (Or.inl n1) (ye_divide hd ha hb (Or.inl n1) ⟨rfl, rb_rel _ hR hR2 hB hX hY⟩)
        · by_cases n2 : d = b
          · exact xe_divide hd ha hb (Or.inr (Or.inl n2)) (ye_divide hd ha hb (Or.inr (Or.inl n2)) ⟨rfl, rb_rel _ hR hR2 hB hX hY⟩)
          · by_cases n3 : a = b
            · exact xe_divide hd ha hb (Or.inr (Or.inr n3)) (ye_divide hd ha hb (Or.inr (Or.inr n3)) ⟨rfl, rb_rel _ hR hR2 hB hX hY⟩)
            · refine xx_divide hR hR2 hB hX hd ha hb n1 n2 n3 (fun z c1 l1 r1 q1 s1 p1 hX1 => ?_) (fun z c1 l1 r1 q1 s1 p1 hX1 => ?_)
              · have b1 : V a / V b < R ^ 24 := Nat.lt_of_le_of_lt (Nat.div_le_self _ _) (hB a ha)
                have b2 : V a % V b < R ^ 24 := Nat.lt_of_le_of_lt (Nat.mod_le _ _) (hB a ha)
                exact yy_divide hR hR2 hB hY hd ha hb n1 n2 n3 (fun _ y1 hY1 => ⟨rfl, rb_rel _ hR hR2 (rb_Bs (rb_Bs hB b1) b2) hX1 hY1⟩) (fun z2 => absurd z2 z)
              · exact yy_divide hR hR2 hB hY hd ha hb n1 n2 n3 (fun z2 => absurd z z2) (fun _ y1 hY1 => ⟨rfl, rb_rel _ hR hR2 hB hX1 hY1⟩)
end
section
theorem i_up {k : Nat} {u : SX} {v : SY} (h : i_Rel k u v) : i_Rel (k + 4) u v := h
theorem rb_new {R : Nat} (hR : 2 ≤ R) (hR2 : R ≤ 36) : i_Rel 1 (nI R, fun _ => 0, fun _ => 0, fun _ => 0, fun _ => 0, fun _ => 0, fun _ => 0) (nI R, fun _ => 0) :=
  rb_rel (V := fun _ => 0) 1 hR hR2 (fun _ _ => rb_pp hR 24) (fun _ _ => rb_Hz (fun _ _ => rfl)) (fun _ _ => rb_Hz (fun _ _ => rfl))
theorem i_vc0 (k0 : Int32) : wpX_init (fun u => wpY_init (fun v => i_Rel 1 u v) k0) k0 := by
  rcases rb_ixO k0 with g | ⟨o, h1, h2, rfl⟩
  · by_cases z : k0 < 2
    · exact br_f (Int32.not_le.mpr z) (br_f (Int32.not_le.mpr z) (rb_new (R := 2) (by decide) (by decide)))
    · have z2 : (2 : Int32) ≤ k0 := Int32.not_lt.mp z
      have z3 : ¬ k0 ≤ 36 := Int32.not_le.mpr (g.resolve_left z)
      exact br_t z2 (br_f z3 (br_t z2 (br_f z3 (rb_new (R := 36) (by decide) (by decide)))))
  · have z2 : (2 : Int32) ≤ nI o := nI_le (a := 2) h1 (by omega)
    have z3 : nI o ≤ (36 : Int32) := nI_le (b := 36) h2 (by decide)
    exact br_t z2 (br_t z3 (br_t z2 (br_t z3 (rb_new h1 h2))))
end
