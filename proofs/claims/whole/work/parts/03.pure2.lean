/-! products, roots, Euclid, lengths, shifts: numbers alone -/
theorem rb_mm (R w j : Nat) : w % R ^ (j + 1) = w % R ^ j + R ^ j * rb_dg R w j := by
  rw [Nat.pow_succ, Nat.mod_mul]
  rfl
theorem rb_mT (R v w i : Nat) : v % R ^ (i + 1) * w = v % R ^ i * w + rb_dg R v i * w * R ^ i := by
  rw [rb_mm, Nat.add_mul, Nat.mul_comm (R ^ i) (rb_dg R v i), Nat.mul_assoc (rb_dg R v i), Nat.mul_comm (R ^ i) w, ← Nat.mul_assoc]
theorem rb_gs {R i j v w S : Nat} (h : S = v % R ^ i * w + rb_dg R v i * R ^ i * (w % R ^ j)) : S + rb_dg R v i * rb_dg R w j * R ^ (i + j) = v % R ^ i * w + rb_dg R v i * R ^ i * (w % R ^ (j + 1)) := by
  have e : rb_dg R v i * rb_dg R w j * (R ^ i * R ^ j) = rb_dg R v i * R ^ i * (R ^ j * rb_dg R w j) := by ac_rfl
  rw [h, rb_mm, Nat.mul_add, Nat.pow_add, e, Nat.add_assoc]
theorem rb_ge {R i v w S : Nat} (hw : w < R ^ 24) (h : S = v % R ^ i * w + rb_dg R v i * R ^ i * (w % R ^ 24)) : S = v % R ^ (i + 1) * w := by
  rw [h, rb_mT, Nat.mod_eq_of_lt hw, Nat.mul_assoc, Nat.mul_assoc, Nat.mul_comm (R ^ i) w]
theorem rb_ccb {R B : Nat} (hR : 2 ≤ R) (s : Nat → Nat) : ∀ n, (∀ k, k < n → s k ≤ B) → rb_cs R s n / R ^ n ≤ B
  | 0, _ => by
    show 0 / R ^ 0 ≤ B
    rw [Nat.zero_div]
    exact Nat.zero_le B
  | n + 1, h => by
    have a := rb_ccb hR s n (fun k hk => h k (by omega))
    have b := h n (by omega)
    rw [rb_cc hR]
    have c : s n + rb_cs R s n / R ^ n ≤ R * B := Nat.le_trans (by omega : _ ≤ 2 * B) (Nat.mul_le_mul_right B hR)
    exact Nat.div_le_of_le_mul c
theorem rb_dd {R : Nat} (hR : 2 ≤ R) (hR2 : R ≤ 36) (v w i j : Nat) : rb_dg R v i * rb_dg R w j ≤ 1225 := by
  have a := rb_lt hR v i
  have b := rb_lt hR w j
  exact Nat.mul_le_mul (by omega : _ ≤ 35) (by omega : _ ≤ 35)
theorem rb_dgI {R : Nat} (hR : 2 ≤ R) {N r i : Nat} (hr : r < R ^ i) (j : Nat) : rb_dg R (r + N * R ^ i) (i + j) = rb_dg R N j := by
  unfold rb_dg
  rw [Nat.pow_add, ← Nat.div_div_eq_div_mul, Nat.add_mul_div_right _ _ (rb_pp hR i), Nat.div_eq_of_lt hr, Nat.zero_add]
theorem rb_dgS (R T i j : Nat) : rb_dg R T (i + j) = rb_dg R (T / R ^ i) j := by
  unfold rb_dg
  rw [Nat.pow_add, Nat.div_div_eq_div_mul]
theorem rb_mlt {R a b v w : Nat} (hv : v < R ^ a) (hw : w < R ^ b) : v * w < R ^ (a + b) := by
  rw [Nat.pow_add]
  exact Nat.mul_lt_mul'' hv hw
theorem rb_mTb {R : Nat} (hR : 2 ≤ R) {v w : Nat} (i : Nat) (hw : w < R ^ 24) : v % R ^ i * w < R ^ (i + 24) :=
  rb_mlt (Nat.mod_lt _ (rb_pp hR i)) hw
/-- one row of a product: the columns from place i on -/
def rb_mc (R T d w i : Nat) : Nat → Nat := fun j => rb_dg R T (i + j) + d * rb_dg R w j
theorem rb_mcs {R : Nat} (hR : 2 ≤ R) {v w i : Nat} (hw : w < R ^ 24) :
    rb_cs R (rb_mc R (v % R ^ i * w) (rb_dg R v i) w i) 26 = v % R ^ i * w / R ^ i + rb_dg R v i * w := by
  have e : rb_cs R (rb_mc R (v % R ^ i * w) (rb_dg R v i) w i) 26 = rb_cs R (fun j => rb_dg R (v % R ^ i * w / R ^ i) j + rb_dg R v i * rb_dg R w j) 26 :=
    rb_csc 26 (fun j _ => by unfold rb_mc; rw [rb_dgS])
  have b1 : v % R ^ i * w / R ^ i < R ^ 26 := by
    refine Nat.lt_of_lt_of_le ?_ (rb_pm hR (by omega : 24 ≤ 26))
    rw [Nat.div_lt_iff_lt_mul (rb_pp hR i), Nat.mul_comm (R ^ 24) (R ^ i), ← Nat.pow_add]
    exact rb_mTb hR i hw
  have b2 : w < R ^ 26 := Nat.lt_of_lt_of_le hw (rb_pm hR (by omega))
  rw [e, rb_csA R (rb_dg R (v % R ^ i * w / R ^ i)) (fun j => rb_dg R v i * rb_dg R w j), rb_csM, rb_csD b1, rb_csD b2]
theorem rb_mN {R : Nat} (v w i : Nat) : v % R ^ (i + 1) * w = v % R ^ i * w % R ^ i + (v % R ^ i * w / R ^ i + rb_dg R v i * w) * R ^ i := by
  rw [rb_mT, Nat.add_mul]
  have := Nat.div_add_mod' (v % R ^ i * w) (R ^ i)
  omega
theorem rb_mlo {R : Nat} (hR : 2 ≤ R) (v w : Nat) {i k : Nat} (hk : k < i) : rb_dg R (v % R ^ (i + 1) * w) k = rb_dg R (v % R ^ i * w) k := by
  rw [rb_mN, rb_dgL hR _ _ hk, rb_dgM hR _ hk]
theorem rb_mhi {R : Nat} (hR : 2 ≤ R) (v : Nat) {w i k : Nat} (hw : w < R ^ 24) (hk : i + 26 ≤ k) : rb_dg R (v % R ^ (i + 1) * w) k = rb_dg R (v % R ^ i * w) k := by
  rw [rb_hi hR (rb_mTb hR (i + 1) hw) (by omega), rb_hi hR (rb_mTb hR i hw) (by omega)]
theorem rb_mmid {R : Nat} (hR : 2 ≤ R) (v : Nat) {w i j : Nat} (hw : w < R ^ 24) (hj : j < 26) :
    rb_dg R (v % R ^ (i + 1) * w) (i + j) = (rb_mc R (v % R ^ i * w) (rb_dg R v i) w i j + rb_cs R (rb_mc R (v % R ^ i * w) (rb_dg R v i) w i) j / R ^ j) % R := by
  rw [rb_mN, rb_dgI hR (Nat.mod_lt _ (rb_pp hR i)), ← rb_mcs hR hw, rb_cdn hR _ hj]
theorem rb_mcb {R : Nat} (hR : 2 ≤ R) (hR2 : R ≤ 36) (T v w i k j : Nat) : rb_mc R T (rb_dg R v k) w i j ≤ 1260 := by
  have a := rb_lt hR T (i + j)
  have b := rb_dd hR hR2 v w k j
  unfold rb_mc
  omega
/-! roots -/
theorem rb_sq (A : Nat) : ∃ s, s * s ≤ A ∧ A < (s + 1) * (s + 1) := by
  induction A with
  | zero => exact ⟨0, Nat.le_refl _, by decide⟩
  | succ A ih =>
    obtain ⟨s, h1, h2⟩ := ih
    by_cases h : (s + 1) * (s + 1) ≤ A + 1
    · have := Nat.mul_self_lt_mul_self (by omega : s + 1 < s + 1 + 1)
      exact ⟨s + 1, h, by omega⟩
    · exact ⟨s, by omega, by omega⟩
theorem rb_sqc {A s : Nat} (c : Nat) (h1 : s * s ≤ A) (h2 : A < (s + 1) * (s + 1)) : c * c ≤ A ↔ c ≤ s := by
  constructor
  · intro h
    apply Nat.le_of_not_lt
    intro l
    have := Nat.mul_self_le_mul_self (by omega : s + 1 ≤ c)
    omega
  · intro h
    exact Nat.le_trans (Nat.mul_self_le_mul_self h) h1
theorem rb_sqb {R A s : Nat} (hA : A < R ^ 24) (h1 : s * s ≤ A) : s < R ^ 12 := by
  apply Nat.lt_of_not_le
  intro l
  have h := Nat.mul_self_le_mul_self l
  rw [← Nat.pow_add] at h
  exact absurd (Nat.lt_of_le_of_lt (Nat.le_trans h h1) hA) (Nat.lt_irrefl _)
/-- the root's places above i, with digit d at place i -/
def rb_rc (R s i d : Nat) : Nat := s / R ^ (i + 1) * R ^ (i + 1) + d * R ^ i
theorem rb_rce (R s i d : Nat) : rb_rc R s i d = (s / R ^ (i + 1) * R + d) * R ^ i := by
  unfold rb_rc
  rw [Nat.add_mul, Nat.mul_assoc, Nat.pow_succ, Nat.mul_comm (R ^ i) R]
theorem rb_rcl {R : Nat} (hR : 2 ≤ R) (s i d : Nat) : rb_rc R s i d ≤ s ↔ d ≤ rb_dg R s i := by
  rw [rb_rce, ← Nat.le_div_iff_mul_le (rb_pp hR i), rb_sp R s i]
  omega
theorem rb_rcs (R s i : Nat) : rb_rc R s i (rb_dg R s i) = s / R ^ i * R ^ i := by
  rw [rb_rce, ← rb_sp]
theorem rb_rcb {R : Nat} (hR : 2 ≤ R) {s i d n : Nat} (hs : s < R ^ n) (hi : i < n) (hd : d < R) : rb_rc R s i d < R ^ n := by
  obtain ⟨m, rfl⟩ : ∃ m, n = m + 1 + i := ⟨n - 1 - i, by omega⟩
  rw [rb_rce, Nat.pow_add R (m + 1) i, Nat.mul_lt_mul_right (rb_pp hR i)]
  refine rb_pb hR ?_ hd
  rw [Nat.div_lt_iff_lt_mul (rb_pp hR _), ← Nat.pow_add]
  have e : m + (i + 1) = m + 1 + i := by omega
  rw [e]
  exact hs
theorem rb_rcd {R : Nat} (hR : 2 ≤ R) (s : Nat) {i d : Nat} (k : Nat) (hd : d < R) : rb_dg R (rb_rc R s i d) k = if k < i then 0 else if k = i then d else rb_dg R s k := by
  by_cases h : k < i
  · rw [if_pos h, rb_rce]
    have := rb_dgL hR 0 (s / R ^ (i + 1) * R + d) h
    rw [Nat.zero_add, rb_z] at this
    exact this
  · rw [if_neg h]
    by_cases e : k = i
    · rw [if_pos e, e, rb_rce]
      have := rb_dgI hR (N := s / R ^ (i + 1) * R + d) (rb_pp hR i) 0
      rw [Nat.zero_add, Nat.add_zero, rb_pl _ _ hd] at this
      exact this
    · rw [if_neg e]
      obtain ⟨m, rfl⟩ : ∃ m, k = i + 1 + m := ⟨k - (i + 1), by omega⟩
      have l : d * R ^ i < R ^ (i + 1) := by
        rw [Nat.pow_succ, Nat.mul_comm (R ^ i) R]
        exact (Nat.mul_lt_mul_right (rb_pp hR i)).mpr hd
      unfold rb_rc
      rw [Nat.add_comm, rb_dgI hR l, rb_dgS]
theorem rb_rtd {R : Nat} (hR : 2 ≤ R) (s i k : Nat) : rb_dg R (s / R ^ i * R ^ i) k = if k < i then 0 else rb_dg R s k := by
  by_cases h : k < i
  · have := rb_dgL hR 0 (s / R ^ i) h
    rw [Nat.zero_add, rb_z] at this
    rw [if_pos h, this]
  · rw [if_neg h]
    obtain ⟨m, rfl⟩ : ∃ m, k = i + m := ⟨k - i, by omega⟩
    have := rb_dgI hR (N := s / R ^ i) (rb_pp hR i) m
    rw [Nat.zero_add] at this
    rw [this, rb_dgS]
/-! Euclid -/
def rb_E (k u w : Nat) : Prop := (k = 0 ∧ u * w < 2 ^ 250) ∨ ∃ j, k = j + 1 ∧ w < u ∧ u * w * 2 ^ j < 2 ^ 250
theorem rb_Es {k u w : Nat} (hw : 0 < w) (h : rb_E k u w) : rb_E (k + 1) w (u % w) := by
  have l := Nat.mod_lt u hw
  rcases h with ⟨e, h⟩ | ⟨j, e, h1, h2⟩
  · refine Or.inr ⟨0, by omega, l, ?_⟩
    rw [Nat.pow_zero, Nat.mul_one, Nat.mul_comm]
    exact Nat.lt_of_le_of_lt (Nat.mul_le_mul_right w (Nat.mod_le u w)) h
  · refine Or.inr ⟨j + 1, by omega, l, ?_⟩
    have a := Nat.div_add_mod u w
    have b : 1 ≤ u / w := (Nat.le_div_iff_mul_le hw).mpr (by omega)
    have c : w * 1 ≤ w * (u / w) := Nat.mul_le_mul_left w b
    have d : u % w * 2 ≤ u := by omega
    have f : w * (u % w) * 2 ^ (j + 1) = u % w * 2 * w * 2 ^ j := by
      rw [Nat.pow_succ]
      ac_rfl
    rw [f]
    exact Nat.lt_of_le_of_lt (Nat.mul_le_mul_right _ (Nat.mul_le_mul_right w d)) h2
theorem rb_Ee {k u w : Nat} (h : rb_E k u w) (hk : 251 ≤ k) : w = 0 := by
  rcases h with ⟨e, _⟩ | ⟨j, e, h1, h2⟩
  · omega
  · apply Nat.eq_zero_of_not_pos
    intro hw
    have a : 1 ≤ u * w := Nat.mul_pos (by omega) hw
    have b : 2 ^ 250 ≤ 2 ^ j := Nat.pow_le_pow_right (by decide) (by omega)
    have c : 1 * 2 ^ j ≤ u * w * 2 ^ j := Nat.mul_le_mul_right _ a
    rw [Nat.one_mul] at c
    exact absurd (Nat.lt_of_le_of_lt (Nat.le_trans b c) h2) (Nat.lt_irrefl _)
theorem rb_E0 {R u w : Nat} (hR2 : R ≤ 36) (hu : u < R ^ 24) (hw : w < R ^ 24) : rb_E 0 u w := by
  have a : R ^ 24 ≤ 2 ^ 125 := Nat.le_trans (Nat.pow_le_pow_left hR2 24) (by decide)
  refine Or.inl ⟨rfl, ?_⟩
  have b := Nat.mul_lt_mul'' (Nat.lt_of_lt_of_le hu a) (Nat.lt_of_lt_of_le hw a)
  rw [← Nat.pow_add] at b
  exact b
theorem rb_gc (u w : Nat) : Nat.gcd w (u % w) = Nat.gcd u w := by
  rw [Nat.gcd_comm w (u % w), ← Nat.gcd_rec, Nat.gcd_comm]
/-! lengths -/
theorem rb_lnu {d : Nat → Nat} {a b n : Nat} (ha : a ≤ n) (hb : b ≤ n) (h1 : ∀ i, a ≤ i → i < n → d i = 0) (h2 : 0 < a → d (a - 1) ≠ 0)
    (h3 : ∀ i, b ≤ i → i < n → d i = 0) (h4 : 0 < b → d (b - 1) ≠ 0) : a = b := by
  apply Nat.le_antisymm
  · apply Nat.le_of_not_lt
    intro l
    exact h2 (by omega) (h3 (a - 1) (by omega) (by omega))
  · apply Nat.le_of_not_lt
    intro l
    exact h4 (by omega) (h1 (b - 1) (by omega) (by omega))
theorem rb_liu {f : Nat → Nat} {a b n : Nat} (ha : a ≤ n) (hb : b ≤ n) (h1 : ∀ j, j < a → f j ≠ 0) (h2 : a = n ∨ f a = 0)
    (h3 : ∀ j, j < b → f j ≠ 0) (h4 : b = n ∨ f b = 0) : a = b := by
  apply Nat.le_antisymm
  · apply Nat.le_of_not_lt
    intro l
    rcases h4 with e | e
    · omega
    · exact h1 b l e
  · apply Nat.le_of_not_lt
    intro l
    rcases h2 with e | e
    · omega
    · exact h3 a l e
/-! shifts: the digit at place t after the digits below i have gone p places up, and how many were lost -/
def rb_sE (p : Int32) (d : Nat → Nat) : Nat → Nat → Nat
  | 0 => fun _ => 0
  | i + 1 => fun t => if nI i + p = nI t then d i else rb_sE p d i t
def rb_sL (p : Int32) (d : Nat → Nat) : Nat → Nat
  | 0 => 0
  | i + 1 => if (0 ≤ nI i + p ∧ nI i + p < 24) ∨ d i = 0 then rb_sL p d i else rb_sL p d i + 1
theorem rb_sEl {R : Nat} (hR : 2 ≤ R) {p : Int32} {d : Nat → Nat} (h : ∀ i, d i < R) : ∀ i t, rb_sE p d i t < R
  | 0, t => by
    show 0 < R
    omega
  | i + 1, t => by
    show (if nI i + p = nI t then d i else rb_sE p d i t) < R
    by_cases c : nI i + p = nI t
    · rw [if_pos c]
      exact h i
    · rw [if_neg c]
      exact rb_sEl hR h i t
theorem rb_sLl {p : Int32} {d : Nat → Nat} : ∀ i, rb_sL p d i ≤ i
  | 0 => Nat.le_refl 0
  | i + 1 => by
    have := rb_sLl (p := p) (d := d) i
    show (if (0 ≤ nI i + p ∧ nI i + p < 24) ∨ d i = 0 then rb_sL p d i else rb_sL p d i + 1) ≤ i + 1
    split <;> omega
