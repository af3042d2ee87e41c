/-! digits of a number, column sums, long division, roots, Euclid: numbers alone -/
def rb_dg (R v i : Nat) : Nat := v / R ^ i % R
def rb_cs (R : Nat) (s : Nat → Nat) : Nat → Nat
  | 0 => 0
  | k + 1 => rb_cs R s k + s k * R ^ k
theorem rb_pp {R : Nat} (hR : 2 ≤ R) (i : Nat) : 0 < R ^ i := Nat.pow_pos (by omega)
theorem rb_dv (R v i : Nat) : v / R ^ (i + 1) = v / R ^ i / R := by
  rw [Nat.pow_succ, Nat.div_div_eq_div_mul]
theorem rb_sp (R v i : Nat) : v / R ^ i = v / R ^ (i + 1) * R + rb_dg R v i := by
  rw [rb_dv, rb_dg]
  exact (Nat.div_add_mod' _ _).symm
theorem rb_lt {R : Nat} (hR : 2 ≤ R) (v i : Nat) : rb_dg R v i < R := Nat.mod_lt _ (by omega)
theorem rb_pm {R a b : Nat} (hR : 2 ≤ R) (h : a ≤ b) : R ^ a ≤ R ^ b := Nat.pow_le_pow_right (by omega) h
theorem rb_hi {R n v i : Nat} (hR : 2 ≤ R) (hv : v < R ^ n) (h : n ≤ i) : rb_dg R v i = 0 := by
  unfold rb_dg
  rw [Nat.div_eq_of_lt (Nat.lt_of_lt_of_le hv (rb_pm hR h)), Nat.zero_mod]
theorem rb_z (R i : Nat) : rb_dg R 0 i = 0 := by
  unfold rb_dg
  rw [Nat.zero_div, Nat.zero_mod]
theorem rb_d0 (R v : Nat) : rb_dg R v 0 = v % R := by
  unfold rb_dg
  rw [Nat.pow_zero, Nat.div_one]
theorem rb_top {R v m : Nat} (hR : 2 ≤ R) : ∀ j, v < R ^ (m + j) → (∀ i, m ≤ i → i < m + j → rb_dg R v i = 0) → v < R ^ m
  | 0, hv, _ => hv
  | j + 1, hv, h => by
    have e := h (m + j) (by omega) (by omega)
    have l : v / R ^ (m + j) < R := by
      rw [Nat.div_lt_iff_lt_mul (rb_pp hR _), Nat.mul_comm, ← Nat.pow_succ]
      exact hv
    unfold rb_dg at e
    rw [Nat.mod_eq_of_lt l] at e
    have l2 : v < 1 * R ^ (m + j) := (Nat.div_lt_iff_lt_mul (rb_pp hR _)).mp (by omega)
    rw [Nat.one_mul] at l2
    exact rb_top hR j l2 (fun i a b => h i a (by omega))
theorem rb_zero {R n v : Nat} (hR : 2 ≤ R) (hv : v < R ^ n) (h : ∀ i, i < n → rb_dg R v i = 0) : v = 0 := by
  have := rb_top (m := 0) hR n (by rw [Nat.zero_add]; exact hv) (fun i _ b => h i (by omega))
  rw [Nat.pow_zero] at this
  omega
theorem rb_ne {R v i : Nat} (h : rb_dg R v i ≠ 0) : v ≠ 0 := by
  intro e
  rw [e, rb_z] at h
  exact h rfl
theorem rb_big {R v i m : Nat} (hR : 2 ≤ R) (hm : m ≤ i) (h : rb_dg R v i ≠ 0) : R ^ m ≤ v := by
  apply Nat.le_of_not_lt
  intro l
  exact h (rb_hi hR l hm)
theorem rb_csc {R : Nat} {s t : Nat → Nat} : ∀ n, (∀ i, i < n → s i = t i) → rb_cs R s n = rb_cs R t n
  | 0, _ => rfl
  | n + 1, h => by
    show rb_cs R s n + s n * R ^ n = rb_cs R t n + t n * R ^ n
    rw [rb_csc n (fun i hi => h i (by omega)), h n (by omega)]
theorem rb_csd (R v : Nat) : ∀ n, rb_cs R (rb_dg R v) n = v % R ^ n
  | 0 => by rw [Nat.pow_zero, Nat.mod_one]; rfl
  | n + 1 => by
    show rb_cs R (rb_dg R v) n + rb_dg R v n * R ^ n = v % R ^ (n + 1)
    rw [rb_csd R v n, Nat.pow_succ, Nat.mod_mul, Nat.mul_comm (R ^ n) (v / R ^ n % R)]
    rfl
theorem rb_csD {R v n : Nat} (h : v < R ^ n) : rb_cs R (rb_dg R v) n = v := by
  rw [rb_csd, Nat.mod_eq_of_lt h]
theorem rb_ext {R v w n : Nat} (hv : v < R ^ n) (hw : w < R ^ n) (h : ∀ i, i < n → rb_dg R v i = rb_dg R w i) : v = w := by
  rw [← rb_csD hv, ← rb_csD hw]
  exact rb_csc n h
theorem rb_csA (R : Nat) (s t : Nat → Nat) : ∀ n, rb_cs R (fun j => s j + t j) n = rb_cs R s n + rb_cs R t n
  | 0 => rfl
  | n + 1 => by
    show rb_cs R (fun j => s j + t j) n + (s n + t n) * R ^ n = rb_cs R s n + s n * R ^ n + (rb_cs R t n + t n * R ^ n)
    rw [rb_csA R s t n, Nat.add_mul]
    omega
theorem rb_csM (R d : Nat) (t : Nat → Nat) : ∀ n, rb_cs R (fun j => d * t j) n = d * rb_cs R t n
  | 0 => rfl
  | n + 1 => by
    show rb_cs R (fun j => d * t j) n + d * t n * R ^ n = d * (rb_cs R t n + t n * R ^ n)
    rw [rb_csM R d t n, Nat.mul_add, Nat.mul_assoc]
theorem rb_cs0 (R : Nat) : ∀ n, rb_cs R (fun _ => 0) n = 0
  | 0 => rfl
  | n + 1 => by
    show rb_cs R (fun _ => 0) n + 0 * R ^ n = 0
    rw [rb_cs0 R n, Nat.zero_mul]
theorem rb_csU (R : Nat) (s : Nat → Nat) (m d : Nat) : ∀ n, rb_cs R (fun k => if k = m then s k + d else s k) n = rb_cs R s n + (if m < n then d * R ^ m else 0)
  | 0 => by rw [if_neg (Nat.not_lt_zero m)]; rfl
  | n + 1 => by
    show rb_cs R (fun k => if k = m then s k + d else s k) n + (if n = m then s n + d else s n) * R ^ n = rb_cs R s n + s n * R ^ n + (if m < n + 1 then d * R ^ m else 0)
    rw [rb_csU R s m d n]
    by_cases e : n = m
    · subst e
      rw [if_pos rfl, if_neg (Nat.lt_irrefl n), if_pos (show n < n + 1 by omega), Nat.add_mul]
      omega
    · rw [if_neg e]
      by_cases l : m < n
      · rw [if_pos l, if_pos (show m < n + 1 by omega)]
        omega
      · rw [if_neg l, if_neg (show ¬ m < n + 1 by omega)]
        omega
theorem rb_dgA {R : Nat} (hR : 2 ≤ R) (a b k : Nat) : rb_dg R (a + b * R ^ (k + 1)) k = rb_dg R a k := by
  unfold rb_dg
  rw [Nat.pow_succ, Nat.mul_comm (R ^ k) R, ← Nat.mul_assoc, Nat.add_mul_div_right _ _ (rb_pp hR k), Nat.add_mul_mod_self_right]
theorem rb_dgL {R : Nat} (hR : 2 ≤ R) (a b : Nat) {k m : Nat} (h : k < m) : rb_dg R (a + b * R ^ m) k = rb_dg R a k := by
  obtain ⟨c, rfl⟩ : ∃ c, m = c + (k + 1) := ⟨m - (k + 1), by omega⟩
  rw [Nat.pow_add, ← Nat.mul_assoc]
  exact rb_dgA hR _ _ _
theorem rb_dgM {R : Nat} (hR : 2 ≤ R) (v : Nat) {k m : Nat} (h : k < m) : rb_dg R (v % R ^ m) k = rb_dg R v k := by
  have e := Nat.div_add_mod' v (R ^ m)
  rw [← rb_dgL hR (v % R ^ m) (v / R ^ m) h, Nat.add_comm, e]
/-- the column's digit -/
theorem rb_cd {R : Nat} (hR : 2 ≤ R) (s : Nat → Nat) (k : Nat) : ∀ m, rb_dg R (rb_cs R s (k + 1 + m)) k = (s k + rb_cs R s k / R ^ k) % R
  | 0 => by
    show rb_dg R (rb_cs R s k + s k * R ^ k) k = _
    unfold rb_dg
    rw [Nat.add_mul_div_right _ _ (rb_pp hR k), Nat.add_comm]
  | m + 1 => by
    show rb_dg R (rb_cs R s (k + 1 + m) + s (k + 1 + m) * R ^ (k + 1 + m)) k = _
    rw [rb_dgL hR _ _ (by omega), rb_cd hR s k m]
theorem rb_cdn {R : Nat} (hR : 2 ≤ R) (s : Nat → Nat) {k n : Nat} (h : k < n) : rb_dg R (rb_cs R s n) k = (s k + rb_cs R s k / R ^ k) % R := by
  obtain ⟨m, rfl⟩ : ∃ m, n = k + 1 + m := ⟨n - (k + 1), by omega⟩
  exact rb_cd hR s k m
/-- the column's carry -/
theorem rb_cc {R : Nat} (hR : 2 ≤ R) (s : Nat → Nat) (k : Nat) : rb_cs R s (k + 1) / R ^ (k + 1) = (s k + rb_cs R s k / R ^ k) / R := by
  rw [rb_dv]
  show (rb_cs R s k + s k * R ^ k) / R ^ k / R = _
  rw [Nat.add_mul_div_right _ _ (rb_pp hR k), Nat.add_comm]
theorem rb_csl {R : Nat} (hR : 2 ≤ R) {s : Nat → Nat} : ∀ n, (∀ i, i < n → s i < R) → rb_cs R s n < R ^ n
  | 0, _ => by rw [Nat.pow_zero]; exact Nat.one_pos
  | n + 1, h => by
    have a := rb_csl hR n (fun i hi => h i (by omega))
    have b := h n (by omega)
    show rb_cs R s n + s n * R ^ n < R ^ (n + 1)
    rw [Nat.pow_succ, Nat.mul_comm (R ^ n) R]
    have c : (s n + 1) * R ^ n ≤ R * R ^ n := Nat.mul_le_mul_right _ b
    rw [Nat.add_mul, Nat.one_mul] at c
    omega
theorem rb_mk {R : Nat} (hR : 2 ≤ R) (s : Nat → Nat) (n : Nat) (h : ∀ i, i < n → s i < R) : ∃ v, v < R ^ n ∧ ∀ i, i < n → rb_dg R v i = s i := by
  refine ⟨rb_cs R s n, rb_csl hR n h, fun i hi => ?_⟩
  rw [rb_cdn hR s hi, Nat.div_eq_of_lt (rb_csl hR i (fun j hj => h j (by omega))), Nat.add_zero, Nat.mod_eq_of_lt (h i hi)]
/-- carry of v + w ahead of place k -/
def rb_ca (R v w k : Nat) : Nat := (v % R ^ k + w % R ^ k) / R ^ k
theorem rb_ca0 (R v w : Nat) : rb_ca R v w 0 = 0 := by
  unfold rb_ca
  rw [Nat.pow_zero, Nat.mod_one, Nat.mod_one]
theorem rb_cae (R v w k : Nat) : rb_ca R v w k = rb_cs R (fun j => rb_dg R v j + rb_dg R w j) k / R ^ k := by
  rw [rb_csA, rb_csd, rb_csd]
  rfl
theorem rb_cas {R : Nat} (hR : 2 ≤ R) (v w k : Nat) : rb_ca R v w (k + 1) = (rb_dg R v k + rb_dg R w k + rb_ca R v w k) / R := by
  rw [rb_cae, rb_cae, rb_cc hR]
theorem rb_cad {R : Nat} (hR : 2 ≤ R) (v w k : Nat) : rb_dg R (v + w) k = (rb_dg R v k + rb_dg R w k + rb_ca R v w k) % R := by
  have h := rb_cd hR (fun j => rb_dg R v j + rb_dg R w j) k 0
  rw [Nat.add_zero, rb_csA, rb_csd, rb_csd, ← rb_cae] at h
  rw [← h]
  have e1 := Nat.div_add_mod' v (R ^ (k + 1))
  have e2 := Nat.div_add_mod' w (R ^ (k + 1))
  have e3 : v + w = v % R ^ (k + 1) + w % R ^ (k + 1) + (v / R ^ (k + 1) + w / R ^ (k + 1)) * R ^ (k + 1) := by
    rw [Nat.add_mul]
    omega
  rw [e3, rb_dgA hR]
theorem rb_ca1 {R : Nat} (hR : 2 ≤ R) (v w k : Nat) : rb_ca R v w k ≤ 1 := by
  have a := Nat.mod_lt v (rb_pp hR k)
  have b := Nat.mod_lt w (rb_pp hR k)
  have : rb_ca R v w k < 2 := by
    unfold rb_ca
    rw [Nat.div_lt_iff_lt_mul (rb_pp hR k)]
    omega
  omega
/-- the whole row of an addition at place k -/
theorem rb_cal {R : Nat} (hR : 2 ≤ R) (v w k : Nat) : rb_dg R v k + rb_dg R w k + rb_ca R v w k = rb_ca R v w (k + 1) * R + rb_dg R (v + w) k := by
  rw [rb_cas hR, rb_cad hR]
  exact (Nat.div_add_mod' _ _).symm
/-- long division by o, one place -/
theorem rb_ldl {R o : Nat} (hR : 2 ≤ R) (ho : 0 < o) (r d : Nat) (hr : r < o) (hd : d < R) : r * R + d < o * R := by
  have c : (r + 1) * R ≤ o * R := Nat.mul_le_mul_right _ hr
  rw [Nat.add_mul, Nat.one_mul] at c
  omega
theorem rb_ldb {R o : Nat} (hR : 2 ≤ R) (ho : 0 < o) (v i : Nat) : v / R ^ (i + 1) % o * R + rb_dg R v i < o * R :=
  rb_ldl hR ho _ _ (Nat.mod_lt _ ho) (rb_lt hR v i)
theorem rb_lde {R o : Nat} (ho : 0 < o) (v i : Nat) : v / R ^ i = o * (v / R ^ (i + 1) / o * R) + (v / R ^ (i + 1) % o * R + rb_dg R v i) := by
  rw [rb_sp R v i]
  generalize v / R ^ (i + 1) = A
  have e := Nat.div_add_mod A o
  generalize rb_dg R v i = d
  rw [← Nat.add_assoc, ← Nat.mul_assoc, ← Nat.add_mul, e]
theorem rb_ldq {R o : Nat} (hR : 2 ≤ R) (ho : 0 < o) (v i : Nat) : (v / R ^ (i + 1) % o * R + rb_dg R v i) / o = rb_dg R (v / o) i := by
  have b := rb_ldb hR ho v i
  have e := rb_lde (R := R) ho v i
  unfold rb_dg at b e ⊢
  rw [Nat.div_div_eq_div_mul, Nat.mul_comm o, ← Nat.div_div_eq_div_mul]
  generalize v / R ^ (i + 1) % o * R + v / R ^ i % R = x at b e ⊢
  rw [e, Nat.mul_add_div ho, Nat.add_comm, Nat.add_mul_mod_self_right]
  have : x / o < R := by
    rw [Nat.div_lt_iff_lt_mul ho, Nat.mul_comm]
    exact b
  exact (Nat.mod_eq_of_lt this).symm
theorem rb_ldr {R o : Nat} (ho : 0 < o) (v i : Nat) : (v / R ^ (i + 1) % o * R + rb_dg R v i) % o = v / R ^ i % o := by
  have e := rb_lde (R := R) ho v i
  rw [e, Nat.mul_add_mod]
/-- order from the top -/
theorem rb_og {R v w i : Nat} (h : v / R ^ (i + 1) = w / R ^ (i + 1)) (hd : rb_dg R w i < rb_dg R v i) : w < v := by
  apply Nat.lt_of_not_le
  intro l
  have a : v / R ^ i ≤ w / R ^ i := Nat.div_le_div_right l
  rw [rb_sp R v i, rb_sp R w i, h] at a
  omega
theorem rb_oe {R v w i : Nat} (h : v / R ^ (i + 1) = w / R ^ (i + 1)) (hd : rb_dg R v i = rb_dg R w i) : v / R ^ i = w / R ^ i := by
  rw [rb_sp R v i, rb_sp R w i, h, hd]
theorem rb_o0 {R n v w : Nat} (hv : v < R ^ n) (hw : w < R ^ n) : v / R ^ n = w / R ^ n := by
  rw [Nat.div_eq_of_lt hv, Nat.div_eq_of_lt hw]
theorem rb_o1 {R v w : Nat} (h : v / R ^ 0 = w / R ^ 0) : v = w := by
  rw [Nat.pow_zero, Nat.div_one, Nat.div_one] at h
  exact h
/-- a digit pushed in from below -/
theorem rb_ph {R : Nat} (hR : 2 ≤ R) (v d k : Nat) (hd : d < R) : rb_dg R (v * R + d) (k + 1) = rb_dg R v k := by
  unfold rb_dg
  rw [Nat.pow_succ, Nat.mul_comm (R ^ k) R, ← Nat.div_div_eq_div_mul, Nat.add_comm, Nat.add_mul_div_right _ _ (by omega : 0 < R), Nat.div_eq_of_lt hd, Nat.zero_add]
theorem rb_pl {R : Nat} (v d : Nat) (hd : d < R) : rb_dg R (v * R + d) 0 = d := by
  rw [rb_d0, Nat.add_comm, Nat.add_mul_mod_self_right, Nat.mod_eq_of_lt hd]
theorem rb_pb {R n v d : Nat} (hR : 2 ≤ R) (hv : v < R ^ n) (hd : d < R) : v * R + d < R ^ (n + 1) := by
  rw [Nat.pow_succ]
  exact rb_ldl hR (rb_pp hR n) v d hv hd
