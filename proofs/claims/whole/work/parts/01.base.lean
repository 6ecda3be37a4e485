theorem pk_us {f : Nat → Int32} {k : Nat} {x : Int32} : upd f k x k = x := if_pos rfl
theorem pk_un {f : Nat → Int32} {k j : Nat} {x : Int32} (h : j ≠ k) : upd f k x j = f j := if_neg h
theorem pk_sub {a b : Nat} (h : b ≤ a) : nI a - nI b = nI (a - b) := by
  obtain ⟨c, rfl⟩ : ∃ c, a = c + b := ⟨a - b, by omega⟩
  rw [← nI_add, Int32.add_sub_cancel, Nat.add_sub_cancel]
theorem pk_m1 (n : Nat) : nI (n + 1) + (-1) = nI n := by
  rw [← nI_1, Int32.add_assoc, show (1 : Int32) + (-1) = 0 from rfl, Int32.add_zero]
theorem pk_mul (a b : Nat) : nI a * nI b = nI (a * b) := (Int32.ofNat_mul a b).symm
theorem pk_div {a d : Nat} (ha : a < 2 ^ 31) (h0 : 0 < d) (hd : d < 2 ^ 31) : nI a / nI d = nI (a / d) := by
  apply Int32.toInt_inj.mp
  rw [lg_idiv_nonneg (by rw [nI_toInt ha]; omega) (by rw [nI_toInt hd]; omega), nI_toInt ha, nI_toInt hd, nI_toInt (Nat.lt_of_le_of_lt (Nat.div_le_self a d) ha)]
  first | rfl | exact (Int.natCast_ediv _ _).symm
theorem pk_rem {a d : Nat} (ha : a < 2 ^ 31) (h0 : 0 < d) (hd : d < 2 ^ 31) : nI a - nI a / nI d * nI d = nI (a % d) := by
  rw [pk_div ha h0 hd, pk_mul, pk_sub (Nat.div_mul_le_self a d)]
  exact congrArg nI (by have := Nat.div_add_mod' a d; omega)
theorem pk_le {x y : Int32} {A B : Prop} (a b : Nat) (f : a ≤ b → A) (g : b < a → B) (hx : x = nI a := by rfl) (hy : y = nI b := by rfl) (ha : a < 2 ^ 31 := by omega) (hb : b < 2 ^ 31 := by omega) : (x ≤ y → A) ∧ (¬ x ≤ y → B) := by
  subst hx hy
  rw [nI_leI ha hb]
  exact ⟨f, fun z => g (by omega)⟩
theorem pk_lt {x y : Int32} {A B : Prop} (a b : Nat) (f : a < b → A) (g : b ≤ a → B) (hx : x = nI a := by rfl) (hy : y = nI b := by rfl) (ha : a < 2 ^ 31 := by omega) (hb : b < 2 ^ 31 := by omega) : (x < y → A) ∧ (¬ x < y → B) := by
  subst hx hy
  rw [nI_ltI ha hb]
  exact ⟨f, fun z => g (by omega)⟩
theorem pk_eq {x y : Int32} {A B : Prop} (a b : Nat) (f : a = b → A) (g : a ≠ b → B) (hx : x = nI a := by rfl) (hy : y = nI b := by rfl) (ha : a < 2 ^ 31 := by omega) (hb : b < 2 ^ 31 := by omega) : (x = y → A) ∧ (¬ x = y → B) := by
  subst hx hy
  rw [nI_eq ha hb]
  exact ⟨f, g⟩
theorem pk_in {x : Int32} (n N : Nat) (h : n < N) (hx : x = nI n := by rfl) (hN : N < 2 ^ 31 := by omega) : vp_in x N := by
  subst hx
  exact vp_in_nI h hN
theorem pk_cl {x : Int32} (n : Nat) (hx : x = nI n := by rfl) (h : n < 2 ^ 31 := by omega) : x.toNatClampNeg = n := by
  subst hx
  exact nI_clamp h
/-- an array whose places q of the table at t with D q hold g q, the others as in A -/
def pa_w (A : Nat → Int32) (t : Nat) (D : Nat → Bool) (g : Nat → Nat) : Nat → Int32 :=
  fun j => if t ≤ j ∧ j < t + 64 ∧ D (j - t) = true then nI (g (j - t)) else A j
theorem pa_w_in {A : Nat → Int32} {t : Nat} {D : Nat → Bool} {g : Nat → Nat} {q : Nat} (hq : q < 64) (hD : D q = true) : pa_w A t D g (t + q) = nI (g q) := by
  unfold pa_w
  rw [Nat.add_sub_cancel_left, if_pos ⟨by omega, by omega, hD⟩]
theorem pa_w_no {A : Nat → Int32} {t : Nat} {D : Nat → Bool} {g : Nat → Nat} {q : Nat} (hD : D q = false) : pa_w A t D g (t + q) = A (t + q) := by
  unfold pa_w
  rw [Nat.add_sub_cancel_left, if_neg (fun h => by rw [hD] at h; exact absurd h.2.2 (by decide))]
theorem pa_w_out {A : Nat → Int32} {t : Nat} {D : Nat → Bool} {g : Nat → Nat} {j : Nat} (h : j < t ∨ t + 64 ≤ j) : pa_w A t D g j = A j := by
  unfold pa_w
  rw [if_neg (by omega)]
theorem pa_w_c {A : Nat → Int32} {t : Nat} {D D' : Nat → Bool} {g : Nat → Nat} (h : ∀ q, q < 64 → D q = D' q) : pa_w A t D g = pa_w A t D' g := by
  funext j
  by_cases hj : t ≤ j ∧ j < t + 64
  · obtain ⟨q, rfl⟩ : ∃ q, j = t + q := ⟨j - t, by omega⟩
    have hq : q < 64 := by omega
    cases hD : D q with
    | true => rw [pa_w_in hq hD, pa_w_in hq (by rw [← h q hq]; exact hD)]
    | false => rw [pa_w_no hD, pa_w_no (by rw [← h q hq]; exact hD)]
  · rw [pa_w_out (by omega), pa_w_out (by omega)]
theorem pa_w_0 {A : Nat → Int32} {t : Nat} {D : Nat → Bool} {g : Nat → Nat} (h : ∀ q, q < 64 → D q = false) : pa_w A t D g = A := by
  funext j
  by_cases hj : t ≤ j ∧ j < t + 64
  · obtain ⟨q, rfl⟩ : ∃ q, j = t + q := ⟨j - t, by omega⟩
    rw [pa_w_no (h q (by omega))]
  · rw [pa_w_out (by omega)]
theorem pa_w_k {A : Nat → Int32} {t : Nat} {D D' : Nat → Bool} {g : Nat → Nat} {q : Nat} (h : ∀ p, p < 64 → D' p = (D p || decide (p = q))) (hv : pa_w A t D g (t + q) = nI (g q)) : pa_w A t D g = pa_w A t D' g := by
  funext j
  by_cases hj : t ≤ j ∧ j < t + 64
  · obtain ⟨p, rfl⟩ : ∃ p, j = t + p := ⟨j - t, by omega⟩
    have hp : p < 64 := by omega
    have e := h p hp
    by_cases z : p = q
    · subst z
      rw [hv, pa_w_in hp (by rw [e]; simp)]
    · have e' : D' p = D p := by rw [e]; simp [z]
      cases hD : D p with
      | true => rw [pa_w_in hp hD, pa_w_in hp (by rw [e']; exact hD)]
      | false => rw [pa_w_no hD, pa_w_no (by rw [e']; exact hD)]
  · rw [pa_w_out (by omega), pa_w_out (by omega)]
theorem pa_w_s {A : Nat → Int32} {t : Nat} {D D' : Nat → Bool} {g : Nat → Nat} {q k : Nat} {v : Int32} (hq : q < 64) (h : ∀ p, p < 64 → D' p = (D p || decide (p = q))) (hk : k = t + q) (hv : v = nI (g q)) : upd (pa_w A t D g) k v = pa_w A t D' g := by
  subst hk hv
  funext j
  by_cases z : j = t + q
  · subst z
    rw [pk_us, pa_w_in hq (by rw [h q hq]; simp)]
  · rw [pk_un z]
    by_cases hj : t ≤ j ∧ j < t + 64
    · obtain ⟨p, rfl⟩ : ∃ p, j = t + p := ⟨j - t, by omega⟩
      have hp : p < 64 := by omega
      have e' : D' p = D p := by
        rw [h p hp]
        have : ¬ p = q := by omega
        simp [this]
      cases hD : D p with
      | true => rw [pa_w_in hp hD, pa_w_in hp (by rw [e']; exact hD)]
      | false => rw [pa_w_no hD, pa_w_no (by rw [e']; exact hD)]
    · rw [pa_w_out (by omega), pa_w_out (by omega)]
/-- done: the first i places -/
def pa_dl (i : Nat) : Nat → Bool := fun q => decide (q < i)
/-- done: columns below a, and of column a the first b -/
def pa_dn (a b : Nat) : Nat → Bool := fun q => decide (q % 8 < a ∨ (q % 8 = a ∧ q / 8 < b))
/-- done: the diagonal's first i places -/
def pa_dd (i : Nat) : Nat → Bool := fun q => decide (q % 9 = 0 ∧ q / 9 < i)
def pa_al : Nat → Bool := fun _ => true
theorem pa_dl_s (i : Nat) : ∀ p, p < 64 → pa_dl (i + 1) p = (pa_dl i p || decide (p = i)) := by
  intro p _
  unfold pa_dl
  rw [← Bool.decide_or]
  exact decide_eq_decide.mpr (by omega)
theorem pa_dl_0 : ∀ q, q < 64 → pa_dl 0 q = false := by
  intro q _
  exact decide_eq_false (by omega)
theorem pa_dl_64 : ∀ q, q < 64 → pa_dl 64 q = pa_al q := by
  intro q h
  exact decide_eq_true h
theorem pa_dn_s {a b : Nat} (ha : a < 8) : ∀ p, p < 64 → pa_dn a (b + 1) p = (pa_dn a b p || decide (p = a + 8 * b)) := by
  intro p _
  unfold pa_dn
  rw [← Bool.decide_or]
  exact decide_eq_decide.mpr (by omega)
theorem pa_dn_0 : ∀ q, q < 64 → pa_dn 0 0 q = false := by
  intro q _
  exact decide_eq_false (by omega)
theorem pa_dn_n (a : Nat) : ∀ q, q < 64 → pa_dn a 8 q = pa_dn (a + 1) 0 q := by
  intro q _
  exact decide_eq_decide.mpr (by omega)
theorem pa_dn_8 : ∀ q, q < 64 → pa_dn 8 0 q = pa_al q := by
  intro q _
  exact decide_eq_true (by omega)
theorem pa_dd_s (i : Nat) : ∀ p, p < 64 → pa_dd (i + 1) p = (pa_dd i p || decide (p = i * 9)) := by
  intro p _
  unfold pa_dd
  rw [← Bool.decide_or]
  exact decide_eq_decide.mpr (by omega)
theorem pa_dd_0 : ∀ q, q < 64 → pa_dd 0 q = false := by
  intro q _
  exact decide_eq_false (by omega)
/-! places, as the walks print them -/
theorem pa_i1 (a b : Nat) : nI a + nI b = nI (a + b) := nI_add a b
theorem pa_i2 (a b : Nat) : nI a + 8 * nI b = nI (a + 8 * b) := by
  show nI a + nI 8 * nI b = _
  rw [pk_mul, nI_add]
theorem pa_i3 (t a b : Nat) : nI t + nI a + 8 * nI b = nI (t + (a + 8 * b)) := by
  rw [nI_add, pa_i2, Nat.add_assoc]
theorem pa_i4 (l q : Nat) : nI l * 64 + nI q = nI (l * 64 + q) := by
  show nI l * nI 64 + nI q = _
  rw [pk_mul, nI_add]
theorem pa_i5 (l q : Nat) : nI l * 64 + 64 + nI q = nI ((l + 1) * 64 + q) := by
  show nI l * nI 64 + nI 64 + nI q = _
  rw [pk_mul, nI_add, nI_add]
  exact congrArg nI (by omega)
theorem pa_i6 (l q : Nat) : nI l * 64 + 128 + nI q = nI ((l + 2) * 64 + q) := by
  show nI l * nI 64 + nI 128 + nI q = _
  rw [pk_mul, nI_add, nI_add]
  exact congrArg nI (by omega)
theorem pa_dv {p : Nat} (h : p < 64) : nI p / 8 = nI (p / 8) := pk_div (d := 8) (by omega) (by decide) (by decide)
theorem pa_rm {p : Nat} (h : p < 64) : nI p - nI p / 8 * 8 = nI (p % 8) := pk_rem (d := 8) (by omega) (by decide) (by decide)
theorem pa_i7 (l a b c : Nat) : nI l * 64 + nI a + 8 * nI b = nI (l * 64 + (a + 8 * b)) := by
  rw [pa_i4, pa_i2, Nat.add_assoc]
theorem pa_i8 {l p m : Nat} (h : p < 64) : nI l * 64 + (nI p / 8) * 8 + nI m = nI (l * 64 + (p / 8 * 8 + m)) := by
  rw [pa_dv h]
  show nI l * nI 64 + nI (p / 8) * nI 8 + nI m = _
  rw [pk_mul, pk_mul, nI_add, nI_add, Nat.add_assoc]
theorem pa_i9 {l p m : Nat} (h : p < 64) : nI l * 64 + 64 + nI m * 8 + (nI p - nI p / 8 * 8) = nI ((l + 1) * 64 + (m * 8 + p % 8)) := by
  rw [pa_rm h]
  show nI l * nI 64 + nI 64 + nI m * nI 8 + nI (p % 8) = _
  rw [pk_mul, pk_mul, nI_add, nI_add, nI_add]
  exact congrArg nI (by omega)
theorem pa_ia {l p m : Nat} (h : p < 64) : nI l * 64 + nI m * 8 + (nI p - nI p / 8 * 8) = nI (l * 64 + (m * 8 + p % 8)) := by
  rw [pa_rm h]
  show nI l * nI 64 + nI m * nI 8 + nI (p % 8) = _
  rw [pk_mul, pk_mul, nI_add, nI_add]
  exact congrArg nI (by omega)
theorem pa_ib (l a : Nat) : nI l * 64 + nI a * 9 = nI (l * 64 + a * 9) := by
  show nI l * nI 64 + nI a * nI 9 = _
  rw [pk_mul, pk_mul, nI_add]
theorem pa_ic (l a b : Nat) : nI l * 64 + nI a * 8 + nI b = nI (l * 64 + (a * 8 + b)) := by
  show nI l * nI 64 + nI a * nI 8 + nI b = _
  rw [pk_mul, pk_mul, nI_add, nI_add, Nat.add_assoc]
/-- within, and the place -/
theorem pa_in {x : Int32} {n N : Nat} (e : x = nI n) (h : n < N) (hN : N < 2 ^ 31) : vp_in x N := by
  rw [e]; exact vp_in_nI h hN
theorem pa_cl {x : Int32} {n : Nat} (e : x = nI n) (h : n < 2 ^ 31) : x.toNatClampNeg = n := by
  rw [e]; exact nI_clamp h
