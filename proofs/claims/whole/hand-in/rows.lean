section
theorem pk_us {f : Nat → Int32} {k : Nat} {x : Int32} : upd f k x k = x := if_pos rfl
theorem pk_un {f : Nat → Int32} {k j : Nat} {x : Int32} (h : j ≠ k) : upd f k x j = f j := if_neg h
theorem pk_sub {a b : Nat} (h : b ≤ a) : nI a - nI b = nI (a - b) := by
  obtain ⟨c, rfl⟩ : ∃ c, a = c + b := ⟨a - b, by omega⟩
  rw [← nI_add, Int32.add_sub_cancel, Nat.add_sub_cancel]
theorem pk_m1 (n : Nat) : nI (n + 1) + (-1) = nI n := by
  rw [← nI_1, Int32.add_assoc, show (1 : Int32) + (-1) = 0 from rfl, Int32.add_zero]
theorem pk_mul (a b : Nat) : nI a * nI b = nI (a * b) := (Int32.ofNat_mul a b).symm
theorem pk_div {a d : Nat} (ha : a < 2 ^ 31) (h0 : 0 < d) (hd : d < 2 ^ 31) : nI a / nI d = nI (a / d) := by
  apply Int32.toInt_inj.mp
  rw [lg_idiv_nonneg (by rw [nI_toInt ha]; omega) (by rw [nI_toInt hd]; omega), nI_toInt ha, nI_toInt hd, nI_toInt (Nat.lt_of_le_of_lt (Nat.div_le_self a d) ha)]
  first | rfl | exact (Int.natCast_ediv _ _).symm
theorem pk_rem {a d : Nat} (ha : a < 2 ^ 31) (h0 : 0 < d) (hd : d < 2 ^ 31) : nI a - nI a / nI d * nI d = nI (a % d) := by
  rw [pk_div ha h0 hd, pk_mul, pk_sub (Nat.div_mul_le_self a d)]
  exact congrArg nI (by have := Nat.div_add_mod' a d; omega)
theorem pk_le {x y : Int32} {A B : Prop} (a b : Nat) (f : a ≤ b → A) (g : b < a → B) (hx : x = nI a := by rfl) (hy : y = nI b := by rfl) (ha : a < 2 ^ 31 := by omega) (hb : b < 2 ^ 31 := by omega) : (x ≤ y → A) ∧ (¬ x ≤ y → B) := by
  subst hx hy
  rw [nI_leI ha hb]
  exact ⟨f, fun z => g (by omega)⟩
theorem pk_lt {x y : Int32} {A B : Prop} (a b : Nat) (f : a < b → A) (g : b ≤ a → B) (hx : x = nI a := by rfl) (hy : y = nI b := by rfl) (ha : a < 2 ^ 31 := by omega) (hb : b < 2 ^ 31 := by omega) : (x < y → A) ∧ (¬ x < y → B) := by
  subst hx hy
  rw [nI_ltI ha hb]
  exact ⟨f, fun z => g (by omega)⟩
theorem pk_eq {x y : Int32} {A B : Prop} (a b : Nat) (f : a = b → A) (g : a ≠ b → B) (hx : x = nI a := by rfl) (hy : y = nI b := by rfl) (ha : a < 2 ^ 31 := by omega) (hb : b < 2 ^ 31 := by omega) : (x = y → A) ∧ (¬ x = y → B) := by
  subst hx hy
  rw [nI_eq ha hb]
  exact ⟨f, g⟩
theorem pk_in {x : Int32} (n N : Nat) (h : n < N) (hx : x = nI n := by rfl) (hN : N < 2 ^ 31 := by omega) : vp_in x N := by
  subst hx
  exact vp_in_nI h hN
theorem pk_cl {x : Int32} (n : Nat) (hx : x = nI n := by rfl) (h : n < 2 ^ 31 := by omega) : x.toNatClampNeg = n := by
  subst hx
  exact nI_clamp h
/-- an array whose places q of the table at t with D q hold g q, the others as in A -/
def pa_w (A : Nat → Int32) (t : Nat) (D : Nat → Bool) (g : Nat → Nat) : Nat → Int32 :=
  fun j => if t ≤ j ∧ j < t + 64 ∧ D (j - t) = true then nI (g (j - t)) else A j
theorem pa_w_in {A : Nat → Int32} {t : Nat} {D : Nat → Bool} {g : Nat → Nat} {q : Nat} (hq : q < 64) (hD : D q = true) : pa_w A t D g (t + q) = nI (g q) := by
  unfold pa_w
  rw [Nat.add_sub_cancel_left, if_pos ⟨by omega, by omega, hD⟩]
theorem pa_w_no {A : Nat → Int32} {t : Nat} {D : Nat → Bool} {g : Nat → Nat} {q : Nat} (hD : D q = false) : pa_w A t D g (t + q) = A (t + q) := by
  unfold pa_w
  rw [Nat.add_sub_cancel_left, if_neg (fun h => by rw [hD] at h; exact absurd h.2.2 (by decide))]
theorem pa_w_out {A : Nat → Int32} {t : Nat} {D : Nat → Bool} {g : Nat → Nat} {j : Nat} (h : j < t ∨ t + 64 ≤ j) : pa_w A t D g j = A j := by
  unfold pa_w
  rw [if_neg (by omega)]
theorem pa_w_c {A : Nat → Int32} {t : Nat} {D D' : Nat → Bool} {g : Nat → Nat} (h : ∀ q, q < 64 → D q = D' q) : pa_w A t D g = pa_w A t D' g := by
  funext j
  by_cases hj : t ≤ j ∧ j < t + 64
  · obtain ⟨q, rfl⟩ : ∃ q, j = t + q := ⟨j - t, by omega⟩
    have hq : q < 64 := by omega
    cases hD : D q with
    | true => rw [pa_w_in hq hD, pa_w_in hq (by rw [← h q hq]; exact hD)]
    | false => rw [pa_w_no hD, pa_w_no (by rw [← h q hq]; exact hD)]
  · rw [pa_w_out (by omega), pa_w_out (by omega)]
theorem pa_w_0 {A : Nat → Int32} {t : Nat} {D : Nat → Bool} {g : Nat → Nat} (h : ∀ q, q < 64 → D q = false) : pa_w A t D g = A := by
  funext j
  by_cases hj : t ≤ j ∧ j < t + 64
  · obtain ⟨q, rfl⟩ : ∃ q, j = t + q := ⟨j - t, by omega⟩
    rw [pa_w_no (h q (by omega))]
  · rw [pa_w_out (by omega)]
theorem pa_w_k {A : Nat → Int32} {t : Nat} {D D' : Nat → Bool} {g : Nat → Nat} {q : Nat} (h : ∀ p, p < 64 → D' p = (D p || decide (p = q))) (hv : pa_w A t D g (t + q) = nI (g q)) : pa_w A t D g = pa_w A t D' g := by
  funext j
  by_cases hj : t ≤ j ∧ j < t + 64
  · obtain ⟨p, rfl⟩ : ∃ p, j = t + p := ⟨j - t, by omega⟩
    have hp : p < 64 := by omega
    have e := h p hp
    by_cases z : p = q
    · subst z
      rw [hv, pa_w_in hp (by rw [e]; simp)]
    · have e' : D' p = D p := by rw [e]; simp [z]
      cases hD : D p with
      | true => rw [pa_w_in hp hD, pa_w_in hp (by rw [e']; exact hD)]
      | false => rw [pa_w_no hD, pa_w_no (by rw [e']; exact hD)]
  · rw [pa_w_out (by omega), pa_w_out (by omega)]
theorem pa_w_s {A : Nat → Int32} {t : Nat} {D D' : Nat → Bool} {g : Nat → Nat} {q k : Nat} {v : Int32} (hq : q < 64) (h : ∀ p, p < 64 → D' p = (D p || decide (p = q))) (hk : k = t + q) (hv : v = nI (g q)) : upd (pa_w A t D g) k v = pa_w A t D' g := by
  subst hk hv
  funext j
  by_cases z : j = t + q
  · subst z
    rw [pk_us, pa_w_in hq (by rw [h q hq]; simp)]
  · rw [pk_un z]
    by_cases hj : t ≤ j ∧ j < t + 64
    · obtain ⟨p, rfl⟩ : ∃ p, j = t + p := ⟨j - t, by omega⟩
      have hp : p < 64 := by omega
      have e' : D' p = D p := by
        rw [h p hp]
        have : ¬ p = q := by omega
        simp [this]
      cases hD : D p with
      | true => rw [pa_w_in hp hD, pa_w_in hp (by rw [e']; exact hD)]
      | false => rw [pa_w_no hD, pa_w_no (by rw [e']; exact hD)]
    · rw [pa_w_out (by omega), pa_w_out (by omega)]
/-- done: the first i places -/
def pa_dl (i : Nat) : Nat → Bool := fun q => decide (q < i)
/-- done: columns below a, and of column a the first b -/
def pa_dn (a b : Nat) : Nat → Bool := fun q => decide (q % 8 < a ∨ (q % 8 = a ∧ q / 8 < b))
/-- done: the diagonal's first i places -/
def pa_dd (i : Nat) : Nat → Bool := fun q => decide (q % 9 = 0 ∧ q / 9 < i)
def pa_al : Nat → Bool := fun _ => true
theorem pa_dl_s (i : Nat) : ∀ p, p < 64 → pa_dl (i + 1) p = (pa_dl i p || decide (p = i)) := by
  intro p _
  unfold pa_dl
  rw [← Bool.decide_or]
  exact decide_eq_decide.mpr (by omega)
theorem pa_dl_0 : ∀ q, q < 64 → pa_dl 0 q = false := by
  intro q _
  exact decide_eq_false (by omega)
theorem pa_dl_64 : ∀ q, q < 64 → pa_dl 64 q = pa_al q := by
  intro q h
  exact decide_eq_true h
theorem pa_dn_s {a b : Nat} (ha : a < 8) : ∀ p, p < 64 → pa_dn a (b + 1) p = (pa_dn a b p || decide (p = a + 8 * b)) := by
  intro p _
  unfold pa_dn
  rw [← Bool.decide_or]
  exact decide_eq_decide.mpr (by omega)
theorem pa_dn_0 : ∀ q, q < 64 → pa_dn 0 0 q = false := by
  intro q _
  exact decide_eq_false (by omega)
theorem pa_dn_n (a : Nat) : ∀ q, q < 64 → pa_dn a 8 q = pa_dn (a + 1) 0 q := by
  intro q _
  exact decide_eq_decide.mpr (by omega)
theorem pa_dn_8 : ∀ q, q < 64 → pa_dn 8 0 q = pa_al q := by
  intro q _
  exact decide_eq_true (by omega)
theorem pa_dd_s (i : Nat) : ∀ p, p < 64 → pa_dd (i + 1) p = (pa_dd i p || decide (p = i * 9)) := by
  intro p _
  unfold pa_dd
  rw [← Bool.decide_or]
  exact decide_eq_decide.mpr (by omega)
theorem pa_dd_0 : ∀ q, q < 64 → pa_dd 0 q = false := by
  intro q _
  exact decide_eq_false (by omega)
/-! places, as the walks print them -/
theorem pa_i1 (a b : Nat) : nI a + nI b = nI (a + b) := nI_add a b
theorem pa_i2 (a b : Nat) : nI a + 8 * nI b = nI (a + 8 * b) := by
  show nI a + nI 8 * nI b = _
  rw [pk_mul, nI_add]
theorem pa_i3 (t a b : Nat) : nI t + nI a + 8 * nI b = nI (t + (a + 8 * b)) := by
  rw [nI_add, pa_i2, Nat.add_assoc]
theorem pa_i4 (l q : Nat) : nI l * 64 + nI q = nI (l * 64 + q) := by
  show nI l * nI 64 + nI q = _
  rw [pk_mul, nI_add]
theorem pa_i5 (l q : Nat) : nI l * 64 + 64 + nI q = nI ((l + 1) * 64 + q) := by
  show nI l * nI 64 + nI 64 + nI q = _
  rw [pk_mul, nI_add, nI_add]
  exact congrArg nI (by omega)
theorem pa_i6 (l q : Nat) : nI l * 64 + 128 + nI q = nI ((l + 2) * 64 + q) := by
  show nI l * nI 64 + nI 128 + nI q = _
  rw [pk_mul, nI_add, nI_add]
  exact congrArg nI (by omega)
theorem pa_dv {p : Nat} (h : p < 64) : nI p / 8 = nI (p / 8) := pk_div (d := 8) (by omega) (by decide) (by decide)
theorem pa_rm {p : Nat} (h : p < 64) : nI p - nI p / 8 * 8 = nI (p % 8) := pk_rem (d := 8) (by omega) (by decide) (by decide)
theorem pa_i7 (l a b c : Nat) : nI l * 64 + nI a + 8 * nI b = nI (l * 64 + (a + 8 * b)) := by
  rw [pa_i4, pa_i2, Nat.add_assoc]
theorem pa_i8 {l p m : Nat} (h : p < 64) : nI l * 64 + (nI p / 8) * 8 + nI m = nI (l * 64 + (p / 8 * 8 + m)) := by
  rw [pa_dv h]
  show nI l * nI 64 + nI (p / 8) * nI 8 + nI m = _
  rw [pk_mul, pk_mul, nI_add, nI_add, Nat.add_assoc]
theorem pa_i9 {l p m : Nat} (h : p < 64) : nI l * 64 + 64 + nI m * 8 + (nI p - nI p / 8 * 8) = nI ((l + 1) * 64 + (m * 8 + p % 8)) := by
  rw [pa_rm h]
  show nI l * nI 64 + nI 64 + nI m * nI 8 + nI (p % 8) = _
  rw [pk_mul, pk_mul, nI_add, nI_add, nI_add]
  exact congrArg nI (by omega)
theorem pa_ia {l p m : Nat} (h : p < 64) : nI l * 64 + nI m * 8 + (nI p - nI p / 8 * 8) = nI (l * 64 + (m * 8 + p % 8)) := by
  rw [pa_rm h]
  show nI l * nI 64 + nI m * nI 8 + nI (p % 8) = _
  rw [pk_mul, pk_mul, nI_add, nI_add]
  exact congrArg nI (by omega)
theorem pa_ib (l a : Nat) : nI l * 64 + nI a * 9 = nI (l * 64 + a * 9) := by
  show nI l * nI 64 + nI a * nI 9 = _
  rw [pk_mul, pk_mul, nI_add]
theorem pa_ic (l a b : Nat) : nI l * 64 + nI a * 8 + nI b = nI (l * 64 + (a * 8 + b)) := by
  show nI l * nI 64 + nI a * nI 8 + nI b = _
  rw [pk_mul, pk_mul, nI_add, nI_add, Nat.add_assoc]
/-- within, and the place -/
theorem pa_in {x : Int32} {n N : Nat} (e : x = nI n) (h : n < N) (hN : N < 2 ^ 31) : vp_in x N := by
  rw [e]; exact vp_in_nI h hN
theorem pa_cl {x : Int32} {n : Nat} (e : x = nI n) (h : n < 2 ^ 31) : x.toNatClampNeg = n := by
  rw [e]; exact nI_clamp h
end
section
/-! matrices of least lengths, 8 by 8, capped at 1000000 -/
def pa_jn (M N : Nat → Nat → Nat) (a b : Nat) : Nat → Nat
  | 0 => 1000000
  | k + 1 => min (pa_jn M N a b k) (M a k + N k b)
def pa_rd (T : Nat → Nat → Nat) (m : Nat) : Nat → Nat → Nat := fun a b => min (T a b) (T a m + T m b)
def pa_dg (T : Nat → Nat → Nat) : Nat → Nat → Nat := fun a b => if a = b then 0 else T a b
def pa_st (T : Nat → Nat → Nat) : Nat → Nat → Nat → Nat
  | 0 => pa_dg T
  | m + 1 => pa_rd (pa_st T m) m
theorem pa_jn_le (M N : Nat → Nat → Nat) (a b k : Nat) : pa_jn M N a b k ≤ 1000000 := by
  induction k with
  | zero => exact Nat.le_refl _
  | succ k ih => exact Nat.le_trans (Nat.min_le_left _ _) ih
theorem pa_st_le {T : Nat → Nat → Nat} (h : ∀ a b, a < 8 → b < 8 → T a b ≤ 1000000) (m : Nat) : ∀ a b, a < 8 → b < 8 → pa_st T m a b ≤ 1000000 := by
  induction m with
  | zero =>
    intro a b ha hb
    show (if a = b then 0 else T a b) ≤ 1000000
    split
    · omega
    · exact h a b ha hb
  | succ m ih => intro a b ha hb; exact Nat.le_trans (Nat.min_le_left _ _) (ih a b ha hb)
theorem pa_st_d (T : Nat → Nat → Nat) (m : Nat) (a : Nat) : pa_st T m a a = 0 := by
  induction m with
  | zero => exact if_pos rfl
  | succ m ih =>
    show min (pa_st T m a a) _ = 0
    omega
/-- every node below m may be gone through -/
def pa_J (T : Nat → Nat → Nat) (m : Nat) : Prop := ∀ a b c, a < 8 → b < 8 → c < m → T a b ≤ T a c + T c b
theorem pa_J_st (T : Nat → Nat → Nat) : ∀ m, m ≤ 8 → pa_J (pa_st T m) m := by
  intro m
  induction m with
  | zero => intro _ a b c _ _ hc; omega
  | succ m ih =>
    intro hm a b c ha hb hc
    have J := ih (by omega)
    show min (pa_st T m a b) (pa_st T m a m + pa_st T m m b) ≤ min (pa_st T m a c) (pa_st T m a m + pa_st T m m c) + min (pa_st T m c b) (pa_st T m c m + pa_st T m m b)
    by_cases z : c = m
    · subst z
      have := pa_st_d T c c
      omega
    · have j1 := J a b c ha hb (by omega)
      have j2 := J m b c (by omega) hb (by omega)
      have j3 := J a m c ha (by omega) (by omega)
      omega
def pa_s8 (x : Nat → Nat) : Nat := x 0 + x 1 + x 2 + x 3 + x 4 + x 5 + x 6 + x 7
/-- T a b is far, or has a set x of nodes between, all below m, and is at most B for each way between -/
def pa_W (T : Nat → Nat → Nat) (B m : Nat) : Prop := ∀ a b, a < 8 → b < 8 → T a b = 1000000 ∨ ∃ x : Nat → Nat,
  (∀ c, x c ≤ 1) ∧ (∀ c, m ≤ c → x c = 0) ∧ T a b ≤ B * (1 + pa_s8 x) ∧ ∀ c, x c = 1 → T a c + T c b ≤ T a b
theorem pa_s8_1 {m : Nat} (h : m < 8) : pa_s8 (fun c => if c = m then 1 else 0) = 1 := by
  rcases (by omega : m = 0 ∨ m = 1 ∨ m = 2 ∨ m = 3 ∨ m = 4 ∨ m = 5 ∨ m = 6 ∨ m = 7) with z | z | z | z | z | z | z | z <;> subst z <;> rfl
theorem pa_s8_a (x y z : Nat → Nat) : pa_s8 (fun c => x c + y c + z c) = pa_s8 x + pa_s8 y + pa_s8 z := by
  unfold pa_s8
  dsimp only
  omega
theorem pa_W_st {T : Nat → Nat → Nat} {B : Nat} (hT : ∀ a b, a < 8 → b < 8 → T a b = 1000000 ∨ T a b ≤ B) (hF : ∀ a b, a < 8 → b < 8 → T a b ≤ 1000000) : ∀ m, m ≤ 8 → pa_W (pa_st T m) B m := by
  intro m
  induction m with
  | zero =>
    intro _ a b ha hb
    show (if a = b then 0 else T a b) = 1000000 ∨ ∃ x : Nat → Nat, (∀ c, x c ≤ 1) ∧ (∀ c, 0 ≤ c → x c = 0) ∧ (if a = b then 0 else T a b) ≤ B * (1 + pa_s8 x) ∧ ∀ c, x c = 1 → _
    have key : (if a = b then 0 else T a b) = 1000000 ∨ (if a = b then 0 else T a b) ≤ B := by
      split
      · right; omega
      · exact hT a b ha hb
    rcases key with h | h
    · exact Or.inl h
    · refine Or.inr ⟨fun _ => 0, fun _ => Nat.zero_le 1, fun _ _ => rfl, ?_, fun c hc => ?_⟩
      · show _ ≤ B * 1
        omega
      · exact absurd (show (0 : Nat) = 1 from hc) (by decide)
  | succ m ih =>
    intro hm a b ha hb
    have W := ih (by omega)
    have J := pa_J_st T m (by omega)
    have hFm := pa_st_le hF m
    have hd := pa_st_d T m m
    have hm8 : m < 8 := by omega
    -- the values of the next matrix
    have e : ∀ a b, pa_st T (m + 1) a b = min (pa_st T m a b) (pa_st T m a m + pa_st T m m b) := fun _ _ => rfl
    generalize pa_st T (m + 1) = U at e
    generalize pa_st T m = V at *
    by_cases z : V a b ≤ V a m + V m b
    · have eab : U a b = V a b := by rw [e]; omega
      rcases W a b ha hb with h | ⟨x, x1, x2, x3, x4⟩
      · exact Or.inl (by rw [eab]; exact h)
      · refine Or.inr ⟨x, x1, fun c hc => x2 c (by omega), by rw [eab]; exact x3, fun c hc => ?_⟩
        have h4 := x4 c hc
        have := e a c
        have := e c b
        omega
    · have eab : U a b = V a m + V m b := by rw [e]; omega
      have hab := hFm a b ha hb
      rcases W a m ha hm8 with h | ⟨x, x1, x2, x3, x4⟩
      · omega
      rcases W m b hm8 hb with h | ⟨y, y1, y2, y3, y4⟩
      · omega
      have dis : ∀ c, x c + y c ≤ 1 := by
        intro c
        have p1 := x1 c
        have p2 := y1 c
        by_cases q1 : x c = 1
        · by_cases q2 : y c = 1
          · have r1 := x4 c q1
            have r2 := y4 c q2
            have hc : c < m := by
              rcases Nat.lt_or_ge c m with k | k
              · exact k
              · have := x2 c k
                omega
            have r3 := J a b c ha hb hc
            omega
          · omega
        · omega
      refine Or.inr ⟨fun c => x c + y c + (if c = m then 1 else 0), fun c => ?_, fun c hc => ?_, ?_, fun c hc => ?_⟩
      · show x c + y c + (if c = m then 1 else 0) ≤ 1
        split
        · next hcm =>
          have := x2 c (by omega)
          have := y2 c (by omega)
          omega
        · exact dis c
      · show x c + y c + (if c = m then 1 else 0) = 0
        rw [x2 c (by omega), y2 c (by omega), if_neg (by omega)]
      · rw [pa_s8_a x y (fun c => if c = m then 1 else 0), pa_s8_1 hm8, eab]
        have d1 : B * (1 + (pa_s8 x + pa_s8 y + 1)) = B * (1 + pa_s8 x) + B * (1 + pa_s8 y) := by
          rw [← Nat.mul_add]
          exact congrArg (B * ·) (by omega)
        omega
      · have hc' : x c + y c + (if c = m then 1 else 0) = 1 := hc
        have e1 := e a c
        have e2 := e c b
        by_cases q0 : c = m
        · subst q0
          have := e a c
          omega
        · rw [if_neg q0] at hc'
          by_cases q1 : x c = 1
          · have := x4 c q1
            omega
          · have := y4 c (by omega)
            omega
theorem pa_s8_le {x : Nat → Nat} (h : ∀ c, x c ≤ 1) : pa_s8 x ≤ 8 := by
  unfold pa_s8
  have := h 0
  have := h 1
  have := h 2
  have := h 3
  have := h 4
  have := h 5
  have := h 6
  have := h 7
  omega
/-- the star's lengths are far, or at most nine times what went in -/
theorem pa_st_9 {T : Nat → Nat → Nat} {B : Nat} (hT : ∀ a b, a < 8 → b < 8 → T a b = 1000000 ∨ T a b ≤ B) (hF : ∀ a b, a < 8 → b < 8 → T a b ≤ 1000000) : ∀ a b, a < 8 → b < 8 → pa_st T 8 a b = 1000000 ∨ pa_st T 8 a b ≤ 9 * B := by
  intro a b ha hb
  rcases pa_W_st hT hF 8 (Nat.le_refl 8) a b ha hb with h | ⟨x, x1, _, x3, _⟩
  · exact Or.inl h
  · refine Or.inr (Nat.le_trans x3 ?_)
    rw [Nat.mul_comm 9 B]
    exact Nat.mul_le_mul_left B (by have := pa_s8_le x1; omega)
/-- closed: a way through any node is no shorter; no way at all leads to the node itself -/
def pa_C (T : Nat → Nat → Nat) : Prop := (∀ a b c, a < 8 → b < 8 → c < 8 → T a b ≤ T a c + T c b) ∧ ∀ a, a < 8 → T a a = 0
theorem pa_st_C (T : Nat → Nat → Nat) : pa_C (pa_st T 8) := ⟨pa_J_st T 8 (Nat.le_refl 8), fun a _ => pa_st_d T 8 a⟩
theorem pa_C_st {T : Nat → Nat → Nat} (h : pa_C T) : ∀ m, m ≤ 8 → ∀ a b, a < 8 → b < 8 → pa_st T m a b = T a b := by
  intro m
  induction m with
  | zero =>
    intro _ a b ha _
    show (if a = b then 0 else T a b) = T a b
    split
    · next z => subst z; exact (h.2 a ha).symm
    · rfl
  | succ m ih =>
    intro hm a b ha hb
    show min (pa_st T m a b) (pa_st T m a m + pa_st T m m b) = T a b
    rw [ih (by omega) a b ha hb, ih (by omega) a m ha (by omega), ih (by omega) m b (by omega) hb]
    have := h.1 a b m ha hb (by omega)
    omega
end
section
/-! the stack machine: level, from, to; what each step makes -/
def pa_lab (ed : Nat → Int32) (r : Int32) : Nat → Nat → Nat := fun a b => if ed (r.toNatClampNeg * 64 + (a + 8 * b)) = 0 then 1000000 else 1
def pa_bck (ed : Nat → Int32) (r : Int32) : Nat → Nat → Nat := fun a b => if ed (r.toNatClampNeg * 64 + (b + 8 * a)) = 0 then 1000000 else 1
def pa_atm (r : Int32) : Nat → Nat → Nat := fun a b => if a = b ∧ (r = -1 ∨ r = nI a) then 0 else 1000000
def pa_thn (M N : Nat → Nat → Nat) : Nat → Nat → Nat := fun a b => pa_jn M N a b 8
def pa_orr (M N : Nat → Nat → Nat) : Nat → Nat → Nat := fun a b => min (M a b) (N a b)
def pa_put (S : Nat → Nat → Nat → Nat) (d : Nat) (M : Nat → Nat → Nat) : Nat → Nat → Nat → Nat := fun l => if l = d then M else S l
theorem pa_put_s {S : Nat → Nat → Nat → Nat} {d : Nat} {M : Nat → Nat → Nat} : pa_put S d M d = M := if_pos rfl
theorem pa_put_n {S : Nat → Nat → Nat → Nat} {d l : Nat} {M : Nat → Nat → Nat} (h : l ≠ d) : pa_put S d M l = S l := if_neg h
def pa_dep (k : Int32) (d : Nat) : Nat := if k = 0 ∨ k = 1 ∨ k = 2 then d + 1 else if k = 3 ∨ k = 4 then d - 1 else d
def pa_stp (ed : Nat → Int32) (k r : Int32) (d : Nat) (S : Nat → Nat → Nat → Nat) : Nat → Nat → Nat → Nat :=
  if k = 0 then pa_put S d (pa_lab ed r)
  else if k = 1 then pa_put S d (pa_bck ed r)
  else if k = 2 then pa_put S d (pa_atm r)
  else if k = 3 then pa_put S (d - 2) (pa_thn (S (d - 2)) (S (d - 1)))
  else if k = 4 then pa_put S (d - 2) (pa_orr (S (d - 2)) (S (d - 1)))
  else pa_put S (d - 1) (pa_st (S (d - 1)) 8)
def pa_d (K : Nat → Int32) : Nat → Nat
  | 0 => 0
  | i + 1 => pa_dep (K i) (pa_d K i)
def pa_S (ed K R : Nat → Int32) : Nat → Nat → Nat → Nat → Nat
  | 0 => fun _ _ _ => 0
  | i + 1 => pa_stp ed (K i) (R i) (pa_d K i) (pa_S ed K R i)
/-- what a step that was let in looks like, on a stack of d -/
def pa_ok (k r : Int32) (d : Nat) : Prop :=
  (k = 0 ∧ (∃ l, l < 3 ∧ r = nI l) ∧ d < 6) ∨ (k = 1 ∧ (∃ l, l < 3 ∧ r = nI l) ∧ d < 6) ∨ (k = 2 ∧ (r = -1 ∨ ∃ n, n < 8 ∧ r = nI n) ∧ d < 6)
  ∨ (k = 3 ∧ 2 ≤ d) ∨ (k = 4 ∧ 2 ≤ d) ∨ (k = 5 ∧ 1 ≤ d)
theorem pa_dep_0 (d : Nat) : pa_dep 0 d = d + 1 := if_pos (by decide)
theorem pa_dep_1 (d : Nat) : pa_dep 1 d = d + 1 := if_pos (by decide)
theorem pa_dep_2 (d : Nat) : pa_dep 2 d = d + 1 := if_pos (by decide)
theorem pa_dep_3 (d : Nat) : pa_dep 3 d = d - 1 := (if_neg (by decide)).trans (if_pos (by decide))
theorem pa_dep_4 (d : Nat) : pa_dep 4 d = d - 1 := (if_neg (by decide)).trans (if_pos (by decide))
theorem pa_dep_5 (d : Nat) : pa_dep 5 d = d := (if_neg (by decide)).trans (if_neg (by decide))
theorem pa_stp_0 (ed : Nat → Int32) (r : Int32) (d : Nat) (S : Nat → Nat → Nat → Nat) : pa_stp ed 0 r d S = pa_put S d (pa_lab ed r) := if_pos rfl
theorem pa_stp_1 (ed : Nat → Int32) (r : Int32) (d : Nat) (S : Nat → Nat → Nat → Nat) : pa_stp ed 1 r d S = pa_put S d (pa_bck ed r) := (if_neg (by decide)).trans (if_pos rfl)
theorem pa_stp_2 (ed : Nat → Int32) (r : Int32) (d : Nat) (S : Nat → Nat → Nat → Nat) : pa_stp ed 2 r d S = pa_put S d (pa_atm r) := (if_neg (by decide)).trans ((if_neg (by decide)).trans (if_pos rfl))
theorem pa_stp_3 (ed : Nat → Int32) (r : Int32) (d : Nat) (S : Nat → Nat → Nat → Nat) : pa_stp ed 3 r d S = pa_put S (d - 2) (pa_thn (S (d - 2)) (S (d - 1))) := (if_neg (by decide)).trans ((if_neg (by decide)).trans ((if_neg (by decide)).trans (if_pos rfl)))
theorem pa_stp_4 (ed : Nat → Int32) (r : Int32) (d : Nat) (S : Nat → Nat → Nat → Nat) : pa_stp ed 4 r d S = pa_put S (d - 2) (pa_orr (S (d - 2)) (S (d - 1))) := (if_neg (by decide)).trans ((if_neg (by decide)).trans ((if_neg (by decide)).trans ((if_neg (by decide)).trans (if_pos rfl))))
theorem pa_stp_5 (ed : Nat → Int32) (r : Int32) (d : Nat) (S : Nat → Nat → Nat → Nat) : pa_stp ed 5 r d S = pa_put S (d - 1) (pa_st (S (d - 1)) 8) := (if_neg (by decide)).trans ((if_neg (by decide)).trans ((if_neg (by decide)).trans ((if_neg (by decide)).trans (if_neg (by decide)))))
theorem pa_dep_le {k r : Int32} {d : Nat} (h : pa_ok k r d) (hd : d ≤ 6) : pa_dep k d ≤ 6 := by
  rcases h with ⟨rfl, _, h⟩ | ⟨rfl, _, h⟩ | ⟨rfl, _, h⟩ | ⟨rfl, h⟩ | ⟨rfl, h⟩ | ⟨rfl, h⟩
  · rw [pa_dep_0]; omega
  · rw [pa_dep_1]; omega
  · rw [pa_dep_2]; omega
  · rw [pa_dep_3]; omega
  · rw [pa_dep_4]; omega
  · rw [pa_dep_5]; omega
theorem pa_d_le {K R : Nat → Int32} {m : Nat} (h : ∀ i, i < m → pa_ok (K i) (R i) (pa_d K i)) : ∀ i, i ≤ m → pa_d K i ≤ 6 := by
  intro i
  induction i with
  | zero => intro _; exact Nat.zero_le _
  | succ i ih => intro hi; exact pa_dep_le (h i (by omega)) (ih (by omega))
/-! how long the lengths can be, by the steps that an expression took: open ones f, closed ones g -/
def pa_f (n : Nat) : Nat := [0, 1, 1, 2, 10, 18, 19, 91, 163, 172, 820, 1468, 1549, 7381, 13213].getD n 0
def pa_g (n : Nat) : Nat := [0, 0, 9, 9, 18, 90, 162, 171, 819, 1467, 1548, 7380, 13212, 13941, 66429].getD n 0
def pa_h (n : Nat) : Nat := max (pa_f n) (pa_g n)
theorem pa_t1 : 1 ≤ pa_f 1 := by decide
theorem pa_t2' : ∀ i, i < 14 → ∀ j, j < 14 → 1 ≤ i → 1 ≤ j → i + j + 1 ≤ 14 → pa_h i + pa_h j ≤ pa_f (i + j + 1) := by decide +kernel
theorem pa_t2 {i j : Nat} (hi : 1 ≤ i) (hj : 1 ≤ j) (h : i + j + 1 ≤ 14) : pa_h i + pa_h j ≤ pa_f (i + j + 1) := pa_t2' i (by omega) j (by omega) hi hj h
theorem pa_t3 : ∀ n, n < 14 → 1 ≤ n → 9 * pa_f n ≤ pa_g (n + 1) ∧ pa_g n ≤ pa_g (n + 1) := by decide +kernel
theorem pa_t4 : ∀ n, n < 15 → pa_h n < 100000 := by decide +kernel
def pa_U (M : Nat → Nat → Nat) (B : Nat) : Prop := ∀ a b, a < 8 → b < 8 → M a b = 1000000 ∨ M a b ≤ B
def pa_B (M : Nat → Nat → Nat) (n : Nat) : Prop := (∀ a b, a < 8 → b < 8 → M a b ≤ 1000000) ∧ (pa_U M (pa_f n) ∨ (pa_C M ∧ pa_U M (pa_g n)))
theorem pa_B_h {M : Nat → Nat → Nat} {n : Nat} (h : pa_B M n) : pa_U M (pa_h n) := by
  intro a b ha hb
  have : pa_h n = max (pa_f n) (pa_g n) := rfl
  rcases h.2 with h | ⟨_, h⟩ <;> rcases h a b ha hb with h | h
  · exact Or.inl h
  · exact Or.inr (by omega)
  · exact Or.inl h
  · exact Or.inr (by omega)
theorem pa_B_1 {M : Nat → Nat → Nat} (h : ∀ a b, M a b = 1000000 ∨ M a b ≤ 1) : pa_B M 1 :=
  ⟨fun a b _ _ => by rcases h a b with z | z <;> omega, Or.inl fun a b _ _ => by
    have := pa_t1
    rcases h a b with z | z
    · exact Or.inl z
    · exact Or.inr (by omega)⟩
theorem pa_B_lab (ed : Nat → Int32) (r : Int32) : pa_B (pa_lab ed r) 1 := pa_B_1 fun a b => by
  unfold pa_lab
  split
  · exact Or.inl rfl
  · exact Or.inr (Nat.le_refl _)
theorem pa_B_bck (ed : Nat → Int32) (r : Int32) : pa_B (pa_bck ed r) 1 := pa_B_1 fun a b => by
  unfold pa_bck
  split
  · exact Or.inl rfl
  · exact Or.inr (Nat.le_refl _)
theorem pa_B_atm (r : Int32) : pa_B (pa_atm r) 1 := pa_B_1 fun a b => by
  unfold pa_atm
  split
  · exact Or.inr (Nat.zero_le _)
  · exact Or.inl rfl
theorem pa_jn_U {M N : Nat → Nat → Nat} {p q : Nat} (hM : pa_U M p) (hN : pa_U N q) {a b : Nat} (ha : a < 8) (hb : b < 8) : ∀ k, k ≤ 8 → pa_jn M N a b k = 1000000 ∨ pa_jn M N a b k ≤ p + q := by
  intro k
  induction k with
  | zero => intro _; exact Or.inl rfl
  | succ k ih =>
    intro hk
    have e : pa_jn M N a b (k + 1) = min (pa_jn M N a b k) (M a k + N k b) := rfl
    have h1 := ih (by omega)
    have h2 := hM a k ha (by omega)
    have h3 := hN k b (by omega) hb
    have h4 := pa_jn_le M N a b k
    omega
theorem pa_B_thn {M N : Nat → Nat → Nat} {p q : Nat} (hM : pa_B M p) (hN : pa_B N q) (hp : 1 ≤ p) (hq : 1 ≤ q) (h : p + q + 1 ≤ 14) : pa_B (pa_thn M N) (p + q + 1) := by
  refine ⟨fun a b _ _ => pa_jn_le M N a b 8, Or.inl fun a b ha hb => ?_⟩
  have t := pa_t2 hp hq h
  rcases pa_jn_U (pa_B_h hM) (pa_B_h hN) ha hb 8 (Nat.le_refl 8) with z | z
  · exact Or.inl z
  · exact Or.inr (Nat.le_trans z t)
theorem pa_B_orr {M N : Nat → Nat → Nat} {p q : Nat} (hM : pa_B M p) (hN : pa_B N q) (hp : 1 ≤ p) (hq : 1 ≤ q) (h : p + q + 1 ≤ 14) : pa_B (pa_orr M N) (p + q + 1) := by
  have t := pa_t2 hp hq h
  refine ⟨fun a b ha hb => Nat.le_trans (Nat.min_le_left _ _) (hM.1 a b ha hb), Or.inl fun a b ha hb => ?_⟩
  have h1 := pa_B_h hM a b ha hb
  have h2 := pa_B_h hN a b ha hb
  have h3 := hM.1 a b ha hb
  have h4 := hN.1 a b ha hb
  have e : pa_orr M N a b = min (M a b) (N a b) := rfl
  omega
theorem pa_B_st {M : Nat → Nat → Nat} {n : Nat} (hM : pa_B M n) (h1 : 1 ≤ n) (h : n < 14) : pa_B (pa_st M 8) (n + 1) := by
  have t := pa_t3 n h h1
  refine ⟨pa_st_le hM.1 8, Or.inr ⟨pa_st_C M, fun a b ha hb => ?_⟩⟩
  rcases hM.2 with z | ⟨c, z⟩
  · rcases pa_st_9 z hM.1 a b ha hb with y | y
    · exact Or.inl y
    · exact Or.inr (by omega)
  · rw [pa_C_st c 8 (Nat.le_refl 8) a b ha hb]
    rcases z a b ha hb with y | y
    · exact Or.inl y
    · exact Or.inr (by omega)
/-! the sizes on the stack -/
def pa_sm (z : Nat → Nat) : Nat → Nat
  | 0 => 0
  | d + 1 => pa_sm z d + z d
theorem pa_sm_c {z y : Nat → Nat} : ∀ d, (∀ l, l < d → z l = y l) → pa_sm z d = pa_sm y d := by
  intro d
  induction d with
  | zero => intro _; rfl
  | succ d ih =>
    intro h
    show pa_sm z d + z d = pa_sm y d + y d
    rw [ih (fun l hl => h l (by omega)), h d (by omega)]
theorem pa_sm_ge {z : Nat → Nat} : ∀ d l, l < d → z l ≤ pa_sm z d := by
  intro d
  induction d with
  | zero => intro l h; omega
  | succ d ih =>
    intro l h
    show z l ≤ pa_sm z d + z d
    by_cases e : l = d
    · subst e; omega
    · have := ih l (by omega)
      omega
def pa_V (S : Nat → Nat → Nat → Nat) (d i : Nat) : Prop := ∃ z : Nat → Nat, pa_sm z d ≤ i ∧ ∀ l, l < d → 1 ≤ z l ∧ pa_B (S l) (z l)
/-- what is made on level e out of c levels from e on, that are gone -/
theorem pa_V_put {S : Nat → Nat → Nat → Nat} {e i n : Nat} {z : Nat → Nat} {M : Nat → Nat → Nat} (hz : ∀ l, l < e → 1 ≤ z l ∧ pa_B (S l) (z l)) (hn : pa_sm z e + n ≤ i) (h1 : 1 ≤ n) (hM : pa_B M n) : pa_V (pa_put S e M) (e + 1) i := by
  refine ⟨fun l => if l = e then n else z l, ?_, fun l hl => ?_⟩
  · show pa_sm (fun l => if l = e then n else z l) e + (if e = e then n else z e) ≤ i
    rw [if_pos rfl, pa_sm_c (y := z) e (fun l hl => if_neg (by omega))]
    exact hn
  · by_cases c : l = e
    · subst c
      rw [pa_put_s]
      show 1 ≤ (if l = l then n else z l) ∧ pa_B M (if l = l then n else z l)
      rw [if_pos rfl]
      exact ⟨h1, hM⟩
    · rw [pa_put_n c]
      show 1 ≤ (if l = e then n else z l) ∧ pa_B (S l) (if l = e then n else z l)
      rw [if_neg c]
      exact hz l (by omega)
theorem pa_V_stp {ed : Nat → Int32} {k r : Int32} {d i : Nat} {S : Nat → Nat → Nat → Nat} (hok : pa_ok k r d) (hi : i < 14) (h : pa_V S d i) : pa_V (pa_stp ed k r d S) (pa_dep k d) (i + 1) := by
  obtain ⟨z, hs, hz⟩ := h
  rcases hok with ⟨rfl, _, h⟩ | ⟨rfl, _, h⟩ | ⟨rfl, _, h⟩ | ⟨rfl, h⟩ | ⟨rfl, h⟩ | ⟨rfl, h⟩
  · rw [pa_stp_0, pa_dep_0]
    exact pa_V_put hz (by omega) (Nat.le_refl 1) (pa_B_lab ed r)
  · rw [pa_stp_1, pa_dep_1]
    exact pa_V_put hz (by omega) (Nat.le_refl 1) (pa_B_bck ed r)
  · rw [pa_stp_2, pa_dep_2]
    exact pa_V_put hz (by omega) (Nat.le_refl 1) (pa_B_atm r)
  · obtain ⟨e, rfl⟩ : ∃ e, d = e + 2 := ⟨d - 2, by omega⟩
    rw [pa_stp_3, pa_dep_3]
    have q : pa_sm z (e + 2) = pa_sm z e + z e + z (e + 1) := rfl
    have h1 := hz e (by omega)
    have h2 := hz (e + 1) (by omega)
    exact pa_V_put (e := e) (fun l hl => hz l (by omega)) (n := z e + z (e + 1) + 1) (by omega) (by omega) (pa_B_thn h1.2 h2.2 h1.1 h2.1 (by omega))
  · obtain ⟨e, rfl⟩ : ∃ e, d = e + 2 := ⟨d - 2, by omega⟩
    rw [pa_stp_4, pa_dep_4]
    have q : pa_sm z (e + 2) = pa_sm z e + z e + z (e + 1) := rfl
    have h1 := hz e (by omega)
    have h2 := hz (e + 1) (by omega)
    exact pa_V_put (e := e) (fun l hl => hz l (by omega)) (n := z e + z (e + 1) + 1) (by omega) (by omega) (pa_B_orr h1.2 h2.2 h1.1 h2.1 (by omega))
  · obtain ⟨e, rfl⟩ : ∃ e, d = e + 1 := ⟨d - 1, by omega⟩
    rw [pa_stp_5, pa_dep_5]
    have q : pa_sm z (e + 1) = pa_sm z e + z e := rfl
    have h1 := hz e (by omega)
    exact pa_V_put (e := e) (fun l hl => hz l (by omega)) (n := z e + 1) (by omega) (by omega) (pa_B_st h1.2 h1.1 (by omega))
theorem pa_V_run {ed K R : Nat → Int32} {m : Nat} (hm : m ≤ 14) (h : ∀ i, i < m → pa_ok (K i) (R i) (pa_d K i)) : ∀ i, i ≤ m → pa_V (pa_S ed K R i) (pa_d K i) i := by
  intro i
  induction i with
  | zero => intro _; exact ⟨fun _ => 0, Nat.le_refl _, fun l hl => absurd hl (Nat.not_lt_zero l)⟩
  | succ i ih => intro hi; exact pa_V_stp (h i (by omega)) (by omega) (ih (by omega))
/-- the table that is asked about: the top one, or none -/
def pa_T (S : Nat → Nat → Nat → Nat) (d : Nat) : Nat → Nat → Nat := if d = 0 then fun _ _ => 1000000 else S (d - 1)
theorem pa_T_far {S : Nat → Nat → Nat → Nat} {d i : Nat} (hi : i ≤ 14) (h : pa_V S d i) : ∀ a b, a < 8 → b < 8 → pa_T S d a b = 1000000 ∨ pa_T S d a b < 100000 := by
  intro a b ha hb
  unfold pa_T
  split
  · exact Or.inl rfl
  · next z =>
    obtain ⟨y, h1, h2⟩ := h
    have h3 := h2 (d - 1) (by omega)
    have h4 := pa_sm_ge (z := y) d (d - 1) (by omega)
    have h5 := pa_t4 (y (d - 1)) (by omega)
    rcases pa_B_h h3.2 a b ha hb with h | h
    · exact Or.inl h
    · exact Or.inr (by omega)
theorem pa_V_le {S : Nat → Nat → Nat → Nat} {d i : Nat} (h : pa_V S d i) : ∀ l, l < d → ∀ a b, a < 8 → b < 8 → S l a b ≤ 1000000 := by
  obtain ⟨y, _, h2⟩ := h
  intro l hl
  exact (h2 l hl).2.1
end
section
/-! the class's tables: from + 8 * to -/
def pa_x (M : Nat → Nat → Nat) : Nat → Nat := fun q => M (q % 8) (q / 8)
theorem pa_x_at (M : Nat → Nat → Nat) {a b : Nat} (ha : a < 8) : pa_x M (a + 8 * b) = M a b := by
  show M ((a + 8 * b) % 8) ((a + 8 * b) / 8) = M a b
  rw [show (a + 8 * b) % 8 = a by omega, show (a + 8 * b) / 8 = b by omega]
theorem pa_w_w {A : Nat → Int32} {t : Nat} {D : Nat → Bool} {g g' : Nat → Nat} : pa_w (pa_w A t D g) t pa_al g' = pa_w A t pa_al g' := by
  funext j
  by_cases hj : t ≤ j ∧ j < t + 64
  · obtain ⟨q, rfl⟩ : ∃ q, j = t + q := ⟨j - t, by omega⟩
    rw [pa_w_in (by omega) rfl, pa_w_in (by omega) rfl]
  · rw [pa_w_out (by omega), pa_w_out (by omega), pa_w_out (by omega)]
/-- what isn't done stood there already -/
theorem pa_w_f {A : Nat → Int32} {t : Nat} {D : Nat → Bool} {g : Nat → Nat} (h : ∀ q, q < 64 → D q = false → A (t + q) = nI (g q)) : pa_w A t D g = pa_w A t pa_al g := by
  funext j
  by_cases hj : t ≤ j ∧ j < t + 64
  · obtain ⟨q, rfl⟩ : ∃ q, j = t + q := ⟨j - t, by omega⟩
    have hq : q < 64 := by omega
    cases hD : D q with
    | true => rw [pa_w_in hq hD, pa_w_in hq rfl]
    | false => rw [pa_w_no hD, pa_w_in hq rfl, h q hq hD]
  · rw [pa_w_out (by omega), pa_w_out (by omega)]
theorem px_fg_l {post : SX → Prop} {sm ex : Int32} {ed sk sa jo A : Nat → Int32} {t : Nat} (ht : t + 64 ≤ 448) (h : post (sm, ex, ed, sk, sa, pa_w A t pa_al (fun _ => 1000000), jo)) : ∀ n i, i + n = 64 → wX_forgetPaths_2 post (nI t) sm ex (n + 1) (nI i) ed sk sa (pa_w A t (pa_dl i) (fun _ => 1000000)) jo := by
  intro n
  induction n with
  | zero =>
    intro i hi
    obtain rfl : i = 64 := by omega
    refine br_t (nI_le (a := 64) (b := 64) (Nat.le_refl _) (by decide)) ?_
    rw [pa_w_c pa_dl_64]
    exact h
  | succ n ih =>
    intro i hi
    refine br_f (nI_ge (a := i) (b := 64) (by omega) (by decide)) ?_
    refine ⟨pa_in (pa_i1 t i) (by omega) (by decide), ?_⟩
    refine nm_r (pa_w_s (q := i) (by omega) (pa_dl_s i) (pa_cl (pa_i1 t i) (by omega)) rfl) ?_
    exact nm_r (nI_1 i) (ih (i + 1) (by omega))
theorem px_fg {post : SX → Prop} {sm ex : Int32} {ed sk sa jo A : Nat → Int32} {t : Nat} (ht : t + 64 ≤ 448) (h : post (sm, ex, ed, sk, sa, pa_w A t pa_al (fun _ => 1000000), jo)) : wpX_forgetPaths post (sm, ex, ed, sk, sa, A, jo) (nI t) := by
  have z := px_fg_l ht h 64 0 rfl
  rw [pa_w_0 pa_dl_0] at z
  exact ⟨65, z⟩
theorem pa_x_lab {ed : Nat → Int32} {l q : Nat} (hl : l < 3) : pa_x (pa_lab ed (nI l)) q = if ed (l * 64 + q) = 0 then 1000000 else 1 := by
  show (if ed ((nI l).toNatClampNeg * 64 + (q % 8 + 8 * (q / 8))) = 0 then 1000000 else 1) = _
  rw [nI_clamp (by omega), show q % 8 + 8 * (q / 8) = q by omega]
theorem px_lab_l {post : SX → Prop} {sm ex : Int32} {ed sk sa jo A : Nat → Int32} {l t : Nat} (hl : l < 3) (ht : t + 64 ≤ 448) (h : post (sm, ex, ed, sk, sa, pa_w A t pa_al (pa_x (pa_lab ed (nI l))), jo)) : ∀ n i, i + n = 64 → wX_measureLabel_2 post (nI l) (nI t) sm ex (n + 1) (nI i) ed sk sa (pa_w A t (pa_dl i) (pa_x (pa_lab ed (nI l)))) jo := by
  intro n
  induction n with
  | zero =>
    intro i hi
    obtain rfl : i = 64 := by omega
    refine br_t (nI_le (a := 64) (b := 64) (Nat.le_refl _) (by decide)) ?_
    rw [pa_w_c pa_dl_64]
    exact h
  | succ n ih =>
    intro i hi
    refine br_f (nI_ge (a := i) (b := 64) (by omega) (by decide)) ?_
    have ec : (nI l * 64 + nI i).toNatClampNeg = l * 64 + i := pa_cl (pa_i4 l i) (by omega)
    have eg := pa_x_lab (ed := ed) (q := i) hl
    refine ⟨pa_in (pa_i4 l i) (by omega) (by decide), ?_⟩
    by_cases z : ed (l * 64 + i) = 0
    · rw [if_pos z] at eg
      refine br_t (by rw [ec]; exact z) ?_
      refine ⟨pa_in (pa_i1 t i) (by omega) (by decide), ?_⟩
      refine nm_r (pa_w_s (q := i) (by omega) (pa_dl_s i) (pa_cl (pa_i1 t i) (by omega)) (by rw [eg]; rfl)) ?_
      exact nm_r (nI_1 i) (ih (i + 1) (by omega))
    · rw [if_neg z] at eg
      refine br_f (by rw [ec]; exact z) ?_
      refine ⟨pa_in (pa_i1 t i) (by omega) (by decide), ?_⟩
      refine nm_r (pa_w_s (q := i) (by omega) (pa_dl_s i) (pa_cl (pa_i1 t i) (by omega)) (by rw [eg]; rfl)) ?_
      exact nm_r (nI_1 i) (ih (i + 1) (by omega))
theorem px_lab {post : SX → Prop} {sm ex : Int32} {ed sk sa jo A : Nat → Int32} {l t : Nat} (hl : l < 3) (ht : t + 64 ≤ 448) (h : post (sm, ex, ed, sk, sa, pa_w A t pa_al (pa_x (pa_lab ed (nI l))), jo)) : wpX_measureLabel post (sm, ex, ed, sk, sa, A, jo) (nI l) (nI t) := by
  have z := px_lab_l hl ht h 64 0 rfl
  rw [pa_w_0 pa_dl_0] at z
  exact ⟨65, z⟩
theorem pa_x_bck {ed : Nat → Int32} {l a b : Nat} (hl : l < 3) (ha : a < 8) : pa_x (pa_bck ed (nI l)) (a + 8 * b) = if ed (l * 64 + (b + 8 * a)) = 0 then 1000000 else 1 := by
  rw [pa_x_at _ ha]
  show (if ed ((nI l).toNatClampNeg * 64 + (b + 8 * a)) = 0 then 1000000 else 1) = _
  rw [nI_clamp (by omega)]
theorem px_bck_i {post : SX → Prop} {J2 : Int32 → (Nat → Int32) → (Nat → Int32) → (Nat → Int32) → (Nat → Int32) → (Nat → Int32) → Prop} {sm ex : Int32} {ed sk sa jo A : Nat → Int32} {l t a : Nat} (hl : l < 3) (ht : t + 64 ≤ 448) (ha : a < 8) (h : J2 (nI (a + 1)) ed sk sa (pa_w A t (pa_dn (a + 1) 0) (pa_x (pa_bck ed (nI l)))) jo) : ∀ n b, b + n = 8 → wX_measureBack_11 post J2 (nI l) (nI t) (nI a) sm ex (n + 1) (nI b) ed sk sa (pa_w A t (pa_dn a b) (pa_x (pa_bck ed (nI l)))) jo := by
  intro n
  induction n with
  | zero =>
    intro b hb
    obtain rfl : b = 8 := by omega
    refine br_t (nI_le (a := 8) (b := 8) (Nat.le_refl _) (by decide)) ?_
    refine nm_r (nI_1 a) ?_
    rw [pa_w_c (pa_dn_n a)]
    exact h
  | succ n ih =>
    intro b hb
    refine br_f (nI_ge (a := b) (b := 8) (by omega) (by decide)) ?_
    have ec : (nI l * 64 + nI b + 8 * nI a).toNatClampNeg = l * 64 + (b + 8 * a) := pa_cl (pa_i7 l b a 0) (by omega)
    have eg := pa_x_bck (ed := ed) (b := b) hl ha
    refine ⟨pa_in (pa_i7 l b a 0) (by omega) (by decide), ?_⟩
    refine nm_r (congrArg ed ec) ?_
    by_cases z : ed (l * 64 + (b + 8 * a)) = 0
    · rw [if_pos z] at eg
      refine br_t z ?_
      refine ⟨pa_in (pa_i3 t a b) (by omega) (by decide), ?_⟩
      refine nm_r (pa_w_s (q := a + 8 * b) (by omega) (pa_dn_s ha) (pa_cl (pa_i3 t a b) (by omega)) (by rw [eg]; rfl)) ?_
      exact nm_r (nI_1 b) (ih (b + 1) (by omega))
    · rw [if_neg z] at eg
      refine br_f z ?_
      refine ⟨pa_in (pa_i3 t a b) (by omega) (by decide), ?_⟩
      refine nm_r (pa_w_s (q := a + 8 * b) (by omega) (pa_dn_s ha) (pa_cl (pa_i3 t a b) (by omega)) (by rw [eg]; rfl)) ?_
      exact nm_r (nI_1 b) (ih (b + 1) (by omega))
theorem px_bck_l {post : SX → Prop} {sm ex : Int32} {ed sk sa jo A : Nat → Int32} {l t : Nat} (hl : l < 3) (ht : t + 64 ≤ 448) (h : post (sm, ex, ed, sk, sa, pa_w A t pa_al (pa_x (pa_bck ed (nI l))), jo)) : ∀ n a, a + n = 8 → wX_measureBack_2 post (nI l) (nI t) sm ex (n + 1) (nI a) ed sk sa (pa_w A t (pa_dn a 0) (pa_x (pa_bck ed (nI l)))) jo := by
  intro n
  induction n with
  | zero =>
    intro a ha
    obtain rfl : a = 8 := by omega
    refine br_t (nI_le (a := 8) (b := 8) (Nat.le_refl _) (by decide)) ?_
    rw [pa_w_c pa_dn_8]
    exact h
  | succ n ih =>
    intro a ha
    refine br_f (nI_ge (a := a) (b := 8) (by omega) (by decide)) ?_
    exact ⟨9, px_bck_i hl ht (by omega) (ih (a + 1) (by omega)) 8 0 rfl⟩
theorem px_bck {post : SX → Prop} {sm ex : Int32} {ed sk sa jo A : Nat → Int32} {l t : Nat} (hl : l < 3) (ht : t + 64 ≤ 448) (h : post (sm, ex, ed, sk, sa, pa_w A t pa_al (pa_x (pa_bck ed (nI l))), jo)) : wpX_measureBack post (sm, ex, ed, sk, sa, A, jo) (nI l) (nI t) := by
  have z := px_bck_l hl ht h 8 0 rfl
  rw [pa_w_0 pa_dn_0] at z
  exact ⟨9, z⟩
end
section
/-! at -/
theorem pa_x_atm {r : Int32} {i : Nat} (hi : i < 8) : pa_x (pa_atm r) (i * 9) = if r = -1 ∨ r = nI i then 0 else 1000000 := by
  rw [show i * 9 = i + 8 * i by omega, pa_x_at _ hi]
  show (if i = i ∧ (r = -1 ∨ r = nI i) then 0 else 1000000) = _
  by_cases z : r = -1 ∨ r = nI i
  · rw [if_pos z, if_pos ⟨rfl, z⟩]
  · rw [if_neg z, if_neg (fun h => z h.2)]
theorem pa_i3d (t a : Nat) : nI t + nI a + 8 * nI a = nI (t + a * 9) := by
  rw [pa_i3]
  exact congrArg nI (by omega)
theorem px_atm_l {post : SX → Prop} {sm ex : Int32} {ed sk sa jo A : Nat → Int32} {r : Int32} {t : Nat} (ht : t + 64 ≤ 448) (hA : ∀ q, q < 64 → A (t + q) = nI 1000000) (h : post (sm, ex, ed, sk, sa, pa_w A t (pa_dd 8) (pa_x (pa_atm r)), jo)) : ∀ n i, i + n = 8 → wX_measureAt_7 post r (nI t) sm ex (n + 1) (nI i) ed sk sa (pa_w A t (pa_dd i) (pa_x (pa_atm r))) jo := by
  intro n
  induction n with
  | zero =>
    intro i hi
    obtain rfl : i = 8 := by omega
    exact br_t (nI_le (a := 8) (b := 8) (Nat.le_refl _) (by decide)) h
  | succ n ih =>
    intro i hi
    refine br_f (nI_ge (a := i) (b := 8) (by omega) (by decide)) ?_
    have hi8 : i < 8 := by omega
    have eg := pa_x_atm (r := r) hi8
    by_cases z1 : r = -1
    · rw [if_pos (Or.inl z1)] at eg
      refine br_t z1 ?_
      refine ⟨pa_in (pa_i3d t i) (by omega) (by decide), ?_⟩
      refine nm_r (pa_w_s (q := i * 9) (by omega) (pa_dd_s i) (pa_cl (pa_i3d t i) (by omega)) (by rw [eg]; rfl)) ?_
      exact nm_r (nI_1 i) (ih (i + 1) (by omega))
    · refine br_f z1 ?_
      by_cases z2 : r = nI i
      · rw [if_pos (Or.inr z2)] at eg
        refine br_t z2 ?_
        refine ⟨pa_in (pa_i3d t i) (by omega) (by decide), ?_⟩
        refine nm_r (pa_w_s (q := i * 9) (by omega) (pa_dd_s i) (pa_cl (pa_i3d t i) (by omega)) (by rw [eg]; rfl)) ?_
        exact nm_r (nI_1 i) (ih (i + 1) (by omega))
      · rw [if_neg (fun h => h.elim z1 z2)] at eg
        refine br_f z2 ?_
        have hv : pa_w A t (pa_dd i) (pa_x (pa_atm r)) (t + i * 9) = nI (pa_x (pa_atm r) (i * 9)) := by
          rw [pa_w_no (decide_eq_false (by omega)), hA _ (by omega), eg]
        rw [pa_w_k (pa_dd_s i) hv]
        exact nm_r (nI_1 i) (ih (i + 1) (by omega))
theorem px_atm {post : SX → Prop} {sm ex : Int32} {ed sk sa jo A : Nat → Int32} {r : Int32} {t : Nat} (ht : t + 64 ≤ 448) (h : post (sm, ex, ed, sk, sa, pa_w A t pa_al (pa_x (pa_atm r)), jo)) : wpX_measureAt post (sm, ex, ed, sk, sa, A, jo) r (nI t) := by
  unfold wpX_measureAt
  dsimp only
  refine px_fg ht ?_
  dsimp only
  have e : pa_w (pa_w A t pa_al (fun _ => 1000000)) t (pa_dd 8) (pa_x (pa_atm r)) = pa_w A t pa_al (pa_x (pa_atm r)) := by
    rw [pa_w_f (D := pa_dd 8), pa_w_w]
    intro q hq hD
    rw [pa_w_in hq rfl]
    refine congrArg nI ?_
    show 1000000 = if q % 8 = q / 8 ∧ (r = -1 ∨ r = nI (q % 8)) then 0 else 1000000
    rw [if_neg]
    intro z
    have := of_decide_eq_false hD
    omega
  have z := px_atm_l (sm := sm) (ex := ex) (ed := ed) (sk := sk) (sa := sa) (jo := jo) (r := r) (post := post) ht (A := pa_w A t pa_al (fun _ => 1000000)) (fun q hq => pa_w_in hq rfl) (by rw [e]; exact h) 8 0 rfl
  rw [pa_w_0 pa_dd_0] at z
  exact ⟨9, z⟩
/-! then -/
def pa_X (A : Nat → Int32) (t : Nat) (M : Nat → Nat → Nat) : Prop := ∀ q, q < 64 → A (t + q) = nI (pa_x M q)
def pa_F (M : Nat → Nat → Nat) : Prop := ∀ a b, a < 8 → b < 8 → M a b ≤ 1000000
theorem pa_X_at {A : Nat → Int32} {t : Nat} {M : Nat → Nat → Nat} (h : pa_X A t M) {a b : Nat} (ha : a < 8) (hb : b < 8) : A (t + (a + 8 * b)) = nI (M a b) := by
  rw [h _ (by omega), pa_x_at _ ha]
theorem px_sj_l {post : Int32 → Prop} {sm ex : Int32} {ed sk sa jo A : Nat → Int32} {f s a b : Nat} {M N : Nat → Nat → Nat} (hM : pa_X A f M) (hN : pa_X A s N) (fM : pa_F M) (fN : pa_F N) (hf : f + 64 ≤ 448) (hs : s + 64 ≤ 448) (ha : a < 8) (hb : b < 8) (h : post (nI (pa_jn M N a b 8))) : ∀ n m, m + n = 8 → wX_shortestJoin_6 post (nI (f + a)) (nI (s + 8 * b)) sm ex ed sk sa A jo (n + 1) (nI (pa_jn M N a b m)) (nI m) := by
  intro n
  induction n with
  | zero =>
    intro m hm
    obtain rfl : m = 8 := by omega
    exact br_t (nI_le (a := 8) (b := 8) (Nat.le_refl _) (by decide)) h
  | succ n ih =>
    intro m hm
    refine br_f (nI_ge (a := m) (b := 8) (by omega) (by decide)) ?_
    have e1 := pa_i2 (f + a) m
    have e2 := pa_i1 (s + 8 * b) m
    refine ⟨pa_in e1 (by omega) (by decide), pa_in e2 (by omega) (by decide), ?_⟩
    have hm8 : m < 8 := by omega
    have v : A (nI (f + a) + 8 * nI m).toNatClampNeg + A (nI (s + 8 * b) + nI m).toNatClampNeg = nI (M a m + N m b) := by
      rw [pa_cl e1 (by omega), pa_cl e2 (by omega), show f + a + 8 * m = f + (a + 8 * m) by omega, show s + 8 * b + m = s + (m + 8 * b) by omega, pa_X_at hM ha hm8, pa_X_at hN hm8 hb, nI_add]
    refine nm_r v ?_
    have h1 := pa_jn_le M N a b m
    have h2 := fM a m ha hm8
    have h3 := fN m b hm8 hb
    have ej : pa_jn M N a b (m + 1) = min (pa_jn M N a b m) (M a m + N m b) := rfl
    refine pk_le (pa_jn M N a b m) (M a m + N m b) (fun z => ?_) (fun z => ?_) rfl rfl (by omega) (by omega)
    · have q := ih (m + 1) (by omega)
      rw [show pa_jn M N a b (m + 1) = pa_jn M N a b m by omega] at q
      exact nm_r (nI_1 m) q
    · have q := ih (m + 1) (by omega)
      rw [show pa_jn M N a b (m + 1) = M a m + N m b by omega] at q
      exact nm_r (nI_1 m) q
theorem px_sj {post : Int32 → Prop} {sm ex : Int32} {ed sk sa jo A : Nat → Int32} {f s a b : Nat} {M N : Nat → Nat → Nat} (hM : pa_X A f M) (hN : pa_X A s N) (fM : pa_F M) (fN : pa_F N) (hf : f + 64 ≤ 448) (hs : s + 64 ≤ 448) (ha : a < 8) (hb : b < 8) (h : post (nI (pa_jn M N a b 8))) : wpX_shortestJoin post (sm, ex, ed, sk, sa, A, jo) (nI f + nI a) (nI s + 8 * nI b) := by
  rw [pa_i1, pa_i2]
  exact ⟨9, px_sj_l hM hN fM fN hf hs ha hb h 8 0 rfl⟩
theorem px_thn_c {post : SX → Prop} {sm ex : Int32} {ed sk sa jo A : Nat → Int32} {f : Nat} {g : Nat → Nat} (hf : f + 64 ≤ 448) (hj : ∀ q, q < 64 → jo q = nI (g q)) (h : post (sm, ex, ed, sk, sa, pa_w A f pa_al g, jo)) : ∀ n i, i + n = 64 → wX_joinTables_58 post (nI f) sm ex (n + 1) (nI i) ed sk sa (pa_w A f (pa_dl i) g) jo := by
  intro n
  induction n with
  | zero =>
    intro i hi
    obtain rfl : i = 64 := by omega
    refine br_t (nI_le (a := 64) (b := 64) (Nat.le_refl _) (by decide)) ?_
    rw [pa_w_c pa_dl_64]
    exact h
  | succ n ih =>
    intro i hi
    refine br_f (nI_ge (a := i) (b := 64) (by omega) (by decide)) ?_
    refine ⟨vp_in_nI (by omega) (by decide), pa_in (pa_i1 f i) (by omega) (by decide), ?_⟩
    refine nm_r (pa_w_s (q := i) (by omega) (pa_dl_s i) (pa_cl (pa_i1 f i) (by omega)) (by rw [nI_clamp (by omega)]; exact hj i (by omega))) ?_
    exact nm_r (nI_1 i) (ih (i + 1) (by omega))
theorem px_thn_i {post : SX → Prop} {J2 : Int32 → (Nat → Int32) → (Nat → Int32) → (Nat → Int32) → (Nat → Int32) → (Nat → Int32) → Prop} {sm ex : Int32} {ed sk sa jo A : Nat → Int32} {f s a : Nat} {M N : Nat → Nat → Nat} (hM : pa_X A f M) (hN : pa_X A s N) (fM : pa_F M) (fN : pa_F N) (hf : f + 64 ≤ 448) (hs : s + 64 ≤ 448) (ha : a < 8) (h : J2 (nI (a + 1)) ed sk sa A (pa_w jo 0 (pa_dn (a + 1) 0) (pa_x (pa_thn M N)))) : ∀ n b, b + n = 8 → wX_joinTables_11 post J2 (nI f) (nI s) (nI a) sm ex (n + 1) (nI b) ed sk sa A (pa_w jo 0 (pa_dn a b) (pa_x (pa_thn M N))) := by
  intro n
  induction n with
  | zero =>
    intro b hb
    obtain rfl : b = 8 := by omega
    refine br_t (nI_le (a := 8) (b := 8) (Nat.le_refl _) (by decide)) ?_
    refine nm_r (nI_1 a) ?_
    rw [pa_w_c (pa_dn_n a)]
    exact h
  | succ n ih =>
    intro b hb
    refine br_f (nI_ge (a := b) (b := 8) (by omega) (by decide)) ?_
    refine px_sj hM hN fM fN hf hs ha (by omega) ?_
    refine ⟨pa_in (pa_i2 a b) (by omega) (by decide), ?_⟩
    refine nm_r (pa_w_s (q := a + 8 * b) (by omega) (pa_dn_s ha) (by rw [pa_cl (pa_i2 a b) (by omega)]; omega) (by rw [pa_x_at _ ha]; rfl)) ?_
    exact nm_r (nI_1 b) (ih (b + 1) (by omega))
theorem px_thn_l {post : SX → Prop} {sm ex : Int32} {ed sk sa jo A : Nat → Int32} {f s : Nat} {M N : Nat → Nat → Nat} (hM : pa_X A f M) (hN : pa_X A s N) (fM : pa_F M) (fN : pa_F N) (hf : f + 64 ≤ 448) (hs : s + 64 ≤ 448) (h : ∀ jo', post (sm, ex, ed, sk, sa, pa_w A f pa_al (pa_x (pa_thn M N)), jo')) : ∀ n a, a + n = 8 → wX_joinTables_2 post (nI f) (nI s) sm ex (n + 1) (nI a) ed sk sa A (pa_w jo 0 (pa_dn a 0) (pa_x (pa_thn M N))) := by
  intro n
  induction n with
  | zero =>
    intro a ha
    obtain rfl : a = 8 := by omega
    refine br_t (nI_le (a := 8) (b := 8) (Nat.le_refl _) (by decide)) ?_
    rw [pa_w_c pa_dn_8]
    have z := px_thn_c (sm := sm) (ex := ex) (ed := ed) (sk := sk) (sa := sa) (A := A) (post := post) (jo := pa_w jo 0 pa_al (pa_x (pa_thn M N))) (g := pa_x (pa_thn M N)) hf (fun q hq => by have := pa_w_in (A := jo) (t := 0) (D := pa_al) (g := pa_x (pa_thn M N)) hq rfl; rw [Nat.zero_add] at this; exact this) (h _) 64 0 rfl
    rw [pa_w_0 pa_dl_0] at z
    exact ⟨65, z⟩
  | succ n ih =>
    intro a ha
    refine br_f (nI_ge (a := a) (b := 8) (by omega) (by decide)) ?_
    exact ⟨9, px_thn_i hM hN fM fN hf hs (by omega) (ih (a + 1) (by omega)) 8 0 rfl⟩
theorem px_thn {post : SX → Prop} {sm ex : Int32} {ed sk sa jo A : Nat → Int32} {f s : Nat} {M N : Nat → Nat → Nat} (hM : pa_X A f M) (hN : pa_X A s N) (fM : pa_F M) (fN : pa_F N) (hf : f + 64 ≤ 448) (hs : s + 64 ≤ 448) (h : ∀ jo', post (sm, ex, ed, sk, sa, pa_w A f pa_al (pa_x (pa_thn M N)), jo')) : wpX_joinTables post (sm, ex, ed, sk, sa, A, jo) (nI f) (nI s) := by
  have z := px_thn_l (jo := jo) hM hN fM fN hf hs h 8 0 rfl
  rw [pa_w_0 pa_dn_0] at z
  exact ⟨9, z⟩
/-! or -/
theorem px_orr_l {post : SX → Prop} {sm ex : Int32} {ed sk sa jo A : Nat → Int32} {f s : Nat} {M N : Nat → Nat → Nat} (hM : pa_X A f M) (hN : pa_X A s N) (fM : pa_F M) (fN : pa_F N) (hf : f + 64 ≤ s) (hs : s + 64 ≤ 448) (h : post (sm, ex, ed, sk, sa, pa_w A f pa_al (pa_x (pa_orr M N)), jo)) : ∀ n i, i + n = 64 → wX_mergeTables_2 post (nI f) (nI s) sm ex (n + 1) (nI i) ed sk sa (pa_w A f (pa_dl i) (pa_x (pa_orr M N))) jo := by
  intro n
  induction n with
  | zero =>
    intro i hi
    obtain rfl : i = 64 := by omega
    refine br_t (nI_le (a := 64) (b := 64) (Nat.le_refl _) (by decide)) ?_
    rw [pa_w_c pa_dl_64]
    exact h
  | succ n ih =>
    intro i hi
    refine br_f (nI_ge (a := i) (b := 64) (by omega) (by decide)) ?_
    have e1 := pa_i1 f i
    have e2 := pa_i1 s i
    have i1 : vp_in (nI f + nI i) 448 := pa_in e1 (by omega) (by decide)
    have i2 : vp_in (nI s + nI i) 448 := pa_in e2 (by omega) (by decide)
    refine ⟨i2, i1, ?_⟩
    have v1 : pa_w A f (pa_dl i) (pa_x (pa_orr M N)) (nI f + nI i).toNatClampNeg = nI (pa_x M i) := by
      rw [pa_cl e1 (by omega), pa_w_no (decide_eq_false (by omega)), hM i (by omega)]
    have v2 : pa_w A f (pa_dl i) (pa_x (pa_orr M N)) (nI s + nI i).toNatClampNeg = nI (pa_x N i) := by
      rw [pa_cl e2 (by omega), pa_w_out (by omega), hN i (by omega)]
    have b1 : pa_x M i ≤ 1000000 := fM _ _ (by omega) (by omega)
    have b2 : pa_x N i ≤ 1000000 := fN _ _ (by omega) (by omega)
    have eo : pa_x (pa_orr M N) i = min (pa_x M i) (pa_x N i) := rfl
    refine pk_le (pa_x M i) (pa_x N i) (fun z => ?_) (fun z => ?_) v1 v2 (by omega) (by omega)
    · have hv : pa_w A f (pa_dl i) (pa_x (pa_orr M N)) (f + i) = nI (pa_x (pa_orr M N) i) := by
        rw [← pa_cl e1 (by omega), v1, eo]
        exact congrArg nI (by omega)
      rw [pa_w_k (pa_dl_s i) hv]
      exact nm_r (nI_1 i) (ih (i + 1) (by omega))
    · refine ⟨i2, i1, ?_⟩
      refine nm_r (pa_w_s (q := i) (by omega) (pa_dl_s i) (pa_cl e1 (by omega)) (by rw [v2, eo]; exact congrArg nI (by omega))) ?_
      exact nm_r (nI_1 i) (ih (i + 1) (by omega))
theorem px_orr {post : SX → Prop} {sm ex : Int32} {ed sk sa jo A : Nat → Int32} {f s : Nat} {M N : Nat → Nat → Nat} (hM : pa_X A f M) (hN : pa_X A s N) (fM : pa_F M) (fN : pa_F N) (hf : f + 64 ≤ s) (hs : s + 64 ≤ 448) (h : post (sm, ex, ed, sk, sa, pa_w A f pa_al (pa_x (pa_orr M N)), jo)) : wpX_mergeTables post (sm, ex, ed, sk, sa, A, jo) (nI f) (nI s) := by
  have z := px_orr_l hM hN fM fN hf hs h 64 0 rfl
  rw [pa_w_0 pa_dl_0] at z
  exact ⟨65, z⟩
/-! star -/
theorem pa_rd_l {T : Nat → Nat → Nat} (a m : Nat) : pa_rd T m a m = T a m := by
  show min (T a m) (T a m + T m m) = T a m
  omega
theorem pa_rd_r {T : Nat → Nat → Nat} (m b : Nat) : pa_rd T m m b = T m b := by
  show min (T m b) (T m m + T m b) = T m b
  omega
theorem pa_X_l {A : Nat → Int32} {t m : Nat} {T : Nat → Nat → Nat} (D : Nat → Bool) (hT : pa_X A t T) {a : Nat} (ha : a < 8) (hm : m < 8) : pa_w A t D (pa_x (pa_rd T m)) (t + (a + 8 * m)) = nI (T a m) := by
  cases hD : D (a + 8 * m) with
  | true => rw [pa_w_in (by omega) hD, pa_x_at _ ha, pa_rd_l]
  | false => rw [pa_w_no hD, pa_X_at hT ha hm]
theorem pa_X_r {A : Nat → Int32} {t m : Nat} {T : Nat → Nat → Nat} (D : Nat → Bool) (hT : pa_X A t T) {b : Nat} (hm : m < 8) (hb : b < 8) : pa_w A t D (pa_x (pa_rd T m)) (t + (m + 8 * b)) = nI (T m b) := by
  cases hD : D (m + 8 * b) with
  | true => rw [pa_w_in (by omega) hD, pa_x_at _ hm, pa_rd_r]
  | false => rw [pa_w_no hD, pa_X_at hT hm hb]
theorem px_alw_i {post : SX → Prop} {J2 : Int32 → (Nat → Int32) → (Nat → Int32) → (Nat → Int32) → (Nat → Int32) → (Nat → Int32) → Prop} {sm ex : Int32} {ed sk sa jo A : Nat → Int32} {m t a : Nat} {T : Nat → Nat → Nat} (hT : pa_X A t T) (fT : pa_F T) (hm : m < 8) (ht : t + 64 ≤ 448) (ha : a < 8) (h : J2 (nI (a + 1)) ed sk sa (pa_w A t (pa_dn (a + 1) 0) (pa_x (pa_rd T m))) jo) : ∀ n b, b + n = 8 → wX_allowThrough_11 post J2 (nI m) (nI t) (nI a) sm ex (n + 1) (nI b) ed sk sa (pa_w A t (pa_dn a b) (pa_x (pa_rd T m))) jo := by
  intro n
  induction n with
  | zero =>
    intro b hb
    obtain rfl : b = 8 := by omega
    refine br_t (nI_le (a := 8) (b := 8) (Nat.le_refl _) (by decide)) ?_
    refine nm_r (nI_1 a) ?_
    rw [pa_w_c (pa_dn_n a)]
    exact h
  | succ n ih =>
    intro b hb
    refine br_f (nI_ge (a := b) (b := 8) (by omega) (by decide)) ?_
    have hb8 : b < 8 := by omega
    have e1 := pa_i3 t a m
    have e2 := pa_i3 t m b
    have e3 := pa_i3 t a b
    have i3 : vp_in (nI t + nI a + 8 * nI b) 448 := pa_in e3 (by omega) (by decide)
    refine ⟨pa_in e1 (by omega) (by decide), pa_in e2 (by omega) (by decide), ?_⟩
    have v : pa_w A t (pa_dn a b) (pa_x (pa_rd T m)) (nI t + nI a + 8 * nI m).toNatClampNeg + pa_w A t (pa_dn a b) (pa_x (pa_rd T m)) (nI t + nI m + 8 * nI b).toNatClampNeg = nI (T a m + T m b) := by
      rw [pa_cl e1 (by omega), pa_cl e2 (by omega), pa_X_l _ hT ha hm, pa_X_r _ hT hm hb8, nI_add]
    refine nm_r v ⟨i3, ?_⟩
    have v3 : pa_w A t (pa_dn a b) (pa_x (pa_rd T m)) (nI t + nI a + 8 * nI b).toNatClampNeg = nI (T a b) := by
      rw [pa_cl e3 (by omega), pa_w_no (decide_eq_false (by omega)), pa_X_at hT ha hb8]
    have b1 := fT a b ha hb8
    have b2 := fT a m ha hm
    have b3 := fT m b hm hb8
    have eo : pa_x (pa_rd T m) (a + 8 * b) = min (T a b) (T a m + T m b) := pa_x_at _ ha
    refine pk_le (T a b) (T a m + T m b) (fun z => ?_) (fun z => ?_) v3 rfl (by omega) (by omega)
    · have hv : pa_w A t (pa_dn a b) (pa_x (pa_rd T m)) (t + (a + 8 * b)) = nI (pa_x (pa_rd T m) (a + 8 * b)) := by
        rw [← pa_cl e3 (by omega), v3, eo]
        exact congrArg nI (by omega)
      rw [pa_w_k (pa_dn_s ha) hv]
      exact nm_r (nI_1 b) (ih (b + 1) (by omega))
    · refine ⟨i3, ?_⟩
      refine nm_r (pa_w_s (q := a + 8 * b) (by omega) (pa_dn_s ha) (pa_cl e3 (by omega)) (by rw [eo]; exact congrArg nI (by omega))) ?_
      exact nm_r (nI_1 b) (ih (b + 1) (by omega))
theorem px_alw_l {post : SX → Prop} {sm ex : Int32} {ed sk sa jo A : Nat → Int32} {m t : Nat} {T : Nat → Nat → Nat} (hT : pa_X A t T) (fT : pa_F T) (hm : m < 8) (ht : t + 64 ≤ 448) (h : post (sm, ex, ed, sk, sa, pa_w A t pa_al (pa_x (pa_rd T m)), jo)) : ∀ n a, a + n = 8 → wX_allowThrough_2 post (nI m) (nI t) sm ex (n + 1) (nI a) ed sk sa (pa_w A t (pa_dn a 0) (pa_x (pa_rd T m))) jo := by
  intro n
  induction n with
  | zero =>
    intro a ha
    obtain rfl : a = 8 := by omega
    refine br_t (nI_le (a := 8) (b := 8) (Nat.le_refl _) (by decide)) ?_
    rw [pa_w_c pa_dn_8]
    exact h
  | succ n ih =>
    intro a ha
    refine br_f (nI_ge (a := a) (b := 8) (by omega) (by decide)) ?_
    exact ⟨9, px_alw_i hT fT hm ht (by omega) (ih (a + 1) (by omega)) 8 0 rfl⟩
theorem px_alw {post : SX → Prop} {sm ex : Int32} {ed sk sa jo A : Nat → Int32} {m t : Nat} {T : Nat → Nat → Nat} (hT : pa_X A t T) (fT : pa_F T) (hm : m < 8) (ht : t + 64 ≤ 448) (h : post (sm, ex, ed, sk, sa, pa_w A t pa_al (pa_x (pa_rd T m)), jo)) : wpX_allowThrough post (sm, ex, ed, sk, sa, A, jo) (nI m) (nI t) := by
  have z := px_alw_l hT fT hm ht h 8 0 rfl
  rw [pa_w_0 pa_dn_0] at z
  exact ⟨9, z⟩
theorem px_rep_r {post : SX → Prop} {sm ex : Int32} {ed sk sa jo A : Nat → Int32} {t : Nat} {T : Nat → Nat → Nat} (fT : pa_F T) (ht : t + 64 ≤ 448) (h : post (sm, ex, ed, sk, sa, pa_w A t pa_al (pa_x (pa_st T 8)), jo)) : ∀ n m, m + n = 8 → wX_repeatTable_30 post (nI t) (n + 1) (nI m) sm ex ed sk sa (pa_w A t pa_al (pa_x (pa_st T m))) jo := by
  intro n
  induction n with
  | zero =>
    intro m hm
    obtain rfl : m = 8 := by omega
    exact br_t (nI_le (a := 8) (b := 8) (Nat.le_refl _) (by decide)) h
  | succ n ih =>
    intro m hm
    refine br_f (nI_ge (a := m) (b := 8) (by omega) (by decide)) ?_
    refine px_alw (T := pa_st T m) (fun q hq => pa_w_in hq rfl) (pa_st_le fT m) (by omega) ht ?_
    dsimp only
    rw [pa_w_w]
    exact nm_r (nI_1 m) (ih (m + 1) (by omega))
theorem px_rep_l {post : SX → Prop} {sm ex : Int32} {ed sk sa jo A : Nat → Int32} {t : Nat} {T : Nat → Nat → Nat} (hT : pa_X A t T) (fT : pa_F T) (ht : t + 64 ≤ 448) (h : post (sm, ex, ed, sk, sa, pa_w A t pa_al (pa_x (pa_st T 8)), jo)) : ∀ n i, i + n = 8 → wX_repeatTable_2 post (nI t) sm ex (n + 1) (nI i) ed sk sa (pa_w A t (pa_dd i) (pa_x (pa_st T 0))) jo := by
  intro n
  induction n with
  | zero =>
    intro i hi
    obtain rfl : i = 8 := by omega
    refine br_t (nI_le (a := 8) (b := 8) (Nat.le_refl _) (by decide)) ?_
    rw [pa_w_f (D := pa_dd 8)]
    · exact ⟨9, px_rep_r fT ht h 8 0 rfl⟩
    · intro q hq hD
      rw [hT q hq]
      refine congrArg nI ?_
      show T (q % 8) (q / 8) = if q % 8 = q / 8 then 0 else T (q % 8) (q / 8)
      rw [if_neg]
      intro z
      have := of_decide_eq_false hD
      omega
  | succ n ih =>
    intro i hi
    refine br_f (nI_ge (a := i) (b := 8) (by omega) (by decide)) ?_
    refine ⟨pa_in (pa_i3d t i) (by omega) (by decide), ?_⟩
    refine nm_r (pa_w_s (q := i * 9) (by omega) (pa_dd_s i) (pa_cl (pa_i3d t i) (by omega)) ?_) ?_
    · rw [show i * 9 = i + 8 * i by omega, pa_x_at _ (by omega : i < 8), pa_st_d]
      rfl
    · exact nm_r (nI_1 i) (ih (i + 1) (by omega))
theorem px_rep {post : SX → Prop} {sm ex : Int32} {ed sk sa jo A : Nat → Int32} {t : Nat} {T : Nat → Nat → Nat} (hT : pa_X A t T) (fT : pa_F T) (ht : t + 64 ≤ 448) (h : post (sm, ex, ed, sk, sa, pa_w A t pa_al (pa_x (pa_st T 8)), jo)) : wpX_repeatTable post (sm, ex, ed, sk, sa, A, jo) (nI t) := by
  have z := px_rep_l hT fT ht h 8 0 rfl
  rw [pa_w_0 pa_dd_0] at z
  exact ⟨9, z⟩
end
section
/-! the class's tables and the machine's stack: the lowest table is far everywhere, level l lies at (l + 1) * 64 -/
def pa_XP (A : Nat → Int32) (d : Nat) (S : Nat → Nat → Nat → Nat) : Prop := (∀ q, q < 64 → A q = nI 1000000) ∧ ∀ l, l < d → pa_X A ((l + 1) * 64) (S l)
theorem pa_XP_put {A : Nat → Int32} {d e : Nat} {S : Nat → Nat → Nat → Nat} {M : Nat → Nat → Nat} (h : pa_XP A d S) (he : e ≤ d) : pa_XP (pa_w A ((e + 1) * 64) pa_al (pa_x M)) (e + 1) (pa_put S e M) := by
  refine ⟨fun q hq => ?_, fun l hl q hq => ?_⟩
  · rw [pa_w_out (by omega)]
    exact h.1 q hq
  · by_cases z : l = e
    · subst z
      rw [pa_put_s]
      exact pa_w_in hq rfl
    · rw [pa_put_n z, pa_w_out (by omega)]
      exact h.2 l (by omega) q hq
theorem pa_up (d : Nat) : nI (d * 64) + 64 = nI ((d + 1) * 64) := (nI_add (d * 64) 64).trans (congrArg nI (by omega))
theorem pa_dw (d : Nat) : nI ((d + 1) * 64) - 64 = nI (d * 64) := (pk_sub (a := (d + 1) * 64) (b := 64) (by omega)).trans (congrArg nI (by omega))
theorem px_stp {post : Int32 → SX → Prop} {sm ex : Int32} {ed sk sa jo A : Nat → Int32} {k r : Int32} {d : Nat} {S : Nat → Nat → Nat → Nat} (hok : pa_ok k r d) (hd : d ≤ 6) (hX : pa_XP A d S) (hF : ∀ l, l < d → pa_F (S l)) (h : ∀ A' jo', pa_XP A' (pa_dep k d) (pa_stp ed k r d S) → post (nI (pa_dep k d * 64)) (sm, ex, ed, sk, sa, A', jo')) : wpX_measureStep post (sm, ex, ed, sk, sa, A, jo) k r (nI (d * 64)) := by
  unfold wpX_measureStep
  dsimp only
  rcases hok with ⟨rfl, ⟨l, hl, rfl⟩, hd6⟩ | ⟨rfl, ⟨l, hl, rfl⟩, hd6⟩ | ⟨rfl, _, hd6⟩ | ⟨rfl, h2⟩ | ⟨rfl, h2⟩ | ⟨rfl, h1⟩
  · rw [pa_stp_0, pa_dep_0] at h
    refine nm_r (pa_up d) (nm_e ?_)
    refine br_f (by decide) (br_f (by decide) (br_t rfl ?_))
    exact px_lab hl (by omega) (h _ _ (pa_XP_put hX (Nat.le_refl d)))
  · rw [pa_stp_1, pa_dep_1] at h
    refine nm_r (pa_up d) (nm_e ?_)
    refine br_f (by decide) (br_f (by decide) (br_f (by decide) (br_t rfl ?_)))
    exact px_bck hl (by omega) (h _ _ (pa_XP_put hX (Nat.le_refl d)))
  · rw [pa_stp_2, pa_dep_2] at h
    refine nm_r (pa_up d) (nm_e ?_)
    refine br_f (by decide) (br_f (by decide) (br_f (by decide) (br_f (by decide) (br_t rfl ?_))))
    exact px_atm (by omega) (h _ _ (pa_XP_put hX (Nat.le_refl d)))
  · obtain ⟨e, rfl⟩ : ∃ e, d = e + 2 := ⟨d - 2, by omega⟩
    rw [pa_stp_3, pa_dep_3] at h
    refine nm_e (nm_r (pa_dw (e + 1)) ?_)
    refine br_f (by decide) (br_f (by decide) (br_f (by decide) (br_f (by decide) (br_f (by decide) (br_t rfl ?_)))))
    exact px_thn (hX.2 e (by omega)) (hX.2 (e + 1) (by omega)) (hF e (by omega)) (hF (e + 1) (by omega)) (by omega) (by omega) (fun jo' => h _ _ (pa_XP_put hX (by omega : e ≤ e + 2)))
  · obtain ⟨e, rfl⟩ : ∃ e, d = e + 2 := ⟨d - 2, by omega⟩
    rw [pa_stp_4, pa_dep_4] at h
    refine nm_e (nm_r (pa_dw (e + 1)) ?_)
    refine br_f (by decide) (br_f (by decide) (br_f (by decide) (br_f (by decide) (br_f (by decide) (br_f (by decide) (br_t rfl ?_))))))
    exact px_orr (hX.2 e (by omega)) (hX.2 (e + 1) (by omega)) (hF e (by omega)) (hF (e + 1) (by omega)) (by omega) (by omega) (h _ _ (pa_XP_put hX (by omega : e ≤ e + 2)))
  · obtain ⟨e, rfl⟩ : ∃ e, d = e + 1 := ⟨d - 1, by omega⟩
    rw [pa_stp_5, pa_dep_5] at h
    refine nm_e (nm_e ?_)
    refine br_f (by decide) (br_t (by decide) ?_)
    exact px_rep (hX.2 e (by omega)) (hF e (by omega)) (by omega) (h _ _ (pa_XP_put hX (by omega : e ≤ e + 1)))
theorem px_top_l {post : Int32 → SX → Prop} {ex : Int32} {ed K R : Nat → Int32} {m : Nat} (hm : m ≤ 14) (hok : ∀ i, i < m → pa_ok (K i) (R i) (pa_d K i)) (h : ∀ A' jo', pa_XP A' (pa_d K m) (pa_S ed K R m) → post (nI (pa_d K m * 64)) (nI m, ex, ed, K, R, A', jo')) : ∀ n i A jo, i + n = m → pa_XP A (pa_d K i) (pa_S ed K R i) → wX_measureTop_9 post (n + 1) (nI (pa_d K i * 64)) (nI i) (nI m) ex ed K R A jo := by
  intro n
  induction n with
  | zero =>
    intro i A jo hi hX
    obtain rfl : i = m := by omega
    exact br_t (nI_le (Nat.le_refl _) (by omega)) (h A jo hX)
  | succ n ih =>
    intro i A jo hi hX
    refine br_f (nI_ge (by omega) (by omega)) ?_
    have hin : vp_in (nI i) 14 := vp_in_nI (by omega) (by decide)
    refine ⟨hin, hin, ?_⟩
    rw [nI_clamp (by omega : i < 2 ^ 31)]
    refine px_stp (hok i (by omega)) (pa_d_le hok i (by omega)) hX (pa_V_le (pa_V_run hm hok i (by omega))) (fun A' jo' hX' => ?_)
    exact nm_r (nI_1 i) (ih (i + 1) A' jo' (by omega) hX')
theorem px_top {post : Int32 → SX → Prop} {ex : Int32} {ed K R A jo : Nat → Int32} {m : Nat} (hm : m ≤ 14) (hok : ∀ i, i < m → pa_ok (K i) (R i) (pa_d K i)) (h : ∀ A' jo', pa_XP A' (pa_d K m) (pa_S ed K R m) → post (nI (pa_d K m * 64)) (nI m, ex, ed, K, R, A', jo')) : wpX_measureTop post (nI m, ex, ed, K, R, A, jo) := by
  unfold wpX_measureTop
  dsimp only
  refine px_fg (t := 0) (by decide) ?_
  refine ⟨m + 1, px_top_l hm hok h m 0 _ _ (by omega) ⟨fun q hq => ?_, fun l hl => absurd hl (Nat.not_lt_zero l)⟩⟩
  have z := pa_w_in (A := A) (t := 0) (D := pa_al) (g := fun _ => 1000000) hq rfl
  rw [Nat.zero_add] at z
  exact z
/-- what the class reads of the top table -/
theorem pa_XP_T {A : Nat → Int32} {d : Nat} {S : Nat → Nat → Nat → Nat} (h : pa_XP A d S) : ∀ q, q < 64 → A (d * 64 + q) = nI (pa_x (pa_T S d) q) := by
  intro q hq
  cases d with
  | zero =>
    rw [Nat.zero_mul, Nat.zero_add]
    exact h.1 q hq
  | succ d => exact h.2 d (by omega) q hq
end
section
/-! the reference's tables: 8 * from + to, capped at 100000 -/
def pa_y (M : Nat → Nat → Nat) : Nat → Nat := fun q => min (M (q / 8) (q % 8)) 100000
def pa_Y (B : Nat → Int32) (t : Nat) (M : Nat → Nat → Nat) : Prop := ∀ q, q < 64 → B (t + q) = nI (pa_y M q)
theorem pa_y_at (M : Nat → Nat → Nat) {a b : Nat} (hb : b < 8) : pa_y M (a * 8 + b) = min (M a b) 100000 := by
  show min (M ((a * 8 + b) / 8) ((a * 8 + b) % 8)) 100000 = min (M a b) 100000
  rw [show (a * 8 + b) / 8 = a by omega, show (a * 8 + b) % 8 = b by omega]
theorem pa_y_le (M : Nat → Nat → Nat) (q : Nat) : pa_y M q ≤ 100000 := Nat.min_le_right _ _
theorem py_lst {post : Int32 → Prop} {fm fh : Int32} {ed K R B : Nat → Int32} {x y : Int32} {a b : Nat} (ex : x = nI a) (ey : y = nI b) (ha : a < 2 ^ 31) (hb : b < 2 ^ 31) (h : post (nI (min a b))) : wpY_least post (fm, fh, ed, K, R, B) x y := by
  subst ex ey
  refine pk_le b a (fun z => ?_) (fun z => ?_) rfl rfl hb ha
  · rw [show min a b = b by omega] at h
    exact h
  · rw [show min a b = a by omega] at h
    exact h
/-! a single step's table -/
theorem py_sg_0 {post : Int32 → Prop} {fm fh : Int32} {ed K R B : Nat → Int32} {k : Int32} {l a b : Nat} (hk : k = 0) (hl : l < 3) (ha : a < 8) (hb : b < 8) (h : post (nI (min (pa_lab ed (nI l) a b) 100000))) : wpY_single post (fm, fh, ed, K, R, B) k (nI l) (nI a) (nI b) := by
  subst hk
  have H : ∀ z0, wY_single_21 post 0 (nI l) (nI a) (nI b) z0 fm fh ed K R B := by
    intro z0
    have ec : (nI l * 64 + nI a + 8 * nI b).toNatClampNeg = l * 64 + (a + 8 * b) := pa_cl (pa_i7 l a b 0) (by omega)
    refine br_t rfl ⟨pa_in (pa_i7 l a b 0) (by omega) (by decide), nm_r (congrArg ed ec) ?_⟩
    have e : pa_lab ed (nI l) a b = if ed (l * 64 + (a + 8 * b)) = 0 then 1000000 else 1 := by
      show (if ed ((nI l).toNatClampNeg * 64 + (a + 8 * b)) = 0 then 1000000 else 1) = _
      rw [nI_clamp (by omega)]
    rw [e] at h
    by_cases z : ed (l * 64 + (a + 8 * b)) = 0
    · rw [if_pos z] at h
      exact br_t z h
    · rw [if_neg z] at h
      exact br_f z (br_f (by decide) h)
  exact ⟨fun _ => ⟨fun _ => H 1, fun _ => ⟨fun _ => H 1, fun _ => H 0⟩⟩, fun _ => H 0⟩
theorem py_sg_1 {post : Int32 → Prop} {fm fh : Int32} {ed K R B : Nat → Int32} {k : Int32} {l a b : Nat} (hk : k = 1) (hl : l < 3) (ha : a < 8) (hb : b < 8) (h : post (nI (min (pa_bck ed (nI l) a b) 100000))) : wpY_single post (fm, fh, ed, K, R, B) k (nI l) (nI a) (nI b) := by
  subst hk
  have H : ∀ z0, wY_single_21 post 1 (nI l) (nI a) (nI b) z0 fm fh ed K R B := by
    intro z0
    have ec : (nI l * 64 + nI b + 8 * nI a).toNatClampNeg = l * 64 + (b + 8 * a) := pa_cl (pa_i7 l b a 0) (by omega)
    refine br_f (by decide) (br_t rfl ⟨pa_in (pa_i7 l b a 0) (by omega) (by decide), nm_r (congrArg ed ec) ?_⟩)
    have e : pa_bck ed (nI l) a b = if ed (l * 64 + (b + 8 * a)) = 0 then 1000000 else 1 := by
      show (if ed ((nI l).toNatClampNeg * 64 + (b + 8 * a)) = 0 then 1000000 else 1) = _
      rw [nI_clamp (by omega)]
    rw [e] at h
    by_cases z : ed (l * 64 + (b + 8 * a)) = 0
    · rw [if_pos z] at h
      exact br_t z h
    · rw [if_neg z] at h
      exact br_f z (br_f (by decide) h)
  exact ⟨fun _ => ⟨fun _ => H 1, fun _ => ⟨fun _ => H 1, fun _ => H 0⟩⟩, fun _ => H 0⟩
theorem py_sg_2 {post : Int32 → Prop} {fm fh : Int32} {ed K R B : Nat → Int32} {k r : Int32} {a b : Nat} (hk : k = 2) (ha : a < 8) (hb : b < 8) (h : post (nI (min (pa_atm r a b) 100000))) : wpY_single post (fm, fh, ed, K, R, B) k r (nI a) (nI b) := by
  subst hk
  have e : pa_atm r a b = if a = b ∧ (r = -1 ∨ r = nI a) then 0 else 1000000 := rfl
  rw [e] at h
  have H1 : a = b → (r = -1 ∨ r = nI a) → wY_single_16 post 2 r (nI a) (nI b) fm fh ed K R B := by
    intro z1 z2
    rw [if_pos ⟨z1, z2⟩] at h
    exact br_f (by decide) (br_f (by decide) (br_f (by decide) (br_t rfl h)))
  have H0 : ¬ (a = b ∧ (r = -1 ∨ r = nI a)) → wY_single_20 post 2 r (nI a) (nI b) fm fh ed K R B := by
    intro z
    rw [if_neg z] at h
    exact br_f (by decide) (br_f (by decide) (br_t rfl h))
  have c := nI_eq (a := a) (b := b) (by omega) (by omega)
  exact ⟨fun z => ⟨fun y => H1 (c.mp z) (Or.inl y), fun y => ⟨fun x => H1 (c.mp z) (Or.inr x), fun x => H0 (fun w => w.2.elim y x)⟩⟩, fun z => H0 (fun w => z (c.mpr w.1))⟩
theorem py_new_l {post : Int32 → SY → Prop} {J4 : Int32 → Int32 → Int32 → Int32 → (Nat → Int32) → (Nat → Int32) → (Nat → Int32) → (Nat → Int32) → Prop} {fm fh : Int32} {ed K R B : Nat → Int32} {e i : Nat} {M : Nat → Nat → Nat} (he : e < 6) (hi : i < 14) (hM : ∀ (p : Int32 → Prop) (B' : Nat → Int32) (a b : Nat), a < 8 → b < 8 → p (nI (min (M a b) 100000)) → wpY_single p (fm, fh, ed, K, R, B') (K i) (R i) (nI a) (nI b)) (h : J4 (nI e) (nI (i + 1)) fm fh ed K R (pa_w B (e * 64) pa_al (pa_y M))) : ∀ n p, p + n = 64 → wY_workOut_27 post J4 (nI e) (nI i) fm fh (n + 1) (nI p) ed K R (pa_w B (e * 64) (pa_dl p) (pa_y M)) := by
  intro n
  induction n with
  | zero =>
    intro p hp
    obtain rfl : p = 64 := by omega
    refine br_t (nI_le (a := 64) (b := 64) (Nat.le_refl _) (by decide)) ?_
    rw [pa_w_c pa_dl_64]
    exact nm_r (nI_1 i) h
  | succ n ih =>
    intro p hp
    refine br_f (nI_ge (a := p) (b := 64) (by omega) (by decide)) ?_
    have hin : vp_in (nI i) 14 := vp_in_nI (by omega) (by decide)
    refine ⟨hin, hin, by decide, by decide, ?_⟩
    rw [pa_rm (by omega : p < 64), pa_dv (by omega : p < 64), nI_clamp (by omega : i < 2 ^ 31)]
    refine hM _ _ (p / 8) (p % 8) (by omega) (by omega) ?_
    have e1 := pa_i4 e p
    refine ⟨pa_in e1 (by omega) (by decide), ?_⟩
    refine nm_r (pa_w_s (q := p) (by omega) (pa_dl_s p) (pa_cl e1 (by omega)) rfl) ?_
    exact nm_r (nI_1 p) (ih (p + 1) (by omega))
/-! or -/
theorem py_orr_l {post : Int32 → SY → Prop} {J4 : Int32 → Int32 → Int32 → Int32 → (Nat → Int32) → (Nat → Int32) → (Nat → Int32) → (Nat → Int32) → Prop} {fm fh : Int32} {ed K R B : Nat → Int32} {e i : Nat} {M N : Nat → Nat → Nat} (he : e < 5) (hM : pa_Y B (e * 64) M) (hN : pa_Y B ((e + 1) * 64) N) (h : J4 (nI e) (nI (i + 1)) fm fh ed K R (pa_w B (e * 64) pa_al (pa_y (pa_orr M N)))) : ∀ n p, p + n = 64 → wY_workOut_113 post J4 (nI e) (nI i) fm fh (n + 1) (nI p) ed K R (pa_w B (e * 64) (pa_dl p) (pa_y (pa_orr M N))) := by
  intro n
  induction n with
  | zero =>
    intro p hp
    obtain rfl : p = 64 := by omega
    refine br_t (nI_le (a := 64) (b := 64) (Nat.le_refl _) (by decide)) ?_
    rw [pa_w_c pa_dl_64]
    exact nm_r (nI_1 i) h
  | succ n ih =>
    intro p hp
    refine br_f (nI_ge (a := p) (b := 64) (by omega) (by decide)) ?_
    have e1 := pa_i4 e p
    have e2 := pa_i5 e p
    have i1 : vp_in (nI e * 64 + nI p) 448 := pa_in e1 (by omega) (by decide)
    refine ⟨i1, pa_in e2 (by omega) (by decide), ?_⟩
    have v1 : pa_w B (e * 64) (pa_dl p) (pa_y (pa_orr M N)) (nI e * 64 + nI p).toNatClampNeg = nI (pa_y M p) := by
      rw [pa_cl e1 (by omega), pa_w_no (decide_eq_false (by omega)), hM p (by omega)]
    have v2 : pa_w B (e * 64) (pa_dl p) (pa_y (pa_orr M N)) (nI e * 64 + 64 + nI p).toNatClampNeg = nI (pa_y N p) := by
      rw [pa_cl e2 (by omega), pa_w_out (by omega), hN p (by omega)]
    have b1 := pa_y_le M p
    have b2 := pa_y_le N p
    refine py_lst v1 v2 (by omega) (by omega) ⟨i1, ?_⟩
    refine nm_r (pa_w_s (q := p) (by omega) (pa_dl_s p) (pa_cl e1 (by omega)) ?_) ?_
    · refine congrArg nI ?_
      show min (min (M (p / 8) (p % 8)) 100000) (min (N (p / 8) (p % 8)) 100000) = min (min (M (p / 8) (p % 8)) (N (p / 8) (p % 8))) 100000
      omega
    · exact nm_r (nI_1 p) (ih (p + 1) (by omega))
/-! then -/
theorem py_thn_c {post : SY → Prop} {fm fh : Int32} {ed K R B : Nat → Int32} {e : Nat} {g : Nat → Nat} (he : e < 5) (hB : ∀ q, q < 64 → B ((e + 2) * 64 + q) = nI (g q)) (h : post (fm, fh, ed, K, R, pa_w B (e * 64) pa_al g)) : ∀ n p, p + n = 64 → wY_join_109 post (nI e) fm fh (n + 1) (nI p) ed K R (pa_w B (e * 64) (pa_dl p) g) := by
  intro n
  induction n with
  | zero =>
    intro p hp
    obtain rfl : p = 64 := by omega
    refine br_t (nI_le (a := 64) (b := 64) (Nat.le_refl _) (by decide)) ?_
    rw [pa_w_c pa_dl_64]
    exact h
  | succ n ih =>
    intro p hp
    refine br_f (nI_ge (a := p) (b := 64) (by omega) (by decide)) ?_
    have e1 := pa_i4 e p
    have e2 := pa_i6 e p
    refine ⟨pa_in e2 (by omega) (by decide), pa_in e1 (by omega) (by decide), ?_⟩
    refine nm_r (pa_w_s (q := p) (by omega) (pa_dl_s p) (pa_cl e1 (by omega)) ?_) ?_
    · rw [pa_cl e2 (by omega), pa_w_out (by omega), hB p (by omega)]
    · exact nm_r (nI_1 p) (ih (p + 1) (by omega))
theorem py_thn_i {post : SY → Prop} {J2 : Int32 → (Nat → Int32) → (Nat → Int32) → (Nat → Int32) → (Nat → Int32) → Prop} {fm fh : Int32} {ed K R B : Nat → Int32} {e p : Nat} {M N : Nat → Nat → Nat} (he : e < 5) (hp : p < 64) (hM : pa_Y B (e * 64) M) (hN : pa_Y B ((e + 1) * 64) N) (h : J2 (nI (p + 1)) ed K R (upd B ((e + 2) * 64 + p) (nI (pa_y (pa_thn M N) p)))) : ∀ n m, m + n = 8 → wY_join_14 post J2 (nI e) (nI p) fm fh ed K R B (n + 1) (nI (min (pa_jn M N (p / 8) (p % 8) m) 100000)) (nI m) := by
  intro n
  induction n with
  | zero =>
    intro m hm
    obtain rfl : m = 8 := by omega
    refine br_t (nI_le (a := 8) (b := 8) (Nat.le_refl _) (by decide)) ?_
    have e1 := pa_i6 e p
    refine ⟨pa_in e1 (by omega) (by decide), ?_⟩
    rw [pa_cl e1 (by omega)]
    exact nm_e (nm_r (nI_1 p) h)
  | succ n ih =>
    intro m hm
    refine br_f (nI_ge (a := m) (b := 8) (by omega) (by decide)) ?_
    have e1 := pa_i8 (l := e) (m := m) hp
    have e2 := pa_i9 (l := e) (m := m) hp
    have v1 : B (nI e * 64 + nI p / 8 * 8 + nI m).toNatClampNeg = nI (min (M (p / 8) m) 100000) := by
      rw [pa_cl e1 (by omega), hM _ (by omega), pa_y_at _ (by omega)]
    have v2 : B (nI e * 64 + 64 + nI m * 8 + (nI p - nI p / 8 * 8)).toNatClampNeg = nI (min (N m (p % 8)) 100000) := by
      rw [pa_cl e2 (by omega), hN _ (by omega), pa_y_at _ (by omega)]
    refine ⟨by decide, pa_in e1 (by omega) (by decide), nm_r v1 ⟨by decide, pa_in e2 (by omega) (by decide), nm_r v2 ?_⟩⟩
    refine py_lst rfl (nI_add _ _) (by omega) (by omega) ?_
    have q := ih (m + 1) (by omega)
    have ej : pa_jn M N (p / 8) (p % 8) (m + 1) = min (pa_jn M N (p / 8) (p % 8) m) (M (p / 8) m + N m (p % 8)) := rfl
    rw [show min (pa_jn M N (p / 8) (p % 8) (m + 1)) 100000 = min (min (pa_jn M N (p / 8) (p % 8) m) 100000) (min (M (p / 8) m) 100000 + min (N m (p % 8)) 100000) by omega] at q
    exact nm_r (nI_1 m) q
theorem py_thn_l {post : SY → Prop} {fm fh : Int32} {ed K R B : Nat → Int32} {e : Nat} {M N : Nat → Nat → Nat} (he : e < 5) (hM : pa_Y B (e * 64) M) (hN : pa_Y B ((e + 1) * 64) N) (h : post (fm, fh, ed, K, R, pa_w (pa_w B ((e + 2) * 64) pa_al (pa_y (pa_thn M N))) (e * 64) pa_al (pa_y (pa_thn M N)))) : ∀ n p, p + n = 64 → wY_join_2 post (nI e) fm fh (n + 1) (nI p) ed K R (pa_w B ((e + 2) * 64) (pa_dl p) (pa_y (pa_thn M N))) := by
  intro n
  induction n with
  | zero =>
    intro p hp
    obtain rfl : p = 64 := by omega
    refine br_t (nI_le (a := 64) (b := 64) (Nat.le_refl _) (by decide)) ?_
    rw [pa_w_c pa_dl_64]
    have z := py_thn_c (B := pa_w B ((e + 2) * 64) pa_al (pa_y (pa_thn M N))) he (fun q hq => pa_w_in hq rfl) h 64 0 rfl
    rw [pa_w_0 pa_dl_0] at z
    exact ⟨65, z⟩
  | succ n ih =>
    intro p hp
    refine br_f (nI_ge (a := p) (b := 64) (by omega) (by decide)) ?_
    refine ⟨9, py_thn_i he (by omega) (M := M) (N := N) (fun q hq => ?_) (fun q hq => ?_) ?_ 8 0 rfl⟩
    · rw [pa_w_out (by omega)]; exact hM q hq
    · rw [pa_w_out (by omega)]; exact hN q hq
    · rw [pa_w_s (q := p) (by omega) (pa_dl_s p) rfl rfl]
      exact ih (p + 1) (by omega)
theorem py_thn {post : SY → Prop} {fm fh : Int32} {ed K R B : Nat → Int32} {e : Nat} {M N : Nat → Nat → Nat} (he : e < 5) (hM : pa_Y B (e * 64) M) (hN : pa_Y B ((e + 1) * 64) N) (h : post (fm, fh, ed, K, R, pa_w (pa_w B ((e + 2) * 64) pa_al (pa_y (pa_thn M N))) (e * 64) pa_al (pa_y (pa_thn M N)))) : wpY_join post (fm, fh, ed, K, R, B) (nI e) := by
  have z := py_thn_l he hM hN h 64 0 rfl
  rw [pa_w_0 pa_dl_0] at z
  exact ⟨65, z⟩
end
section
/-! star -/
theorem pa_Y_l {B : Nat → Int32} {t m : Nat} {T : Nat → Nat → Nat} (D : Nat → Bool) (hT : pa_Y B t T) {a : Nat} (ha : a < 8) (hm : m < 8) : pa_w B t D (pa_y (pa_rd T m)) (t + (a * 8 + m)) = nI (min (T a m) 100000) := by
  cases hD : D (a * 8 + m) with
  | true => rw [pa_w_in (by omega) hD, pa_y_at _ hm, pa_rd_l]
  | false => rw [pa_w_no hD, hT _ (by omega), pa_y_at _ hm]
theorem pa_Y_r {B : Nat → Int32} {t m : Nat} {T : Nat → Nat → Nat} (D : Nat → Bool) (hT : pa_Y B t T) {b : Nat} (hm : m < 8) (hb : b < 8) : pa_w B t D (pa_y (pa_rd T m)) (t + (m * 8 + b)) = nI (min (T m b) 100000) := by
  cases hD : D (m * 8 + b) with
  | true => rw [pa_w_in (by omega) hD, pa_y_at _ hb, pa_rd_r]
  | false => rw [pa_w_no hD, hT _ (by omega), pa_y_at _ hb]
theorem py_cls_i {post : SY → Prop} {J31 : Int32 → (Nat → Int32) → (Nat → Int32) → (Nat → Int32) → (Nat → Int32) → Prop} {fm fh : Int32} {ed K R B : Nat → Int32} {e m : Nat} {T : Nat → Nat → Nat} (he : e < 6) (hm : m < 8) (hT : pa_Y B (e * 64) T) (h : J31 (nI (m + 1)) ed K R (pa_w B (e * 64) pa_al (pa_y (pa_rd T m)))) : ∀ n p, p + n = 64 → wY_close_39 post J31 (nI e) (nI m) fm fh (n + 1) (nI p) ed K R (pa_w B (e * 64) (pa_dl p) (pa_y (pa_rd T m))) := by
  intro n
  induction n with
  | zero =>
    intro p hp
    obtain rfl : p = 64 := by omega
    refine br_t (nI_le (a := 64) (b := 64) (Nat.le_refl _) (by decide)) ?_
    rw [pa_w_c pa_dl_64]
    exact nm_r (nI_1 m) h
  | succ n ih =>
    intro p hp
    have hp64 : p < 64 := by omega
    refine br_f (nI_ge (a := p) (b := 64) (by omega) (by decide)) ?_
    have e1 := pa_i8 (l := e) (m := m) hp64
    have e2 := pa_ia (l := e) (m := m) hp64
    have e3 := pa_i4 e p
    have i3 : vp_in (nI e * 64 + nI p) 448 := pa_in e3 (by omega) (by decide)
    have v1 : pa_w B (e * 64) (pa_dl p) (pa_y (pa_rd T m)) (nI e * 64 + nI p / 8 * 8 + nI m).toNatClampNeg = nI (min (T (p / 8) m) 100000) := by
      rw [pa_cl e1 (by omega), pa_Y_l _ hT (by omega) hm]
    have v2 : pa_w B (e * 64) (pa_dl p) (pa_y (pa_rd T m)) (nI e * 64 + nI m * 8 + (nI p - nI p / 8 * 8)).toNatClampNeg = nI (min (T m (p % 8)) 100000) := by
      rw [pa_cl e2 (by omega), pa_Y_r _ hT hm (by omega)]
    have v3 : pa_w B (e * 64) (pa_dl p) (pa_y (pa_rd T m)) (nI e * 64 + nI p).toNatClampNeg = nI (pa_y T p) := by
      rw [pa_cl e3 (by omega), pa_w_no (decide_eq_false (by omega)), hT p hp64]
    have b3 := pa_y_le T p
    refine ⟨by decide, pa_in e1 (by omega) (by decide), nm_r v1 ⟨by decide, pa_in e2 (by omega) (by decide), nm_r v2 ⟨i3, ?_⟩⟩⟩
    refine py_lst v3 (nI_add _ _) (by omega) (by omega) ⟨i3, ?_⟩
    refine nm_r (pa_w_s (q := p) hp64 (pa_dl_s p) (pa_cl e3 (by omega)) ?_) ?_
    · refine congrArg nI ?_
      show min (min (T (p / 8) (p % 8)) 100000) (min (T (p / 8) m) 100000 + min (T m (p % 8)) 100000) = min (min (T (p / 8) (p % 8)) (T (p / 8) m + T m (p % 8))) 100000
      omega
    · exact nm_r (nI_1 p) (ih (p + 1) (by omega))
theorem py_cls_r {post : SY → Prop} {fm fh : Int32} {ed K R B : Nat → Int32} {e : Nat} {T : Nat → Nat → Nat} (he : e < 6) (h : post (fm, fh, ed, K, R, pa_w B (e * 64) pa_al (pa_y (pa_st T 8)))) : ∀ n m, m + n = 8 → wY_close_31 post (nI e) fm fh (n + 1) (nI m) ed K R (pa_w B (e * 64) pa_al (pa_y (pa_st T m))) := by
  intro n
  induction n with
  | zero =>
    intro m hm
    obtain rfl : m = 8 := by omega
    exact br_t (nI_le (a := 8) (b := 8) (Nat.le_refl _) (by decide)) h
  | succ n ih =>
    intro m hm
    refine br_f (nI_ge (a := m) (b := 8) (by omega) (by decide)) ?_
    have z := py_cls_i (post := post) (J31 := wY_close_31 post (nI e) fm fh (n + 1)) (fm := fm) (fh := fh) (ed := ed) (K := K) (R := R) (B := pa_w B (e * 64) pa_al (pa_y (pa_st T m))) (T := pa_st T m) (m := m) he (by omega) (fun q hq => pa_w_in hq rfl) (by rw [pa_w_w]; exact ih (m + 1) (by omega)) 64 0 rfl
    rw [pa_w_0 pa_dl_0] at z
    exact ⟨65, z⟩
theorem py_cls_l {post : SY → Prop} {fm fh : Int32} {ed K R B : Nat → Int32} {e : Nat} {T : Nat → Nat → Nat} (he : e < 6) (hT : pa_Y B (e * 64) T) (h : post (fm, fh, ed, K, R, pa_w B (e * 64) pa_al (pa_y (pa_st T 8)))) : ∀ n i, i + n = 8 → wY_close_2 post (nI e) fm fh (n + 1) (nI i) ed K R (pa_w B (e * 64) (pa_dd i) (pa_y (pa_st T 0))) := by
  intro n
  induction n with
  | zero =>
    intro i hi
    obtain rfl : i = 8 := by omega
    refine br_t (nI_le (a := 8) (b := 8) (Nat.le_refl _) (by decide)) ?_
    rw [pa_w_f (D := pa_dd 8)]
    · exact ⟨9, py_cls_r he h 8 0 rfl⟩
    · intro q hq hD
      rw [hT q hq]
      refine congrArg nI ?_
      show min (T (q / 8) (q % 8)) 100000 = min (if q / 8 = q % 8 then 0 else T (q / 8) (q % 8)) 100000
      rw [if_neg]
      intro z
      have := of_decide_eq_false hD
      omega
  | succ n ih =>
    intro i hi
    refine br_f (nI_ge (a := i) (b := 8) (by omega) (by decide)) ?_
    have e1 := pa_ib e i
    refine ⟨pa_in e1 (by omega) (by decide), ?_⟩
    refine nm_r (pa_w_s (q := i * 9) (by omega) (pa_dd_s i) (pa_cl e1 (by omega)) ?_) ?_
    · rw [show i * 9 = i * 8 + i by omega, pa_y_at _ (by omega : i < 8), pa_st_d]
      rfl
    · exact nm_r (nI_1 i) (ih (i + 1) (by omega))
theorem py_cls {post : SY → Prop} {fm fh : Int32} {ed K R B : Nat → Int32} {x : Int32} {e : Nat} {T : Nat → Nat → Nat} (hx : x = nI e) (he : e < 6) (hT : pa_Y B (e * 64) T) (h : post (fm, fh, ed, K, R, pa_w B (e * 64) pa_al (pa_y (pa_st T 8)))) : wpY_close post (fm, fh, ed, K, R, B) x := by
  subst hx
  have z := py_cls_l he hT h 8 0 rfl
  rw [pa_w_0 pa_dd_0] at z
  exact ⟨9, z⟩
/-! all steps -/
def pa_YP (B : Nat → Int32) (d : Nat) (S : Nat → Nat → Nat → Nat) : Prop := ∀ l, l < d → pa_Y B (l * 64) (S l)
theorem pa_YP_put {B : Nat → Int32} {d e : Nat} {S : Nat → Nat → Nat → Nat} {M : Nat → Nat → Nat} (h : pa_YP B d S) (he : e ≤ d) : pa_YP (pa_w B (e * 64) pa_al (pa_y M)) (e + 1) (pa_put S e M) := by
  intro l hl q hq
  by_cases z : l = e
  · subst z
    rw [pa_put_s]
    exact pa_w_in hq rfl
  · rw [pa_put_n z, pa_w_out (by omega)]
    exact h l (by omega) q hq
theorem pa_YP_up {B : Nat → Int32} {d t : Nat} {S : Nat → Nat → Nat → Nat} {D : Nat → Bool} {g : Nat → Nat} (h : pa_YP B d S) (ht : d * 64 ≤ t) : pa_YP (pa_w B t D g) d S := by
  intro l hl q hq
  rw [pa_w_out (by omega)]
  exact h l hl q hq
theorem pa_lv (d : Nat) : nI d + (-1) + 1 = nI d := by
  rw [Int32.add_assoc, show (-1 : Int32) + 1 = 0 from rfl, Int32.add_zero]
theorem py_top_l {post : Int32 → SY → Prop} {fh : Int32} {ed K R : Nat → Int32} {m : Nat} (hm : m ≤ 14) (hok : ∀ i, i < m → pa_ok (K i) (R i) (pa_d K i)) (h : ∀ B', pa_YP B' (pa_d K m) (pa_S ed K R m) → post (nI (pa_d K m) + (-1)) (nI m, fh, ed, K, R, B')) : ∀ n i B, i + n = m → pa_YP B (pa_d K i) (pa_S ed K R i) → wY_workOut_4 post (n + 1) (nI (pa_d K i) + (-1)) (nI i) (nI m) fh ed K R B := by
  intro n
  induction n with
  | zero =>
    intro i B hi hY
    obtain rfl : i = m := by omega
    exact br_t (nI_le (Nat.le_refl _) (by omega)) (h B hY)
  | succ n ih =>
    intro i B hi hY
    refine br_f (nI_ge (by omega) (by omega)) ?_
    have hin : vp_in (nI i) 14 := vp_in_nI (by omega) (by decide)
    have ec : K (nI i).toNatClampNeg = K i := congrArg K (nI_clamp (by omega))
    have hd6 := pa_d_le hok i (by omega)
    have ih' := fun B' => ih (i + 1) B' (by omega)
    have ed' : pa_d K (i + 1) = pa_dep (K i) (pa_d K i) := rfl
    have eS' : pa_S ed K R (i + 1) = pa_stp ed (K i) (R i) (pa_d K i) (pa_S ed K R i) := rfl
    rw [ed', eS'] at ih'
    have hk0 := hok i (by omega)
    generalize pa_d K i = d at ih' hY hd6 hk0 ⊢
    generalize pa_S ed K R i = S at ih' hY ⊢
    refine ⟨hin, ?_⟩
    rcases hk0 with ⟨hk, ⟨l, hl, hr⟩, hd⟩ | ⟨hk, ⟨l, hl, hr⟩, hd⟩ | ⟨hk, _, hd⟩ | ⟨hk, h2⟩ | ⟨hk, h2⟩ | ⟨hk, h1⟩
    · rw [hk, pa_stp_0, pa_dep_0, pk_m1] at ih'
      refine br_f (by rw [ec, hk]; decide) (nm_r (pa_lv d) ?_)
      have z := py_new_l (post := post) (J4 := wY_workOut_4 post (n + 1)) (fm := nI m) (fh := fh) (ed := ed) (K := K) (R := R) (B := B) (i := i) (M := pa_lab ed (R i)) hd (by omega) (fun p B' a b ha hb hp => by rw [hr] at hp ⊢; exact py_sg_0 hk hl ha hb hp) (ih' _ (pa_YP_put hY (Nat.le_refl d))) 64 0 rfl
      rw [pa_w_0 pa_dl_0] at z
      exact ⟨65, z⟩
    · rw [hk, pa_stp_1, pa_dep_1, pk_m1] at ih'
      refine br_f (by rw [ec, hk]; decide) (nm_r (pa_lv d) ?_)
      have z := py_new_l (post := post) (J4 := wY_workOut_4 post (n + 1)) (fm := nI m) (fh := fh) (ed := ed) (K := K) (R := R) (B := B) (i := i) (M := pa_bck ed (R i)) hd (by omega) (fun p B' a b ha hb hp => by rw [hr] at hp ⊢; exact py_sg_1 hk hl ha hb hp) (ih' _ (pa_YP_put hY (Nat.le_refl d))) 64 0 rfl
      rw [pa_w_0 pa_dl_0] at z
      exact ⟨65, z⟩
    · rw [hk, pa_stp_2, pa_dep_2, pk_m1] at ih'
      refine br_f (by rw [ec, hk]; decide) (nm_r (pa_lv d) ?_)
      have z := py_new_l (post := post) (J4 := wY_workOut_4 post (n + 1)) (fm := nI m) (fh := fh) (ed := ed) (K := K) (R := R) (B := B) (i := i) (M := pa_atm (R i)) hd (by omega) (fun p B' a b ha hb hp => py_sg_2 hk ha hb hp) (ih' _ (pa_YP_put hY (Nat.le_refl d))) 64 0 rfl
      rw [pa_w_0 pa_dl_0] at z
      exact ⟨65, z⟩
    · obtain ⟨e, rfl⟩ : ∃ e, d = e + 2 := ⟨d - 2, by omega⟩
      rw [hk, pa_stp_3, pa_dep_3, show e + 2 - 1 = e + 1 from rfl, show e + 2 - 2 = e from rfl, pk_m1] at ih'
      refine br_t (by rw [ec, hk]; decide) ⟨hin, br_t (by rw [ec, hk]) (nm_r (by rw [pk_m1, pk_m1]) ?_)⟩
      refine py_thn (e := e) (by omega) (hY e (by omega)) (hY (e + 1) (by omega)) ?_
      exact nm_r (nI_1 i) (ih' _ (pa_YP_put (pa_YP_up hY (Nat.le_refl _)) (by omega)))
    · obtain ⟨e, rfl⟩ : ∃ e, d = e + 2 := ⟨d - 2, by omega⟩
      rw [hk, pa_stp_4, pa_dep_4, show e + 2 - 1 = e + 1 from rfl, show e + 2 - 2 = e from rfl, pk_m1] at ih'
      refine br_t (by rw [ec, hk]; decide) ⟨hin, br_f (by rw [ec, hk]; decide) ⟨hin, br_t (by rw [ec, hk]) (nm_r (by rw [pk_m1, pk_m1]) ?_)⟩⟩
      have z := py_orr_l (post := post) (J4 := wY_workOut_4 post (n + 1)) (fm := nI m) (fh := fh) (ed := ed) (K := K) (R := R) (B := B) (i := i) (by omega) (hY e (by omega)) (hY (e + 1) (by omega)) (ih' _ (pa_YP_put hY (by omega : e ≤ e + 2))) 64 0 rfl
      rw [pa_w_0 pa_dl_0] at z
      exact ⟨65, z⟩
    · obtain ⟨e, rfl⟩ : ∃ e, d = e + 1 := ⟨d - 1, by omega⟩
      rw [hk, pa_stp_5, pa_dep_5, show e + 1 - 1 = e from rfl] at ih'
      refine br_t (by rw [ec, hk]; decide) ⟨hin, br_f (by rw [ec, hk]; decide) ⟨hin, br_f (by rw [ec, hk]; decide) ?_⟩⟩
      refine py_cls (pk_m1 e) (by omega) (hY e (by omega)) ?_
      exact nm_r (nI_1 i) (ih' _ (pa_YP_put hY (by omega : e ≤ e + 1)))
theorem py_top {post : Int32 → SY → Prop} {fh : Int32} {ed K R B : Nat → Int32} {m : Nat} (hm : m ≤ 14) (hok : ∀ i, i < m → pa_ok (K i) (R i) (pa_d K i)) (h : ∀ B', pa_YP B' (pa_d K m) (pa_S ed K R m) → post (nI (pa_d K m) + (-1)) (nI m, fh, ed, K, R, B')) : wpY_workOut post (nI m, fh, ed, K, R, B) := by
  have z := py_top_l hm hok h m 0 B (by omega) (fun l hl => absurd hl (Nat.not_lt_zero l))
  have e : nI (pa_d K 0) + (-1) = (-1 : Int32) := by
    show nI 0 + (-1) = (-1 : Int32)
    decide
  rw [e, nI_0] at z
  exact ⟨m + 1, z⟩
/-- the reference's length of a pair -/
theorem py_len {post : Int32 → Prop} {fm fh : Int32} {ed K R B : Nat → Int32} {d a b : Nat} {S : Nat → Nat → Nat → Nat} (hd : d ≤ 6) (hY : pa_YP B d S) (ha : a < 8) (hb : b < 8) (h : post (nI (min (pa_T S d a b) 100000))) : wpY_length post (fm, fh, ed, K, R, B) (nI d + (-1)) (nI a) (nI b) := by
  cases d with
  | zero => exact br_f (by decide) h
  | succ e =>
    rw [pk_m1]
    have e1 := pa_ic e a b
    refine br_t (nI_pos' (by omega)) ⟨pa_in e1 (by omega) (by decide), ?_⟩
    have v : B (nI e * 64 + nI a * 8 + nI b).toNatClampNeg = nI (min (S e a b) 100000) := by
      rw [pa_cl e1 (by omega), hY e (by omega) _ (by omega), pa_y_at _ hb]
    refine py_lst (a := 100000) rfl v (by decide) (by omega) ?_
    have q : min 100000 (min (S e a b) 100000) = min (pa_T S (e + 1) a b) 100000 := by
      show min 100000 (min (S e a b) 100000) = min (S e a b) 100000
      omega
    rw [q]
    exact h
end
section
/-! answers, over the top table T: each length is far in both, or below 100000 -/
def pa_R (T : Nat → Nat → Nat) : Prop := ∀ a b, a < 8 → b < 8 → T a b = 1000000 ∨ T a b < 100000
def pa_A (A : Nat → Int32) (t : Nat) (T : Nat → Nat → Nat) : Prop := ∀ q, q < 64 → A (t + q) = nI (pa_x T q)
theorem pa_A_at {A : Nat → Int32} {t : Nat} {T : Nat → Nat → Nat} (h : pa_A A t T) (ht : t + 64 ≤ 448) {a b : Nat} (ha : a < 8) (hb : b < 8) : vp_in (nI t + nI a + 8 * nI b) 448 ∧ A (nI t + nI a + 8 * nI b).toNatClampNeg = nI (T a b) := by
  have e := pa_i3 t a b
  refine ⟨pa_in e (by omega) (by decide), ?_⟩
  rw [pa_cl e (by omega), h _ (by omega), pa_x_at _ ha]
theorem pa_A_q {A : Nat → Int32} {t : Nat} {T : Nat → Nat → Nat} (h : pa_A A t T) (ht : t + 64 ≤ 448) {q : Nat} (hq : q < 64) : vp_in (nI t + nI q) 448 ∧ A (nI t + nI q).toNatClampNeg = nI (T (q % 8) (q / 8)) := by
  have e := pa_i1 t q
  refine ⟨pa_in e (by omega) (by decide), ?_⟩
  rw [pa_cl e (by omega), h _ hq]
  rfl
/-- a branch on 'far', in the class and in the reference -/
theorem pa_bx {x : Int32} {A B : Prop} {v : Nat} (hx : x = nI v) (hv : v = 1000000 ∨ v < 100000) (f : v = 1000000 → A) (g : v < 100000 → B) : ((1000000 : Int32) ≤ x → A) ∧ (¬ (1000000 : Int32) ≤ x → B) :=
  pk_le 1000000 v (fun z => f (by omega)) (fun z => g (by omega)) rfl hx (by decide) (by omega)
theorem pa_by {A B : Prop} {v : Nat} (hv : v = 1000000 ∨ v < 100000) (f : v = 1000000 → A) (g : v < 100000 → B) : ((100000 : Int32) ≤ nI (min v 100000) → A) ∧ (¬ (100000 : Int32) ≤ nI (min v 100000) → B) :=
  pk_le 100000 (min v 100000) (fun z => f (by omega)) (fun z => g (by omega)) rfl rfl (by decide) (by omega)
/-! masks -/
def pa_mk (v : Nat → Nat) : Nat → Int32
  | 0 => 0
  | i + 1 => if v i = 1000000 then pa_mk v i else pa_mk v i ||| ((1 : Int32) <<< (nI i &&& 31))
theorem pa_mk_f {v : Nat → Nat} {i : Nat} (h : v i = 1000000) : pa_mk v (i + 1) = pa_mk v i := if_pos h
theorem pa_mk_t {v : Nat → Nat} {i : Nat} (h : v i < 100000) : pa_mk v (i + 1) = pa_mk v i ||| ((1 : Int32) <<< (nI i &&& 31)) := if_neg (by omega)
theorem px_rch {post : Int32 → SX → Prop} {sm ex : Int32} {ed sk sa A jo : Nat → Int32} {t a : Nat} {T : Nat → Nat → Nat} (hA : pa_A A t T) (hR : pa_R T) (ht : t + 64 ≤ 448) (ha : a < 8) (h : post (pa_mk (fun b => T a b) 8) (sm, ex, ed, sk, sa, A, jo)) : ∀ n b, b + n = 8 → wX_reach_20 post (nI a) (nI t) sm ex ed sk sa A jo (n + 1) (pa_mk (fun b => T a b) b) (nI b) := by
  intro n
  induction n with
  | zero =>
    intro b hb
    obtain rfl : b = 8 := by omega
    exact br_t (nI_le (a := 8) (b := 8) (Nat.le_refl _) (by decide)) h
  | succ n ih =>
    intro b hb
    refine br_f (nI_ge (a := b) (b := 8) (by omega) (by decide)) ?_
    have q := ih (b + 1) (by omega)
    obtain ⟨i1, v1⟩ := pa_A_at hA ht ha (by omega : b < 8)
    refine ⟨i1, pa_bx v1 (hR a b ha (by omega)) (fun z => ?_) (fun z => ?_)⟩
    · rw [pa_mk_f (v := fun b => T a b) z] at q
      exact nm_r (nI_1 b) q
    · rw [pa_mk_t (v := fun b => T a b) z] at q
      exact nm_e (nm_r (nI_1 b) q)
theorem px_lps {post : Int32 → SX → Prop} {sm ex : Int32} {ed sk sa A jo : Nat → Int32} {t : Nat} {T : Nat → Nat → Nat} (hA : pa_A A t T) (hR : pa_R T) (ht : t + 64 ≤ 448) (h : post (pa_mk (fun b => T b b) 8) (sm, ex, ed, sk, sa, A, jo)) : ∀ n b, b + n = 8 → wX_loops_9 post (nI t) sm ex ed sk sa A jo (n + 1) (pa_mk (fun b => T b b) b) (nI b) := by
  intro n
  induction n with
  | zero =>
    intro b hb
    obtain rfl : b = 8 := by omega
    exact br_t (nI_le (a := 8) (b := 8) (Nat.le_refl _) (by decide)) h
  | succ n ih =>
    intro b hb
    refine br_f (nI_ge (a := b) (b := 8) (by omega) (by decide)) ?_
    have q := ih (b + 1) (by omega)
    obtain ⟨i1, v1⟩ := pa_A_at hA ht (by omega : b < 8) (by omega : b < 8)
    refine ⟨i1, pa_bx v1 (hR b b (by omega) (by omega)) (fun z => ?_) (fun z => ?_)⟩
    · rw [pa_mk_f (v := fun b => T b b) z] at q
      exact nm_r (nI_1 b) q
    · rw [pa_mk_t (v := fun b => T b b) z] at q
      exact nm_e (nm_r (nI_1 b) q)
theorem py_rch {post : Int32 → SY → Prop} {fm fh : Int32} {ed K R B : Nat → Int32} {d a : Nat} {S : Nat → Nat → Nat → Nat} (hY : pa_YP B d S) (hd : d ≤ 6) (hR : pa_R (pa_T S d)) (ha : a < 8) (h : post (pa_mk (fun b => pa_T S d a b) 8) (fm, fh, ed, K, R, B)) : ∀ n b, b + n = 8 → wY_reach_21 post (nI a) (nI d + (-1)) fm fh ed K R B (n + 1) (pa_mk (fun b => pa_T S d a b) b) (nI b) := by
  intro n
  induction n with
  | zero =>
    intro b hb
    obtain rfl : b = 8 := by omega
    exact br_t (nI_le (a := 8) (b := 8) (Nat.le_refl _) (by decide)) h
  | succ n ih =>
    intro b hb
    refine br_f (nI_ge (a := b) (b := 8) (by omega) (by decide)) ?_
    have q := ih (b + 1) (by omega)
    refine py_len hd hY ha (by omega : b < 8) ?_
    refine pa_by (hR a b ha (by omega)) (fun z => ?_) (fun z => ?_)
    · rw [pa_mk_f (v := fun b => pa_T S d a b) z] at q
      exact nm_r (nI_1 b) q
    · rw [pa_mk_t (v := fun b => pa_T S d a b) z] at q
      exact nm_e (nm_r (nI_1 b) q)
theorem py_lps {post : Int32 → SY → Prop} {fm fh : Int32} {ed K R B : Nat → Int32} {d : Nat} {S : Nat → Nat → Nat → Nat} (hY : pa_YP B d S) (hd : d ≤ 6) (hR : pa_R (pa_T S d)) (h : post (pa_mk (fun b => pa_T S d b b) 8) (fm, fh, ed, K, R, B)) : ∀ n b, b + n = 8 → wY_loops_9 post (nI d + (-1)) fm fh ed K R B (n + 1) (pa_mk (fun b => pa_T S d b b) b) (nI b) := by
  intro n
  induction n with
  | zero =>
    intro b hb
    obtain rfl : b = 8 := by omega
    exact br_t (nI_le (a := 8) (b := 8) (Nat.le_refl _) (by decide)) h
  | succ n ih =>
    intro b hb
    refine br_f (nI_ge (a := b) (b := 8) (by omega) (by decide)) ?_
    have q := ih (b + 1) (by omega)
    refine py_len hd hY (by omega : b < 8) (by omega : b < 8) ?_
    refine pa_by (hR b b (by omega) (by omega)) (fun z => ?_) (fun z => ?_)
    · rw [pa_mk_f (v := fun b => pa_T S d b b) z] at q
      exact nm_r (nI_1 b) q
    · rw [pa_mk_t (v := fun b => pa_T S d b b) z] at q
      exact nm_e (nm_r (nI_1 b) q)
/-! pairs -/
def pa_ct (t : Nat → Nat) : Nat → Nat
  | 0 => 0
  | i + 1 => pa_ct t i + t i
def pa_fn (T : Nat → Nat → Nat) (a b : Nat) : Nat := if T a b = 1000000 then 0 else 1
theorem pa_ct_x (G : Nat → Nat → Nat) : pa_ct (fun q => G (q % 8) (q / 8)) 64 = 0 + G 0 0 + G 1 0 + G 2 0 + G 3 0 + G 4 0 + G 5 0 + G 6 0 + G 7 0 + G 0 1 + G 1 1 + G 2 1 + G 3 1 + G 4 1 + G 5 1 + G 6 1 + G 7 1 + G 0 2 + G 1 2 + G 2 2 + G 3 2 + G 4 2 + G 5 2 + G 6 2 + G 7 2 + G 0 3 + G 1 3 + G 2 3 + G 3 3 + G 4 3 + G 5 3 + G 6 3 + G 7 3 + G 0 4 + G 1 4 + G 2 4 + G 3 4 + G 4 4 + G 5 4 + G 6 4 + G 7 4 + G 0 5 + G 1 5 + G 2 5 + G 3 5 + G 4 5 + G 5 5 + G 6 5 + G 7 5 + G 0 6 + G 1 6 + G 2 6 + G 3 6 + G 4 6 + G 5 6 + G 6 6 + G 7 6 + G 0 7 + G 1 7 + G 2 7 + G 3 7 + G 4 7 + G 5 7 + G 6 7 + G 7 7 := rfl
theorem pa_ct_y (G : Nat → Nat → Nat) : pa_ct (fun q => G (q / 8) (q % 8)) 64 = 0 + G 0 0 + G 0 1 + G 0 2 + G 0 3 + G 0 4 + G 0 5 + G 0 6 + G 0 7 + G 1 0 + G 1 1 + G 1 2 + G 1 3 + G 1 4 + G 1 5 + G 1 6 + G 1 7 + G 2 0 + G 2 1 + G 2 2 + G 2 3 + G 2 4 + G 2 5 + G 2 6 + G 2 7 + G 3 0 + G 3 1 + G 3 2 + G 3 3 + G 3 4 + G 3 5 + G 3 6 + G 3 7 + G 4 0 + G 4 1 + G 4 2 + G 4 3 + G 4 4 + G 4 5 + G 4 6 + G 4 7 + G 5 0 + G 5 1 + G 5 2 + G 5 3 + G 5 4 + G 5 5 + G 5 6 + G 5 7 + G 6 0 + G 6 1 + G 6 2 + G 6 3 + G 6 4 + G 6 5 + G 6 6 + G 6 7 + G 7 0 + G 7 1 + G 7 2 + G 7 3 + G 7 4 + G 7 5 + G 7 6 + G 7 7 := rfl
theorem pa_ct_xy (G : Nat → Nat → Nat) : pa_ct (fun q => G (q / 8) (q % 8)) 64 = pa_ct (fun q => G (q % 8) (q / 8)) 64 := by
  rw [pa_ct_x, pa_ct_y]
  omega
theorem pa_ct_f {T : Nat → Nat → Nat} {a b c : Nat} (h : T a b = 1000000) : c + pa_fn T a b = c := by
  unfold pa_fn
  rw [if_pos h, Nat.add_zero]
theorem pa_ct_t {T : Nat → Nat → Nat} {a b c : Nat} (h : T a b < 100000) : c + pa_fn T a b = c + 1 := by
  unfold pa_fn
  rw [if_neg (by omega)]
theorem px_prs {post : Int32 → SX → Prop} {sm ex : Int32} {ed sk sa A jo : Nat → Int32} {t : Nat} {T : Nat → Nat → Nat} (hA : pa_A A t T) (hR : pa_R T) (ht : t + 64 ≤ 448) (h : post (nI (pa_ct (fun q => pa_fn T (q % 8) (q / 8)) 64)) (sm, ex, ed, sk, sa, A, jo)) : ∀ n q, q + n = 64 → wX_pairs_9 post (nI t) sm ex ed sk sa A jo (n + 1) (nI (pa_ct (fun q => pa_fn T (q % 8) (q / 8)) q)) (nI q) := by
  intro n
  induction n with
  | zero =>
    intro q hq
    obtain rfl : q = 64 := by omega
    exact br_t (nI_le (a := 64) (b := 64) (Nat.le_refl _) (by decide)) h
  | succ n ih =>
    intro q hq
    refine br_f (nI_ge (a := q) (b := 64) (by omega) (by decide)) ?_
    have z := ih (q + 1) (by omega)
    have ez : pa_ct (fun q => pa_fn T (q % 8) (q / 8)) (q + 1) = pa_ct (fun q => pa_fn T (q % 8) (q / 8)) q + pa_fn T (q % 8) (q / 8) := rfl
    rw [ez] at z
    obtain ⟨i1, v1⟩ := pa_A_q hA ht (by omega : q < 64)
    refine ⟨i1, pa_bx v1 (hR _ _ (by omega) (by omega)) (fun w => ?_) (fun w => ?_)⟩
    · rw [pa_ct_f w] at z
      exact nm_r (nI_1 q) z
    · rw [pa_ct_t w] at z
      exact nm_r (nI_1 _) (nm_r (nI_1 q) z)
theorem py_prs {post : Int32 → SY → Prop} {fm fh : Int32} {ed K R B : Nat → Int32} {d : Nat} {S : Nat → Nat → Nat → Nat} (hY : pa_YP B d S) (hd : d ≤ 6) (hR : pa_R (pa_T S d)) (h : post (nI (pa_ct (fun q => pa_fn (pa_T S d) (q / 8) (q % 8)) 64)) (fm, fh, ed, K, R, B)) : ∀ n q, q + n = 64 → wY_pairs_9 post (nI d + (-1)) fm fh ed K R B (n + 1) (nI (pa_ct (fun q => pa_fn (pa_T S d) (q / 8) (q % 8)) q)) (nI q) := by
  intro n
  induction n with
  | zero =>
    intro q hq
    obtain rfl : q = 64 := by omega
    exact br_t (nI_le (a := 64) (b := 64) (Nat.le_refl _) (by decide)) h
  | succ n ih =>
    intro q hq
    refine br_f (nI_ge (a := q) (b := 64) (by omega) (by decide)) ?_
    have z := ih (q + 1) (by omega)
    have ez : pa_ct (fun q => pa_fn (pa_T S d) (q / 8) (q % 8)) (q + 1) = pa_ct (fun q => pa_fn (pa_T S d) (q / 8) (q % 8)) q + pa_fn (pa_T S d) (q / 8) (q % 8) := rfl
    rw [ez] at z
    refine ⟨by decide, by decide, ?_⟩
    rw [pa_rm (by omega : q < 64), pa_dv (by omega : q < 64)]
    refine py_len hd hY (by omega) (by omega) ?_
    refine pa_by (hR _ _ (by omega) (by omega)) (fun w => ?_) (fun w => ?_)
    · rw [pa_ct_f w] at z
      exact nm_r (nI_1 q) z
    · rw [pa_ct_t w] at z
      exact nm_r (nI_1 _) (nm_r (nI_1 q) z)
/-! widest -/
def pa_vI : Nat → Int32
  | 0 => -5
  | w + 1 => nI w
def pa_mx (t : Nat → Nat) : Nat → Nat
  | 0 => 0
  | i + 1 => max (pa_mx t i) (t i)
def pa_gn (T : Nat → Nat → Nat) (a b : Nat) : Nat := if T a b = 1000000 then 0 else T a b + 1
theorem pa_mx_ge {t : Nat → Nat} : ∀ n q, q < n → t q ≤ pa_mx t n := by
  intro n
  induction n with
  | zero => intro q h; omega
  | succ n ih =>
    intro q h
    show t q ≤ max (pa_mx t n) (t n)
    by_cases z : q = n
    · subst z; omega
    · have := ih q (by omega)
      omega
theorem pa_mx_le {t : Nat → Nat} {b : Nat} : ∀ n, (∀ q, q < n → t q ≤ b) → pa_mx t n ≤ b := by
  intro n
  induction n with
  | zero => intro _; exact Nat.zero_le _
  | succ n ih =>
    intro h
    show max (pa_mx t n) (t n) ≤ b
    have := ih (fun q hq => h q (by omega))
    have := h n (by omega)
    omega
theorem pa_mx_xy (G : Nat → Nat → Nat) : pa_mx (fun q => G (q / 8) (q % 8)) 64 = pa_mx (fun q => G (q % 8) (q / 8)) 64 := by
  refine Nat.le_antisymm (pa_mx_le 64 fun q hq => ?_) (pa_mx_le 64 fun q hq => ?_)
  · have := pa_mx_ge (t := fun q => G (q % 8) (q / 8)) 64 (q % 8 * 8 + q / 8) (by omega)
    rw [show (q % 8 * 8 + q / 8) % 8 = q / 8 by omega, show (q % 8 * 8 + q / 8) / 8 = q % 8 by omega] at this
    exact this
  · have := pa_mx_ge (t := fun q => G (q / 8) (q % 8)) 64 (q % 8 * 8 + q / 8) (by omega)
    rw [show (q % 8 * 8 + q / 8) % 8 = q / 8 by omega, show (q % 8 * 8 + q / 8) / 8 = q % 8 by omega] at this
    exact this
theorem pa_vI_le {n w : Nat} (hn : n < 2 ^ 31) (hw : w < 2 ^ 31) : nI n ≤ pa_vI w ↔ n + 1 ≤ w := by
  cases w with
  | zero =>
    rw [Int32.le_iff_toInt_le, nI_toInt hn]
    have : (pa_vI 0).toInt = -5 := by decide
    omega
  | succ w =>
    show nI n ≤ nI w ↔ n + 1 ≤ w + 1
    rw [nI_leI hn (by omega)]
    omega
theorem pa_gn_le {T : Nat → Nat → Nat} (hR : pa_R T) {a b : Nat} (ha : a < 8) (hb : b < 8) : pa_gn T a b ≤ 100000 := by
  unfold pa_gn
  rcases hR a b ha hb with h | h
  · rw [if_pos h]; omega
  · rw [if_neg (by omega)]; omega
theorem px_wid {post : Int32 → SX → Prop} {sm ex : Int32} {ed sk sa A jo : Nat → Int32} {t : Nat} {T : Nat → Nat → Nat} (hA : pa_A A t T) (hR : pa_R T) (ht : t + 64 ≤ 448) (h : post (pa_vI (pa_mx (fun q => pa_gn T (q % 8) (q / 8)) 64)) (sm, ex, ed, sk, sa, A, jo)) : ∀ n q, q + n = 64 → wX_widest_10 post (nI t) sm ex ed sk sa A jo (n + 1) (pa_vI (pa_mx (fun q => pa_gn T (q % 8) (q / 8)) q)) (nI q) := by
  intro n
  induction n with
  | zero =>
    intro q hq
    obtain rfl : q = 64 := by omega
    exact br_t (nI_le (a := 64) (b := 64) (Nat.le_refl _) (by decide)) h
  | succ n ih =>
    intro q hq
    refine br_f (nI_ge (a := q) (b := 64) (by omega) (by decide)) ?_
    have z := ih (q + 1) (by omega)
    have ez : pa_mx (fun q => pa_gn T (q % 8) (q / 8)) (q + 1) = max (pa_mx (fun q => pa_gn T (q % 8) (q / 8)) q) (pa_gn T (q % 8) (q / 8)) := rfl
    have hw : pa_mx (fun q => pa_gn T (q % 8) (q / 8)) q ≤ 100000 := pa_mx_le q fun p hp => pa_gn_le hR (by omega) (by omega)
    rw [ez] at z
    obtain ⟨i1, v1⟩ := pa_A_q hA ht (by omega : q < 64)
    refine ⟨i1, nm_r v1 (pa_bx rfl (hR _ _ (by omega) (by omega)) (fun w => ?_) (fun w => ?_))⟩
    · rw [show max (pa_mx (fun q => pa_gn T (q % 8) (q / 8)) q) (pa_gn T (q % 8) (q / 8)) = pa_mx (fun q => pa_gn T (q % 8) (q / 8)) q by unfold pa_gn; rw [if_pos w]; omega] at z
      exact nm_r (nI_1 q) z
    · have eg : pa_gn T (q % 8) (q / 8) = T (q % 8) (q / 8) + 1 := if_neg (by omega)
      rw [eg] at z
      have c := pa_vI_le (n := T (q % 8) (q / 8)) (w := pa_mx (fun q => pa_gn T (q % 8) (q / 8)) q) (by omega) (by omega)
      refine br_c (fun y => ?_) (fun y => ?_)
      · rw [Nat.max_eq_left (c.mp y)] at z
        exact nm_r (nI_1 q) z
      · have y' : ¬ T (q % 8) (q / 8) + 1 ≤ pa_mx (fun q => pa_gn T (q % 8) (q / 8)) q := fun x => y (c.mpr x)
        rw [Nat.max_eq_right (by omega)] at z
        exact nm_r (nI_1 q) z
theorem py_wid {post : Int32 → SY → Prop} {fm fh : Int32} {ed K R B : Nat → Int32} {d : Nat} {S : Nat → Nat → Nat → Nat} (hY : pa_YP B d S) (hd : d ≤ 6) (hR : pa_R (pa_T S d)) (h : post (pa_vI (pa_mx (fun q => pa_gn (pa_T S d) (q / 8) (q % 8)) 64)) (fm, fh, ed, K, R, B)) : ∀ n q, q + n = 64 → wY_widest_10 post (nI d + (-1)) fm fh ed K R B (n + 1) (pa_vI (pa_mx (fun q => pa_gn (pa_T S d) (q / 8) (q % 8)) q)) (nI q) := by
  intro n
  induction n with
  | zero =>
    intro q hq
    obtain rfl : q = 64 := by omega
    exact br_t (nI_le (a := 64) (b := 64) (Nat.le_refl _) (by decide)) h
  | succ n ih =>
    intro q hq
    refine br_f (nI_ge (a := q) (b := 64) (by omega) (by decide)) ?_
    have z := ih (q + 1) (by omega)
    have ez : pa_mx (fun q => pa_gn (pa_T S d) (q / 8) (q % 8)) (q + 1) = max (pa_mx (fun q => pa_gn (pa_T S d) (q / 8) (q % 8)) q) (pa_gn (pa_T S d) (q / 8) (q % 8)) := rfl
    have hw : pa_mx (fun q => pa_gn (pa_T S d) (q / 8) (q % 8)) q ≤ 100000 := pa_mx_le q fun p hp => pa_gn_le hR (by omega) (by omega)
    rw [ez] at z
    refine ⟨by decide, by decide, ?_⟩
    rw [pa_rm (by omega : q < 64), pa_dv (by omega : q < 64)]
    refine py_len hd hY (by omega) (by omega) ?_
    generalize pa_T S d = T at *
    refine pa_by (hR _ _ (by omega) (by omega)) (fun w => ?_) (fun w => ?_)
    · rw [show max (pa_mx (fun q => pa_gn T (q / 8) (q % 8)) q) (pa_gn T (q / 8) (q % 8)) = pa_mx (fun q => pa_gn T (q / 8) (q % 8)) q by unfold pa_gn; rw [if_pos w]; omega] at z
      exact nm_r (nI_1 q) z
    · have eg : pa_gn T (q / 8) (q % 8) = T (q / 8) (q % 8) + 1 := if_neg (by omega)
      rw [eg] at z
      rw [show min (T (q / 8) (q % 8)) 100000 = T (q / 8) (q % 8) by omega]
      have c := pa_vI_le (n := T (q / 8) (q % 8)) (w := pa_mx (fun q => pa_gn T (q / 8) (q % 8)) q) (by omega) (by omega)
      refine br_c (fun y => ?_) (fun y => ?_)
      · rw [Nat.max_eq_left (c.mp y)] at z
        exact nm_r (nI_1 q) z
      · have y' : ¬ T (q / 8) (q % 8) + 1 ≤ pa_mx (fun q => pa_gn T (q / 8) (q % 8)) q := fun x => y (c.mpr x)
        rw [Nat.max_eq_right (by omega)] at z
        exact nm_r (nI_1 q) z
end
section
theorem pk_ix (x : Int32) {n : Nat} (hn : n < 2 ^ 31) : x < 0 ∨ nI n ≤ x ∨ ∃ j : Nat, j < n ∧ x = nI j := by
  by_cases h : x < 0
  · exact Or.inl h
  · obtain ⟨j, hj, rfl⟩ := nI_of h
    by_cases h2 : j < n
    · exact Or.inr (Or.inr ⟨j, h2, rfl⟩)
    · exact Or.inr (Or.inl (nI_le (by omega) hj))
/-! what is let in and what isn't -/
theorem pa_ge {x : Int32} {n : Nat} (hn : n + 1 < 2 ^ 31) (h : nI (n + 1) ≤ x) : ¬ x < 0 ∧ ¬ x ≤ nI n ∧ ¬ x < nI (n + 1) := by
  rw [Int32.le_iff_toInt_le, nI_toInt hn] at h
  have h0 : (0 : Int32).toInt = 0 := by decide
  refine ⟨fun z => ?_, fun z => ?_, fun z => ?_⟩
  · rw [Int32.lt_iff_toInt_lt, h0] at z
    omega
  · rw [Int32.le_iff_toInt_le, nI_toInt (by omega)] at z
    omega
  · rw [Int32.lt_iff_toInt_lt, nI_toInt hn] at z
    omega
theorem px_isL_n {post : Int32 → Prop} {x : Int32} (hx : x < 0 ∨ nI 3 ≤ x) (h : post 0) : wpX_isLabel post x := by
  rcases hx with z | z
  · exact br_t z h
  · exact br_f (pa_ge (n := 2) (by decide) z).1 (br_t z h)
theorem px_isL_y {post : Int32 → Prop} {l : Nat} (hl : l < 3) (h : post 1) : wpX_isLabel post (nI l) :=
  br_f (nI_pos (by omega)) (br_f (nI_ge (b := 3) hl (by decide)) h)
theorem px_isN_n {post : Int32 → Prop} {x : Int32} (hx : x < 0 ∨ nI 8 ≤ x) (h : post 0) : wpX_isNode post x := by
  rcases hx with z | z
  · exact br_t z h
  · exact br_f (pa_ge (n := 7) (by decide) z).1 (br_t z h)
theorem px_isN_y {post : Int32 → Prop} {a : Nat} (ha : a < 8) (h : post 1) : wpX_isNode post (nI a) :=
  br_f (nI_pos (by omega)) (br_f (nI_ge (b := 8) ha (by decide)) h)
theorem py_bad_y {post : Int32 → Prop} {fm fh : Int32} {ed K R B : Nat → Int32} {x : Int32} (hx : x < 0 ∨ nI 8 ≤ x) (h : post 1) : wpY_bad post (fm, fh, ed, K, R, B) x := by
  rcases hx with z | z
  · exact br_t z h
  · exact br_f (pa_ge (n := 7) (by decide) z).1 (br_f (pa_ge (n := 7) (by decide) z).2.1 h)
theorem py_bad_n {post : Int32 → Prop} {fm fh : Int32} {ed K R B : Nat → Int32} {a : Nat} (ha : a < 8) (h : post 0) : wpY_bad post (fm, fh, ed, K, R, B) (nI a) :=
  br_f (nI_pos (by omega)) (br_t (nI_le (b := 7) (by omega) (by decide)) h)
theorem pa_lb (x : Int32) : (x < 0 ∨ nI 3 ≤ x) ∨ ∃ l, l < 3 ∧ x = nI l := by
  rcases pk_ix x (n := 3) (by decide) with z | z | z
  · exact Or.inl (Or.inl z)
  · exact Or.inl (Or.inr z)
  · exact Or.inr z
theorem pa_nd (x : Int32) : (x < 0 ∨ nI 8 ≤ x) ∨ ∃ a, a < 8 ∧ x = nI a := by
  rcases pk_ix x (n := 8) (by decide) with z | z | z
  · exact Or.inl (Or.inl z)
  · exact Or.inl (Or.inr z)
  · exact Or.inr z
/-- the two hold the same edges and the same steps, each let in on its stack; the tables are work room -/
def pa_Rel (u : SX) (v : SY) : Prop := ∃ (m : Nat) (ed K R A jo B : Nat → Int32), m ≤ 14 ∧ (∀ i, i < m → pa_ok (K i) (R i) (pa_d K i)) ∧ u = (nI m, nI (pa_d K m), ed, K, R, A, jo) ∧ v = (nI m, nI (pa_d K m), ed, K, R, B)
theorem pa_d_u {K : Nat → Int32} {m : Nat} {k : Int32} : ∀ i, i ≤ m → pa_d (upd K m k) i = pa_d K i := by
  intro i
  induction i with
  | zero => intro _; rfl
  | succ i ih =>
    intro h
    show pa_dep (upd K m k i) (pa_d (upd K m k) i) = pa_dep (K i) (pa_d K i)
    rw [pk_un (by omega), ih (by omega)]
theorem pa_tk {d t : Nat} (ht : t ≤ 2) (h : t ≤ d) : nI d + (1 - nI t) = nI (d + 1 - t) := by
  rcases (by omega : t = 0 ∨ t = 1 ∨ t = 2) with z | z | z
  · subst z
    rw [show (1 : Int32) - nI 0 = 1 by decide, nI_1]
    rfl
  · subst z
    rw [show (1 : Int32) - nI 1 = 0 by decide, Int32.add_zero]
    rfl
  · subst z
    obtain ⟨e, rfl⟩ : ∃ e, d = e + 1 := ⟨d - 1, by omega⟩
    rw [show (1 : Int32) - nI 2 = -1 by decide, pk_m1]
    rfl
theorem pa_tk' {d t : Nat} (h : t ≤ d) : nI d - nI t + 1 = nI (d + 1 - t) := by
  rw [pk_sub h, nI_1]
  exact congrArg nI (by omega)
theorem pa_add {m t : Nat} {kk rr : Int32} {ed K R A jo B : Nat → Int32} (hm : m ≤ 14) (hok : ∀ i, i < m → pa_ok (K i) (R i) (pa_d K i)) (ht : t ≤ 2) (hk : ∀ d, t ≤ d → (t = 0 → d < 6) → pa_ok kk rr d ∧ pa_dep kk d = d + 1 - t) : ∃ r u' v', pa_Rel u' v' ∧ (∀ P : Int32 → SX → Prop, P r u' → wpX_addStep P (nI m, nI (pa_d K m), ed, K, R, A, jo) kk rr (nI t)) ∧ (∀ P : Int32 → SY → Prop, P r v' → wpY_step P (nI m, nI (pa_d K m), ed, K, R, B) kk rr (nI t)) := by
  have hd := pa_d_le hok m (Nat.le_refl m)
  have I : pa_Rel (nI m, nI (pa_d K m), ed, K, R, A, jo) (nI m, nI (pa_d K m), ed, K, R, B) := ⟨m, ed, K, R, A, jo, B, hm, hok, rfl, rfl⟩
  by_cases c1 : m = 14
  · refine ⟨-3, _, _, I, fun P h => ?_, fun P h => ?_⟩
    · exact br_f (nI_nlt (b := 14) (by omega) (by omega)) h
    · exact br_t (by rw [c1]; rfl) h
  have x1 : nI m < 14 := nI_lt (b := 14) (by omega) (by decide)
  have y1 : ¬ nI m = 14 := fun z => c1 ((nI_eq (b := 14) (by omega) (by decide)).mp z)
  by_cases c2 : t = 0 ∧ pa_d K m = 6
  · refine ⟨-3, _, _, I, fun P h => ?_, fun P h => ?_⟩
    · exact br_t x1 (br_t (by rw [c2.1]; rfl) (br_f (nI_nlt (b := 6) (by omega) (by omega)) h))
    · exact br_f y1 (br_t (by rw [c2.1]; rfl) (br_t (by rw [c2.2]; rfl) h))
  -- past both refusals, whatever the step takes
  have X : ∀ P : Int32 → SX → Prop, wX_addStep_28 P kk rr (nI t) (nI m) (nI (pa_d K m)) ed K R A jo → wpX_addStep P (nI m, nI (pa_d K m), ed, K, R, A, jo) kk rr (nI t) := by
    intro P h
    refine br_t x1 (br_c (fun z => ?_) (fun _ => h))
    have z' : t = 0 := (nI_eq (b := 0) (by omega) (by decide)).mp z
    exact br_t (nI_lt (b := 6) (by omega) (by decide)) h
  have Y : ∀ P : Int32 → SY → Prop, wY_step_25 P kk rr (nI t) (nI m) (nI (pa_d K m)) ed K R B → wpY_step P (nI m, nI (pa_d K m), ed, K, R, B) kk rr (nI t) := by
    intro P h
    refine br_f y1 (br_c (fun z => ?_) (fun _ => h))
    have z' : t = 0 := (nI_eq (b := 0) (by omega) (by decide)).mp z
    exact br_f (fun y => c2 ⟨z', (nI_eq (b := 6) (by omega) (by decide)).mp y⟩) h
  by_cases c3 : t ≤ pa_d K m
  · have q := hk (pa_d K m) c3 (fun z => by omega)
    have hin : vp_in (nI m) 14 := vp_in_nI (by omega) (by decide)
    have cm : (nI m).toNatClampNeg = m := nI_clamp (by omega)
    have hl : nI t ≤ nI (pa_d K m) := nI_le c3 (by omega)
    have e : pa_d (upd K m kk) (m + 1) = pa_d K m + 1 - t := by
      show pa_dep (upd K m kk m) (pa_d (upd K m kk) m) = _
      rw [pk_us, pa_d_u m (Nat.le_refl m), q.2]
    refine ⟨nI (pa_d K m + 1 - t), _, _, ⟨m + 1, ed, upd K m kk, upd R m rr, A, jo, B, by omega, fun i hi => ?_, rfl, rfl⟩, fun P h => X P ?_, fun P h => Y P ?_⟩
    · rw [pa_d_u i (by omega)]
      by_cases z : i = m
      · subst z
        rw [pk_us, pk_us]
        exact q.1
      · rw [pk_un z, pk_un z]
        exact hok i (by omega)
    · rw [e] at h
      exact br_t hl ⟨hin, nm_r (by rw [cm]) ⟨hin, nm_r (by rw [cm]) (nm_r (nI_1 m) (nm_r (pa_tk ht c3) h))⟩⟩
    · rw [e] at h
      exact br_t hl ⟨hin, nm_r (by rw [cm]) ⟨hin, nm_r (by rw [cm]) (nm_r (nI_1 m) (nm_r (pa_tk' c3) h))⟩⟩
  · have hl : ¬ nI t ≤ nI (pa_d K m) := nI_ge (by omega) (by omega)
    exact ⟨-4, _, _, I, fun P h => X P (br_f hl h), fun P h => Y P (br_f hl h)⟩
/-- what both sides find, when asked -/
theorem pa_ask {ed K R : Nat → Int32} {m : Nat} (hm : m ≤ 14) (hok : ∀ i, i < m → pa_ok (K i) (R i) (pa_d K i)) : pa_R (pa_T (pa_S ed K R m) (pa_d K m)) ∧ pa_d K m ≤ 6 :=
  ⟨pa_T_far hm (pa_V_run hm hok m (Nat.le_refl m)), pa_d_le hok m (Nat.le_refl m)⟩
end
section
def i_Rel (_ : Nat) (u : SX) (v : SY) : Prop := pa_Rel u v
theorem i_up {k : Nat} {u : SX} {v : SY} (h : i_Rel k u v) : i_Rel (k + 4) u v := h
theorem i_vc0 : wpX_init (fun u => wpY_init (fun v => i_Rel 0 u v)) := ⟨0, _, _, _, _, _, _, Nat.zero_le _, fun i hi => absurd hi (Nat.not_lt_zero i), rfl, rfl⟩
theorem i_vc_edge {k : Nat} {u : SX} {v : SY} (I : i_Rel k u v) (hk : k + 4 ≤ 2048) (v1 : Int32) (v2 : Int32) (v3 : Int32) : wpX_edge (fun r u' => wpY_edge (fun r' v' => r' = r ∧ i_Rel (k + 4) u' v') v v1 v2 (lw_bz v3)) u v1 v2 (lw_bz v3) := by
  obtain ⟨m, ed, K, R, A, jo, B, hm, hok, rfl, rfl⟩ := I
  have I : pa_Rel (nI m, nI (pa_d K m), ed, K, R, A, jo) (nI m, nI (pa_d K m), ed, K, R, B) := ⟨m, ed, K, R, A, jo, B, hm, hok, rfl, rfl⟩
  unfold wpX_edge wpY_edge
  dsimp only
  rcases pa_lb v1 with z | ⟨l, hl, rfl⟩
  · refine px_isL_n z (br_t rfl ?_)
    rcases z with z | z
    · exact br_t z ⟨rfl, I⟩
    · exact br_f (pa_ge (n := 2) (by decide) z).1 (br_f (pa_ge (n := 2) (by decide) z).2.1 ⟨rfl, I⟩)
  · have yl : ¬ nI l < 0 := nI_pos (by omega)
    have yl2 : nI l ≤ 2 := nI_le (b := 2) (by omega) (by decide)
    refine px_isL_y hl (br_f (by decide) ?_)
    rcases pk_ix v2 (n := 64) (by decide) with z | z | ⟨p, hp, rfl⟩
    · exact br_t z (br_f yl (br_t yl2 (br_t z ⟨rfl, I⟩)))
    · have w := pa_ge (n := 63) (by decide) z
      exact br_f w.1 (br_f w.2.2 (br_f yl (br_t yl2 (br_f w.1 (br_f w.2.1 ⟨rfl, I⟩)))))
    · have e1 := pa_i4 l p
      have i1 : vp_in (nI (l * 64 + p)) 192 := vp_in_nI (by omega) (by decide)
      have c1 : (nI (l * 64 + p)).toNatClampNeg = l * 64 + p := nI_clamp (by omega)
      have wp : ¬ nI p < 0 := nI_pos (by omega)
      have wp1 : nI p < 64 := nI_lt (b := 64) hp (by decide)
      have wp2 : nI p ≤ 63 := nI_le (b := 63) (by omega) (by decide)
      have J : ∀ x : Int32, pa_Rel (nI m, nI (pa_d K m), upd ed (l * 64 + p) x, K, R, A, jo) (nI m, nI (pa_d K m), upd ed (l * 64 + p) x, K, R, B) := fun x => ⟨m, _, K, R, A, jo, B, hm, hok, rfl, rfl⟩
      rw [e1]
      refine br_f wp (br_t wp1 (nm_e ⟨i1, ?_⟩))
      by_cases z : ed (nI (l * 64 + p)).toNatClampNeg = 0
      · refine br_t z ⟨i1, nm_r (by rw [c1]) ?_⟩
        refine br_f yl (br_t yl2 (br_f wp (br_t wp2 ⟨i1, br_t z ?_⟩)))
        unfold wY_edge_43
        rw [e1]
        exact ⟨i1, nm_r (by rw [c1]) ⟨rfl, J _⟩⟩
      · refine br_f z ⟨i1, nm_r (by rw [c1]) ?_⟩
        refine br_f yl (br_t yl2 (br_f wp (br_t wp2 ⟨i1, br_f z ?_⟩)))
        unfold wY_edge_43
        rw [e1]
        exact ⟨i1, nm_r (by rw [c1]) ⟨rfl, J _⟩⟩
theorem i_vc_label {k : Nat} {u : SX} {v : SY} (I : i_Rel k u v) (hk : k + 4 ≤ 2048) (v1 : Int32) : wpX_label (fun r u' => wpY_label (fun r' v' => r' = r ∧ i_Rel (k + 4) u' v') v v1) u v1 := by
  obtain ⟨m, ed, K, R, A, jo, B, hm, hok, rfl, rfl⟩ := I
  have I : pa_Rel (nI m, nI (pa_d K m), ed, K, R, A, jo) (nI m, nI (pa_d K m), ed, K, R, B) := ⟨m, ed, K, R, A, jo, B, hm, hok, rfl, rfl⟩
  unfold wpX_label wpY_label
  dsimp only
  rcases pa_lb v1 with z | ⟨l, hl, rfl⟩
  · refine px_isL_n z (br_t rfl ?_)
    rcases z with z | z
    · exact br_t z ⟨rfl, I⟩
    · exact br_f (pa_ge (n := 2) (by decide) z).1 (br_f (pa_ge (n := 2) (by decide) z).2.1 ⟨rfl, I⟩)
  · have yl : ¬ nI l < 0 := nI_pos (by omega)
    have yl2 : nI l ≤ 2 := nI_le (b := 2) (by omega) (by decide)
    obtain ⟨r, u', v', hR, hX, hY⟩ := pa_add (t := 0) (kk := 0) (rr := nI l) (ed := ed) (A := A) (jo := jo) (B := B) hm hok (by decide) (fun d _ h6 => ⟨Or.inl ⟨rfl, ⟨l, hl, rfl⟩, h6 rfl⟩, pa_dep_0 d⟩)
    obtain ⟨m2, ed2, K2, R2, A2, jo2, B2, hm2, hok2, rfl, rfl⟩ := hR
    refine px_isL_y hl (br_f (by decide) (hX _ ?_))
    exact br_f yl (br_t yl2 (hY _ ⟨rfl, m2, ed2, K2, R2, A2, jo2, B2, hm2, hok2, rfl, rfl⟩))
theorem i_vc_back {k : Nat} {u : SX} {v : SY} (I : i_Rel k u v) (hk : k + 4 ≤ 2048) (v1 : Int32) : wpX_back (fun r u' => wpY_back (fun r' v' => r' = r ∧ i_Rel (k + 4) u' v') v v1) u v1 := by
  obtain ⟨m, ed, K, R, A, jo, B, hm, hok, rfl, rfl⟩ := I
  have I : pa_Rel (nI m, nI (pa_d K m), ed, K, R, A, jo) (nI m, nI (pa_d K m), ed, K, R, B) := ⟨m, ed, K, R, A, jo, B, hm, hok, rfl, rfl⟩
  unfold wpX_back wpY_back
  dsimp only
  rcases pa_lb v1 with z | ⟨l, hl, rfl⟩
  · refine px_isL_n z (br_t rfl ?_)
    rcases z with z | z
    · exact br_t z ⟨rfl, I⟩
    · exact br_f (pa_ge (n := 2) (by decide) z).1 (br_f (pa_ge (n := 2) (by decide) z).2.1 ⟨rfl, I⟩)
  · have yl : ¬ nI l < 0 := nI_pos (by omega)
    have yl2 : nI l ≤ 2 := nI_le (b := 2) (by omega) (by decide)
    obtain ⟨r, u', v', hR, hX, hY⟩ := pa_add (t := 0) (kk := 1) (rr := nI l) (ed := ed) (A := A) (jo := jo) (B := B) hm hok (by decide) (fun d _ h6 => ⟨Or.inr (Or.inl ⟨rfl, ⟨l, hl, rfl⟩, h6 rfl⟩), pa_dep_1 d⟩)
    obtain ⟨m2, ed2, K2, R2, A2, jo2, B2, hm2, hok2, rfl, rfl⟩ := hR
    refine px_isL_y hl (br_f (by decide) (hX _ ?_))
    exact br_f yl (br_t yl2 (hY _ ⟨rfl, m2, ed2, K2, R2, A2, jo2, B2, hm2, hok2, rfl, rfl⟩))
theorem i_vc_at {k : Nat} {u : SX} {v : SY} (I : i_Rel k u v) (hk : k + 4 ≤ 2048) (v1 : Int32) : wpX_at (fun r u' => wpY_at (fun r' v' => r' = r ∧ i_Rel (k + 4) u' v') v v1) u v1 := by
  obtain ⟨m, ed, K, R, A, jo, B, hm, hok, rfl, rfl⟩ := I
  have I : pa_Rel (nI m, nI (pa_d K m), ed, K, R, A, jo) (nI m, nI (pa_d K m), ed, K, R, B) := ⟨m, ed, K, R, A, jo, B, hm, hok, rfl, rfl⟩
  have go : (v1 = -1 ∨ ∃ n, n < 8 ∧ v1 = nI n) → ∃ r u' v', pa_Rel u' v' ∧ (∀ P : Int32 → SX → Prop, P r u' → wpX_addStep P (nI m, nI (pa_d K m), ed, K, R, A, jo) 2 v1 (nI 0)) ∧ (∀ P : Int32 → SY → Prop, P r v' → wpY_step P (nI m, nI (pa_d K m), ed, K, R, B) 2 v1 (nI 0)) :=
    fun h => pa_add (t := 0) hm hok (by decide) (fun d _ h6 => ⟨Or.inr (Or.inr (Or.inl ⟨rfl, h, h6 rfl⟩)), pa_dep_2 d⟩)
  unfold wpX_at wpY_at
  dsimp only
  by_cases z1 : v1 = -1
  · obtain ⟨r, u', v', hR, hX, hY⟩ := go (Or.inl z1)
    obtain ⟨m2, ed2, K2, R2, A2, jo2, B2, hm2, hok2, rfl, rfl⟩ := hR
    refine br_t z1 (hX _ ?_)
    exact br_f (by rw [z1]; decide) (br_t (by rw [z1]; decide) (hY _ ⟨rfl, m2, ed2, K2, R2, A2, jo2, B2, hm2, hok2, rfl, rfl⟩))
  · refine br_f z1 ?_
    rcases pa_nd v1 with z | ⟨a, ha, rfl⟩
    · refine px_isN_n z (br_t rfl ?_)
      rcases z with z | z
      · have w : v1 < -1 := by
          rw [Int32.lt_iff_toInt_lt] at z ⊢
          have h0 : (0 : Int32).toInt = 0 := by decide
          have h1 : (-1 : Int32).toInt = -1 := by decide
          have h2 : ¬ v1.toInt = -1 := fun y => z1 (Int32.toInt_inj.mp (y.trans h1.symm))
          omega
        exact br_t w ⟨rfl, I⟩
      · have w : ¬ v1 < -1 := by
          intro y
          have q := (pa_ge (n := 7) (by decide) z).1
          exact q (Int32.lt_trans y (by decide))
        exact br_f w (br_f (pa_ge (n := 7) (by decide) z).2.1 ⟨rfl, I⟩)
    · obtain ⟨r, u', v', hR, hX, hY⟩ := go (Or.inr ⟨a, ha, rfl⟩)
      obtain ⟨m2, ed2, K2, R2, A2, jo2, B2, hm2, hok2, rfl, rfl⟩ := hR
      have w : ¬ nI a < -1 := fun y => nI_pos (n := a) (by omega) (Int32.lt_trans y (by decide))
      refine px_isN_y ha (br_f (by decide) (hX _ ?_))
      exact br_f w (br_t (nI_le (b := 7) (by omega) (by decide)) (hY _ ⟨rfl, m2, ed2, K2, R2, A2, jo2, B2, hm2, hok2, rfl, rfl⟩))
theorem i_vc_then {k : Nat} {u : SX} {v : SY} (I : i_Rel k u v) (hk : k + 4 ≤ 2048) : wpX_then (fun r u' => wpY_then (fun r' v' => r' = r ∧ i_Rel (k + 4) u' v') v) u := by
  obtain ⟨m, ed, K, R, A, jo, B, hm, hok, rfl, rfl⟩ := I
  obtain ⟨r, u', v', hR, hX, hY⟩ := pa_add (t := 2) (kk := 3) (rr := 0) (ed := ed) (A := A) (jo := jo) (B := B) hm hok (by decide) (fun d hd _ => ⟨Or.inr (Or.inr (Or.inr (Or.inl ⟨rfl, hd⟩))), (pa_dep_3 d).trans (by omega)⟩)
  obtain ⟨m2, ed2, K2, R2, A2, jo2, B2, hm2, hok2, rfl, rfl⟩ := hR
  unfold wpX_then wpY_then
  dsimp only
  exact hX _ (hY _ ⟨rfl, m2, ed2, K2, R2, A2, jo2, B2, hm2, hok2, rfl, rfl⟩)
theorem i_vc_or {k : Nat} {u : SX} {v : SY} (I : i_Rel k u v) (hk : k + 4 ≤ 2048) : wpX_or (fun r u' => wpY_or (fun r' v' => r' = r ∧ i_Rel (k + 4) u' v') v) u := by
  obtain ⟨m, ed, K, R, A, jo, B, hm, hok, rfl, rfl⟩ := I
  obtain ⟨r, u', v', hR, hX, hY⟩ := pa_add (t := 2) (kk := 4) (rr := 0) (ed := ed) (A := A) (jo := jo) (B := B) hm hok (by decide) (fun d hd _ => ⟨Or.inr (Or.inr (Or.inr (Or.inr (Or.inl ⟨rfl, hd⟩)))), (pa_dep_4 d).trans (by omega)⟩)
  obtain ⟨m2, ed2, K2, R2, A2, jo2, B2, hm2, hok2, rfl, rfl⟩ := hR
  unfold wpX_or wpY_or
  dsimp only
  exact hX _ (hY _ ⟨rfl, m2, ed2, K2, R2, A2, jo2, B2, hm2, hok2, rfl, rfl⟩)
theorem i_vc_star {k : Nat} {u : SX} {v : SY} (I : i_Rel k u v) (hk : k + 4 ≤ 2048) : wpX_star (fun r u' => wpY_star (fun r' v' => r' = r ∧ i_Rel (k + 4) u' v') v) u := by
  obtain ⟨m, ed, K, R, A, jo, B, hm, hok, rfl, rfl⟩ := I
  obtain ⟨r, u', v', hR, hX, hY⟩ := pa_add (t := 1) (kk := 5) (rr := 0) (ed := ed) (A := A) (jo := jo) (B := B) hm hok (by decide) (fun d hd _ => ⟨Or.inr (Or.inr (Or.inr (Or.inr (Or.inr ⟨rfl, hd⟩)))), (pa_dep_5 d).trans (by omega)⟩)
  obtain ⟨m2, ed2, K2, R2, A2, jo2, B2, hm2, hok2, rfl, rfl⟩ := hR
  unfold wpX_star wpY_star
  dsimp only
  exact hX _ (hY _ ⟨rfl, m2, ed2, K2, R2, A2, jo2, B2, hm2, hok2, rfl, rfl⟩)
theorem i_vc_clear {k : Nat} {u : SX} {v : SY} (I : i_Rel k u v) (hk : k + 4 ≤ 2048) : wpX_clear (fun u' => wpY_clear (fun v' => i_Rel (k + 4) u' v') v) u := by
  obtain ⟨m, ed, K, R, A, jo, B, hm, hok, rfl, rfl⟩ := I
  exact ⟨0, ed, K, R, A, jo, B, Nat.zero_le _, fun i hi => absurd hi (Nat.not_lt_zero i), rfl, rfl⟩
theorem i_vc_leads {k : Nat} {u : SX} {v : SY} (I : i_Rel k u v) (hk : k + 4 ≤ 2048) (v1 : Int32) (v2 : Int32) : wpX_leads (fun r u' => wpY_leads (fun r' v' => r' = r ∧ i_Rel (k + 4) u' v') v v1 v2) u v1 v2 := by
  obtain ⟨m, ed, K, R, A, jo, B, hm, hok, rfl, rfl⟩ := I
  have I : pa_Rel (nI m, nI (pa_d K m), ed, K, R, A, jo) (nI m, nI (pa_d K m), ed, K, R, B) := ⟨m, ed, K, R, A, jo, B, hm, hok, rfl, rfl⟩
  obtain ⟨hR, hd⟩ := pa_ask (ed := ed) hm hok
  unfold wpX_leads wpY_leads
  dsimp only
  rcases pa_nd v1 with z | ⟨a, ha, rfl⟩
  · exact px_isN_n z (br_t rfl (py_bad_y z (br_f (by decide) ⟨rfl, I⟩)))
  refine px_isN_y ha (br_f (by decide) ?_)
  rcases pa_nd v2 with z | ⟨b, hb, rfl⟩
  · exact px_isN_n z (br_t rfl (py_bad_n ha (br_t rfl (py_bad_y z (br_f (by decide) ⟨rfl, I⟩)))))
  refine px_isN_y hb (br_f (by decide) (px_top hm hok (fun A' jo' hX => ?_)))
  obtain ⟨i1, v1⟩ := pa_A_at (pa_XP_T hX) (by omega) ha hb
  have r := hR a b ha hb
  refine ⟨i1, pa_bx v1 r (fun w => ?_) (fun w => ?_)⟩
  · refine py_bad_n ha (br_t rfl (py_bad_n hb (br_t rfl (py_top hm hok (fun B' hY => ?_)))))
    refine py_len hd hY ha hb (pa_by r (fun _ => ⟨rfl, m, ed, K, R, A', jo', B', hm, hok, rfl, rfl⟩) (fun y => by omega))
  · refine py_bad_n ha (br_t rfl (py_bad_n hb (br_t rfl (py_top hm hok (fun B' hY => ?_)))))
    refine py_len hd hY ha hb (pa_by r (fun y => by omega) (fun _ => ⟨rfl, m, ed, K, R, A', jo', B', hm, hok, rfl, rfl⟩))
theorem i_vc_shortest {k : Nat} {u : SX} {v : SY} (I : i_Rel k u v) (hk : k + 4 ≤ 2048) (v1 : Int32) (v2 : Int32) : wpX_shortest (fun r u' => wpY_shortest (fun r' v' => r' = r ∧ i_Rel (k + 4) u' v') v v1 v2) u v1 v2 := by
  obtain ⟨m, ed, K, R, A, jo, B, hm, hok, rfl, rfl⟩ := I
  have I : pa_Rel (nI m, nI (pa_d K m), ed, K, R, A, jo) (nI m, nI (pa_d K m), ed, K, R, B) := ⟨m, ed, K, R, A, jo, B, hm, hok, rfl, rfl⟩
  obtain ⟨hR, hd⟩ := pa_ask (ed := ed) hm hok
  unfold wpX_shortest wpY_shortest
  dsimp only
  rcases pa_nd v1 with z | ⟨a, ha, rfl⟩
  · exact px_isN_n z (br_t rfl (py_bad_y z (br_f (by decide) ⟨rfl, I⟩)))
  refine px_isN_y ha (br_f (by decide) ?_)
  rcases pa_nd v2 with z | ⟨b, hb, rfl⟩
  · exact px_isN_n z (br_t rfl (py_bad_n ha (br_t rfl (py_bad_y z (br_f (by decide) ⟨rfl, I⟩)))))
  refine px_isN_y hb (br_f (by decide) (px_top hm hok (fun A' jo' hX => ?_)))
  obtain ⟨i1, v1⟩ := pa_A_at (pa_XP_T hX) (by omega) ha hb
  have r := hR a b ha hb
  refine ⟨i1, nm_r v1 (pa_bx rfl r (fun w => ?_) (fun w => ?_))⟩
  · refine py_bad_n ha (br_t rfl (py_bad_n hb (br_t rfl (py_top hm hok (fun B' hY => ?_)))))
    refine py_len hd hY ha hb (pa_by r (fun _ => ⟨rfl, m, ed, K, R, A', jo', B', hm, hok, rfl, rfl⟩) (fun y => by omega))
  · refine py_bad_n ha (br_t rfl (py_bad_n hb (br_t rfl (py_top hm hok (fun B' hY => ?_)))))
    refine py_len hd hY ha hb (pa_by r (fun y => by omega) (fun _ => ⟨congrArg nI (by omega), m, ed, K, R, A', jo', B', hm, hok, rfl, rfl⟩))
theorem i_vc_reach {k : Nat} {u : SX} {v : SY} (I : i_Rel k u v) (hk : k + 4 ≤ 2048) (v1 : Int32) : wpX_reach (fun r u' => wpY_reach (fun r' v' => r' = r ∧ i_Rel (k + 4) u' v') v v1) u v1 := by
  obtain ⟨m, ed, K, R, A, jo, B, hm, hok, rfl, rfl⟩ := I
  have I : pa_Rel (nI m, nI (pa_d K m), ed, K, R, A, jo) (nI m, nI (pa_d K m), ed, K, R, B) := ⟨m, ed, K, R, A, jo, B, hm, hok, rfl, rfl⟩
  obtain ⟨hR, hd⟩ := pa_ask (ed := ed) hm hok
  unfold wpX_reach wpY_reach
  dsimp only
  rcases pa_nd v1 with z | ⟨a, ha, rfl⟩
  · exact px_isN_n z (br_t rfl (py_bad_y z (br_f (by decide) ⟨rfl, I⟩)))
  refine px_isN_y ha (br_f (by decide) (px_top hm hok (fun A' jo' hX => ?_)))
  refine ⟨9, px_rch (pa_XP_T hX) hR (by omega) ha ?_ 8 0 rfl⟩
  refine py_bad_n ha (br_t rfl (py_top hm hok (fun B' hY => ?_)))
  exact ⟨9, py_rch hY hd hR ha ⟨rfl, m, ed, K, R, A', jo', B', hm, hok, rfl, rfl⟩ 8 0 rfl⟩
theorem i_vc_pairs {k : Nat} {u : SX} {v : SY} (I : i_Rel k u v) (hk : k + 4 ≤ 2048) : wpX_pairs (fun r u' => wpY_pairs (fun r' v' => r' = r ∧ i_Rel (k + 4) u' v') v) u := by
  obtain ⟨m, ed, K, R, A, jo, B, hm, hok, rfl, rfl⟩ := I
  obtain ⟨hR, hd⟩ := pa_ask (ed := ed) hm hok
  unfold wpX_pairs wpY_pairs
  dsimp only
  refine px_top hm hok (fun A' jo' hX => ?_)
  refine ⟨65, px_prs (pa_XP_T hX) hR (by omega) ?_ 64 0 rfl⟩
  refine py_top hm hok (fun B' hY => ?_)
  exact ⟨65, py_prs hY hd hR ⟨congrArg nI (pa_ct_xy _), m, ed, K, R, A', jo', B', hm, hok, rfl, rfl⟩ 64 0 rfl⟩
theorem i_vc_loops {k : Nat} {u : SX} {v : SY} (I : i_Rel k u v) (hk : k + 4 ≤ 2048) : wpX_loops (fun r u' => wpY_loops (fun r' v' => r' = r ∧ i_Rel (k + 4) u' v') v) u := by
  obtain ⟨m, ed, K, R, A, jo, B, hm, hok, rfl, rfl⟩ := I
  obtain ⟨hR, hd⟩ := pa_ask (ed := ed) hm hok
  unfold wpX_loops wpY_loops
  dsimp only
  refine px_top hm hok (fun A' jo' hX => ?_)
  refine ⟨9, px_lps (pa_XP_T hX) hR (by omega) ?_ 8 0 rfl⟩
  refine py_top hm hok (fun B' hY => ?_)
  exact ⟨9, py_lps hY hd hR ⟨rfl, m, ed, K, R, A', jo', B', hm, hok, rfl, rfl⟩ 8 0 rfl⟩
theorem i_vc_widest {k : Nat} {u : SX} {v : SY} (I : i_Rel k u v) (hk : k + 4 ≤ 2048) : wpX_widest (fun r u' => wpY_widest (fun r' v' => r' = r ∧ i_Rel (k + 4) u' v') v) u := by
  obtain ⟨m, ed, K, R, A, jo, B, hm, hok, rfl, rfl⟩ := I
  obtain ⟨hR, hd⟩ := pa_ask (ed := ed) hm hok
  unfold wpX_widest wpY_widest
  dsimp only
  refine px_top hm hok (fun A' jo' hX => ?_)
  refine ⟨65, px_wid (pa_XP_T hX) hR (by omega) ?_ 64 0 rfl⟩
  refine py_top hm hok (fun B' hY => ?_)
  exact ⟨65, py_wid hY hd hR ⟨congrArg pa_vI (pa_mx_xy _), m, ed, K, R, A', jo', B', hm, hok, rfl, rfl⟩ 64 0 rfl⟩
theorem i_vc_steps {k : Nat} {u : SX} {v : SY} (I : i_Rel k u v) (hk : k + 4 ≤ 2048) : wpX_steps (fun r => wpY_steps (fun r' => r' = r ∧ i_Rel (k + 4) u v) v) u := by
  obtain ⟨m, ed, K, R, A, jo, B, hm, hok, rfl, rfl⟩ := I
  exact ⟨rfl, m, ed, K, R, A, jo, B, hm, hok, rfl, rfl⟩
end
