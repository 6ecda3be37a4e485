/-! answers, over the top table T: each length is far in both, or below 100000 -/
def pa_R (T : Nat → Nat → Nat) : Prop := ∀ a b, a < 8 → b < 8 → T a b = 1000000 ∨ T a b < 100000
def pa_A (A : Nat → Int32) (t : Nat) (T : Nat → Nat → Nat) : Prop := ∀ q, q < 64 → A (t + q) = nI (pa_x T q)
theorem pa_A_at {A : Nat → Int32} {t : Nat} {T : Nat → Nat → Nat} (h : pa_A A t T) (ht : t + 64 ≤ 448) {a b : Nat} (ha : a < 8) (hb : b < 8) : vp_in (nI t + nI a + 8 * nI b) 448 ∧ A (nI t + nI a + 8 * nI b).toNatClampNeg = nI (T a b) := by
  have e := pa_i3 t a b
  refine ⟨pa_in e (by omega) (by decide), ?_⟩
  rw [pa_cl e (by omega), h _ (by omega), pa_x_at _ ha]
theorem pa_A_q {A : Nat → Int32} {t : Nat} {T : Nat → Nat → Nat} (h : pa_A A t T) (ht : t + 64 ≤ 448) {q : Nat} (hq : q < 64) : vp_in (nI t + nI q) 448 ∧ A (nI t + nI q).toNatClampNeg = nI (T (q % 8) (q / 8)) := by
  have e := pa_i1 t q
  refine ⟨pa_in e (by omega) (by decide), ?_⟩
  rw [pa_cl e (by omega), h _ hq]
  rfl
/-- a branch on 'far', in the class and in the reference -/
theorem pa_bx {x : Int32} {A B : Prop} {v : Nat} (hx : x = nI v) (hv : v = 1000000 ∨ v < 100000) (f : v = 1000000 → A) (g : v < 100000 → B) : ((1000000 : Int32) ≤ x → A) ∧ (¬ (1000000 : Int32) ≤ x → B) :=
  pk_le 1000000 v (fun z => f (by omega)) (fun z => g (by omega)) rfl hx (by decide) (by omega)
theorem pa_by {A B : Prop} {v : Nat} (hv : v = 1000000 ∨ v < 100000) (f : v = 1000000 → A) (g : v < 100000 → B) : ((100000 : Int32) ≤ nI (min v 100000) → A) ∧ (¬ (100000 : Int32) ≤ nI (min v 100000) → B) :=
  pk_le 100000 (min v 100000) (fun z => f (by omega)) (fun z => g (by omega)) rfl rfl (by decide) (by omega)
/-! masks -/
def pa_mk (v : Nat → Nat) : Nat → Int32
  | 0 => 0
  | i + 1 => if v i = 1000000 then pa_mk v i else pa_mk v i ||| ((1 : Int32) <<< (nI i &&& 31))
theorem pa_mk_f {v : Nat → Nat} {i : Nat} (h : v i = 1000000) : pa_mk v (i + 1) = pa_mk v i := if_pos h
theorem pa_mk_t {v : Nat → Nat} {i : Nat} (h : v i < 100000) : pa_mk v (i + 1) = pa_mk v i ||| ((1 : Int32) <<< (nI i &&& 31)) := if_neg (by omega)
theorem px_rch {post : Int32 → SX → Prop} {sm ex : Int32} {ed sk sa A jo : Nat → Int32} {t a : Nat} {T : Nat → Nat → Nat} (hA : pa_A A t T) (hR : pa_R T) (ht : t + 64 ≤ 448) (ha : a < 8) (h : post (pa_mk (fun b => T a b) 8) (sm, ex, ed, sk, sa, A, jo)) : ∀ n b, b + n = 8 → wX_reach_20 post (nI a) (nI t) sm ex ed sk sa A jo (n + 1) (pa_mk (fun b => T a b) b) (nI b) := by
  intro n
  induction n with
  | zero =>
    intro b hb
    obtain rfl : b = 8 := by omega
    exact br_t (nI_le (a := 8) (b := 8) (Nat.le_refl _) (by decide)) h
  | succ n ih =>
    intro b hb
    refine br_f (nI_ge (a := b) (b := 8) (by omega) (by decide)) ?_
    have q := ih (b + 1) (by omega)
    obtain ⟨i1, v1⟩ := pa_A_at hA ht ha (by omega : b < 8)
    refine ⟨i1, pa_bx v1 (hR a b ha (by omega)) (fun z => ?_) (fun z => ?_)⟩
    · rw [pa_mk_f (v := fun b => T a b) z] at q
      exact nm_r (nI_1 b) q
    · rw [pa_mk_t (v := fun b => T a b) z] at q
      exact nm_e (nm_r (nI_1 b) q)
theorem px_lps {post : Int32 → SX → Prop} {sm ex : Int32} {ed sk sa A jo : Nat → Int32} {t : Nat} {T : Nat → Nat → Nat} (hA : pa_A A t T) (hR : pa_R T) (ht : t + 64 ≤ 448) (h : post (pa_mk (fun b => T b b) 8) (sm, ex, ed, sk, sa, A, jo)) : ∀ n b, b + n = 8 → wX_loops_9 post (nI t) sm ex ed sk sa A jo (n + 1) (pa_mk (fun b => T b b) b) (nI b) := by
  intro n
  induction n with
  | zero =>
    intro b hb
    obtain rfl : b = 8 := by omega
    exact br_t (nI_le (a := 8) (b := 8) (Nat.le_refl _) (by decide)) h
  | succ n ih =>
    intro b hb
    refine br_f (nI_ge (a := b) (b := 8) (by omega) (by decide)) ?_
    have q := ih (b + 1) (by omega)
    obtain ⟨i1, v1⟩ := pa_A_at hA ht (by omega : b < 8) (by omega : b < 8)
    refine ⟨i1, pa_bx v1 (hR b b (by omega) (by omega)) (fun z => ?_) (fun z => ?_)⟩
    · rw [pa_mk_f (v := fun b => T b b) z] at q
      exact nm_r (nI_1 b) q
    · rw [pa_mk_t (v := fun b => T b b) z] at q
      exact nm_e (nm_r (nI_1 b) q)
theorem py_rch {post : Int32 → SY → Prop} {fm fh : Int32} {ed K R B : Nat → Int32} {d a : Nat} {S : Nat → Nat → Nat → Nat} (hY : pa_YP B d S) (hd : d ≤ 6) (hR : pa_R (pa_T S d)) (ha : a < 8) (h : post (pa_mk (fun b => pa_T S d a b) 8) (fm, fh, ed, K, R, B)) : ∀ n b, b + n = 8 → wY_reach_21 post (nI a) (nI d + (-1)) fm fh ed K R B (n + 1) (pa_mk (fun b => pa_T S d a b) b) (nI b) := by
  intro n
  induction n with
  | zero =>
    intro b hb
    obtain rfl : b = 8 := by omega
    exact br_t (nI_le (a := 8) (b := 8) (Nat.le_refl _) (by decide)) h
  | succ n ih =>
    intro b hb
    refine br_f (nI_ge (a := b) (b := 8) (by omega) (by decide)) ?_
    have q := ih (b + 1) (by omega)
    refine py_len hd hY ha (by omega : b < 8) ?_
    refine pa_by (hR a b ha (by omega)) (fun z => ?_) (fun z => ?_)
    · rw [pa_mk_f (v := fun b => pa_T S d a b) z] at q
      exact nm_r (nI_1 b) q
    · rw [pa_mk_t (v := fun b => pa_T S d a b) z] at q
      exact nm_e (nm_r (nI_1 b) q)
theorem py_lps {post : Int32 → SY → Prop} {fm fh : Int32} {ed K R B : Nat → Int32} {d : Nat} {S : Nat → Nat → Nat → Nat} (hY : pa_YP B d S) (hd : d ≤ 6) (hR : pa_R (pa_T S d)) (h : post (pa_mk (fun b => pa_T S d b b) 8) (fm, fh, ed, K, R, B)) : ∀ n b, b + n = 8 → wY_loops_9 post (nI d + (-1)) fm fh ed K R B (n + 1) (pa_mk (fun b => pa_T S d b b) b) (nI b) := by
  intro n
  induction n with
  | zero =>
    intro b hb
    obtain rfl : b = 8 := by omega
    exact br_t (nI_le (a := 8) (b := 8) (Nat.le_refl _) (by decide)) h
  | succ n ih =>
    intro b hb
    refine br_f (nI_ge (a := b) (b := 8) (by omega) (by decide)) ?_
    have q := ih (b + 1) (by omega)
    refine py_len hd hY (by omega : b < 8) (by omega : b < 8) ?_
    refine pa_by (hR b b (by omega) (by omega)) (fun z => ?_) (fun z => ?_)
    · rw [pa_mk_f (v := fun b => pa_T S d b b) z] at q
      exact nm_r (nI_1 b) q
    · rw [pa_mk_t (v := fun b => pa_T S d b b) z] at q
      exact nm_e (nm_r (nI_1 b) q)
/-! pairs -/
def pa_ct (t : Nat → Nat) : Nat → Nat
  | 0 => 0
  | i + 1 => pa_ct t i + t i
def pa_fn (T : Nat → Nat → Nat) (a b : Nat) : Nat := if T a b = 1000000 then 0 else 1
theorem pa_ct_x (G : Nat → Nat → Nat) : pa_ct (fun q => G (q % 8) (q / 8)) 64 = 0 + G 0 0 + G 1 0 + G 2 0 + G 3 0 + G 4 0 + G 5 0 + G 6 0 + G 7 0 + G 0 1 + G 1 1 + G 2 1 + G 3 1 + G 4 1 + G 5 1 + G 6 1 + G 7 1 + G 0 2 + G 1 2 + G 2 2 + G 3 2 + G 4 2 + G 5 2 + G 6 2 + G 7 2 + G 0 3 + G 1 3 + G 2 3 + G 3 3 + G 4 3 + G 5 3 + G 6 3 + G 7 3 + G 0 4 + G 1 4 + G 2 4 + G 3 4 + G 4 4 + G 5 4 + G 6 4 + G 7 4 + G 0 5 + G 1 5 + G 2 5 + G 3 5 + G 4 5 + G 5 5 + G 6 5 + G 7 5 + G 0 6 + G 1 6 + G 2 6 + G 3 6 + G 4 6 + G 5 6 + G 6 6 + G 7 6 + G 0 7 + G 1 7 + G 2 7 + G 3 7 + G 4 7 + G 5 7 + G 6 7 + G 7 7 := rfl
theorem pa_ct_y (G : Nat → Nat → Nat) : pa_ct (fun q => G (q / 8) (q % 8)) 64 = 0 + G 0 0 + G 0 1 + G 0 2 + G 0 3 + G 0 4 + G 0 5 + G 0 6 + G 0 7 + G 1 0 + G 1 1 + G 1 2 + G 1 3 + G 1 4 + G 1 5 + G 1 6 + G 1 7 + G 2 0 + G 2 1 + G 2 2 + G 2 3 + G 2 4 + G 2 5 + G 2 6 + G 2 7 + G 3 0 + G 3 1 + G 3 2 + G 3 3 + G 3 4 + G 3 5 + G 3 6 + G 3 7 + G 4 0 + G 4 1 + G 4 2 + G 4 3 + G 4 4 + G 4 5 + G 4 6 + G 4 7 + G 5 0 + G 5 1 + G 5 2 + G 5 3 + G 5 4 + G 5 5 + G 5 6 + G 5 7 + G 6 0 + G 6 1 + G 6 2 + G 6 3 + G 6 4 + G 6 5 + G 6 6 + G 6 7 + G 7 0 + G 7 1 + G 7 2 + G 7 3 + G 7 4 + G 7 5 + G 7 6 + G 7 7 := rfl
theorem pa_ct_xy (G : Nat → Nat → Nat) : pa_ct (fun q => G (q / 8) (q % 8)) 64 = pa_ct (fun q => G (q % 8) (q / 8)) 64 := by
  rw [pa_ct_x, pa_ct_y]
  omega
theorem pa_ct_f {T : Nat → Nat → Nat} {a b c : Nat} (h : T a b = 1000000) : c + pa_fn T a b = c := by
  unfold pa_fn
  rw [if_pos h, Nat.add_zero]
theorem pa_ct_t {T : Nat → Nat → Nat} {a b c : Nat} (h : T a b < 100000) : c + pa_fn T a b = c + 1 := by
  unfold pa_fn
  rw [if_neg (by omega)]
theorem px_prs {post : Int32 → SX → Prop} {sm ex : Int32} {ed sk sa A jo : Nat → Int32} {t : Nat} {T : Nat → Nat → Nat} (hA : pa_A A t T) (hR : pa_R T) (ht : t + 64 ≤ 448) (h : post (nI (pa_ct (fun q => pa_fn T (q % 8) (q / 8)) 64)) (sm, ex, ed, sk, sa, A, jo)) : ∀ n q, q + n = 64 → wX_pairs_9 post (nI t) sm ex ed sk sa A jo (n + 1) (nI (pa_ct (fun q => pa_fn T (q % 8) (q / 8)) q)) (nI q) := by
  intro n
  induction n with
  | zero =>
    intro q hq
    obtain rfl : q = 64 := by omega
    exact br_t (nI_le (a := 64) (b := 64) (Nat.le_refl _) (by decide)) h
  | succ n ih =>
    intro q hq
    refine br_f (nI_ge (a := q) (b := 64) (by omega) (by decide)) ?_
    have z := ih (q + 1) (by omega)
    have ez : pa_ct (fun q => pa_fn T (q % 8) (q / 8)) (q + 1) = pa_ct (fun q => pa_fn T (q % 8) (q / 8)) q + pa_fn T (q % 8) (q / 8) := rfl
    rw [ez] at z
    obtain ⟨i1, v1⟩ := pa_A_q hA ht (by omega : q < 64)
    refine ⟨i1, pa_bx v1 (hR _ _ (by omega) (by omega)) (fun w => ?_) (fun w => ?_)⟩
    · rw [pa_ct_f w] at z
      exact nm_r (nI_1 q) z
    · rw [pa_ct_t w] at z
      exact nm_r (nI_1 _) (nm_r (nI_1 q) z)
theorem py_prs {post : Int32 → SY → Prop} {fm fh : Int32} {ed K R B : Nat → Int32} {d : Nat} {S : Nat → Nat → Nat → Nat} (hY : pa_YP B d S) (hd : d ≤ 6) (hR : pa_R (pa_T S d)) (h : post (nI (pa_ct (fun q => pa_fn (pa_T S d) (q / 8) (q % 8)) 64)) (fm, fh, ed, K, R, B)) : ∀ n q, q + n = 64 → wY_pairs_9 post (nI d + (-1)) fm fh ed K R B (n + 1) (nI (pa_ct (fun q => pa_fn (pa_T S d) (q / 8) (q % 8)) q)) (nI q) := by
  intro n
  induction n with
  | zero =>
    intro q hq
    obtain rfl : q = 64 := by omega
    exact br_t (nI_le (a := 64) (b := 64) (Nat.le_refl _) (by decide)) h
  | succ n ih =>
    intro q hq
    refine br_f (nI_ge (a := q) (b := 64) (by omega) (by decide)) ?_
    have z := ih (q + 1) (by omega)
    have ez : pa_ct (fun q => pa_fn (pa_T S d) (q / 8) (q % 8)) (q + 1) = pa_ct (fun q => pa_fn (pa_T S d) (q / 8) (q % 8)) q + pa_fn (pa_T S d) (q / 8) (q % 8) := rfl
    rw [ez] at z
    refine ⟨by decide, by decide, ?_⟩
    rw [pa_rm (by omega : q < 64), pa_dv (by omega : q < 64)]
    refine py_len hd hY (by omega) (by omega) ?_
    refine pa_by (hR _ _ (by omega) (by omega)) (fun w => ?_) (fun w => ?_)
    · rw [pa_ct_f w] at z
      exact nm_r (nI_1 q) z
    · rw [pa_ct_t w] at z
      exact nm_r (nI_1 _) (nm_r (nI_1 q) z)
/-! widest -/
def pa_vI : Nat → Int32
  | 0 => -5
  | w + 1 => nI w
def pa_mx (t : Nat → Nat) : Nat → Nat
  | 0 => 0
  | i + 1 => max (pa_mx t i) (t i)
def pa_gn (T : Nat → Nat → Nat) (a b : Nat) : Nat := if T a b = 1000000 then 0 else T a b + 1
theorem pa_mx_ge {t : Nat → Nat} : ∀ n q, q < n → t q ≤ pa_mx t n := by
  intro n
  induction n with
  | zero => intro q h; omega
  | succ n ih =>
    intro q h
    show t q ≤ max (pa_mx t n) (t n)
    by_cases z : q = n
    · subst z; omega
    · have := ih q (by omega)
      omega
theorem pa_mx_le {t : Nat → Nat} {b : Nat} : ∀ n, (∀ q, q < n → t q ≤ b) → pa_mx t n ≤ b := by
  intro n
  induction n with
  | zero => intro _; exact Nat.zero_le _
  | succ n ih =>
    intro h
    show max (pa_mx t n) (t n) ≤ b
    have := ih (fun q hq => h q (by omega))
    have := h n (by omega)
    omega
theorem pa_mx_xy (G : Nat → Nat → Nat) : pa_mx (fun q => G (q / 8) (q % 8)) 64 = pa_mx (fun q => G (q % 8) (q / 8)) 64 := by
  refine Nat.le_antisymm (pa_mx_le 64 fun q hq => ?_) (pa_mx_le 64 fun q hq => ?_)
  · have := pa_mx_ge (t := fun q => G (q % 8) (q / 8)) 64 (q % 8 * 8 + q / 8) (by omega)
    rw [show (q % 8 * 8 + q / 8) % 8 = q / 8 by omega, show (q % 8 * 8 + q / 8) / 8 = q % 8 by omega] at this
    exact this
  · have := pa_mx_ge (t := fun q => G (q / 8) (q % 8)) 64 (q % 8 * 8 + q / 8) (by omega)
    rw [show (q % 8 * 8 + q / 8) % 8 = q / 8 by omega, show (q % 8 * 8 + q / 8) / 8 = q % 8 by omega] at this
    exact this
theorem pa_vI_le {n w : Nat} (hn : n < 2 ^ 31) (hw : w < 2 ^ 31) : nI n ≤ pa_vI w ↔ n + 1 ≤ w := by
  cases w with
  | zero =>
    rw [Int32.le_iff_toInt_le, nI_toInt hn]
    have : (pa_vI 0).toInt = -5 := by decide
    omega
  | succ w =>
    show nI n ≤ nI w ↔ n + 1 ≤ w + 1
    rw [nI_leI hn (by omega)]
    omega
theorem pa_gn_le {T : Nat → Nat → Nat} (hR : pa_R T) {a b : Nat} (ha : a < 8) (hb : b < 8) : pa_gn T a b ≤ 100000 := by
  unfold pa_gn
  rcases hR a b ha hb with h | h
  · rw [if_pos h]; omega
  · rw [if_neg (by omega)]; omega
theorem px_wid {post : Int32 → SX → Prop} {sm ex : Int32} {ed sk sa A jo : Nat → Int32} {t : Nat} {T : Nat → Nat → Nat} (hA : pa_A A t T) (hR : pa_R T) (ht : t + 64 ≤ 448) (h : post (pa_vI (pa_mx (fun q => pa_gn T (q % 8) (q / 8)) 64)) (sm, ex, ed, sk, sa, A, jo)) : ∀ n q, q + n = 64 → wX_widest_10 post (nI t) sm ex ed sk sa A jo (n + 1) (pa_vI (pa_mx (fun q => pa_gn T (q % 8) (q / 8)) q)) (nI q) := by
  intro n
  induction n with
  | zero =>
    intro q hq
    obtain rfl : q = 64 := by omega
    exact br_t (nI_le (a := 64) (b := 64) (Nat.le_refl _) (by decide)) h
  | succ n ih =>
    intro q hq
    refine br_f (nI_ge (a := q) (b := 64) (by omega) (by decide)) ?_
    have z := ih (q + 1) (by omega)
    have ez : pa_mx (fun q => pa_gn T (q % 8) (q / 8)) (q + 1) = max (pa_mx (fun q => pa_gn T (q % 8) (q / 8)) q) (pa_gn T (q % 8) (q / 8)) := rfl
    have hw : pa_mx (fun q => pa_gn T (q % 8) (q / 8)) q ≤ 100000 := pa_mx_le q fun p hp => pa_gn_le hR (by omega) (by omega)
    rw [ez] at z
    obtain ⟨i1, v1⟩ := pa_A_q hA ht (by omega : q < 64)
    refine ⟨i1, nm_r v1 (pa_bx rfl (hR _ _ (by omega) (by omega)) (fun w => ?_) (fun w => ?_))⟩
    · rw [show max (pa_mx (fun q => pa_gn T (q % 8) (q / 8)) q) (pa_gn T (q % 8) (q / 8)) = pa_mx (fun q => pa_gn T (q % 8) (q / 8)) q by unfold pa_gn; rw [if_pos w]; omega] at z
      exact nm_r (nI_1 q) z
    · have eg : pa_gn T (q % 8) (q / 8) = T (q % 8) (q / 8) + 1 := if_neg (by omega)
      rw [eg] at z
      have c := pa_vI_le (n := T (q % 8) (q / 8)) (w := pa_mx (fun q => pa_gn T (q % 8) (q / 8)) q) (by omega) (by omega)
      refine br_c (fun y => ?_) (fun y => ?_)
      · rw [Nat.max_eq_left (c.mp y)] at z
        exact nm_r (nI_1 q) z
      · have y' : ¬ T (q % 8) (q / 8) + 1 ≤ pa_mx (fun q => pa_gn T (q % 8) (q / 8)) q := fun x => y (c.mpr x)
        rw [Nat.max_eq_right (by omega)] at z
        exact nm_r (nI_1 q) z
theorem py_wid {post : Int32 → SY → Prop} {fm fh : Int32} {ed K R B : Nat → Int32} {d : Nat} {S : Nat → Nat → Nat → Nat} (hY : pa_YP B d S) (hd : d ≤ 6) (hR : pa_R (pa_T S d)) (h : post (pa_vI (pa_mx (fun q => pa_gn (pa_T S d) (q / 8) (q % 8)) 64)) (fm, fh, ed, K, R, B)) : ∀ n q, q + n = 64 → wY_widest_10 post (nI d + (-1)) fm fh ed K R B (n + 1) (pa_vI (pa_mx (fun q => pa_gn (pa_T S d) (q / 8) (q % 8)) q)) (nI q) := by
  intro n
  induction n with
  | zero =>
    intro q hq
    obtain rfl : q = 64 := by omega
    exact br_t (nI_le (a := 64) (b := 64) (Nat.le_refl _) (by decide)) h
  | succ n ih =>
    intro q hq
    refine br_f (nI_ge (a := q) (b := 64) (by omega) (by decide)) ?_
    have z := ih (q + 1) (by omega)
    have ez : pa_mx (fun q => pa_gn (pa_T S d) (q / 8) (q % 8)) (q + 1) = max (pa_mx (fun q => pa_gn (pa_T S d) (q / 8) (q % 8)) q) (pa_gn (pa_T S d) (q / 8) (q % 8)) := rfl
    have hw : pa_mx (fun q => pa_gn (pa_T S d) (q / 8) (q % 8)) q ≤ 100000 := pa_mx_le q fun p hp => pa_gn_le hR (by omega) (by omega)
    rw [ez] at z
    refine ⟨by decide, by decide, ?_⟩
    rw [pa_rm (by omega : q < 64), pa_dv (by omega : q < 64)]
    refine py_len hd hY (by omega) (by omega) ?_
    generalize pa_T S d = T at *
    refine pa_by (hR _ _ (by omega) (by omega)) (fun w => ?_) (fun w => ?_)
    · rw [show max (pa_mx (fun q => pa_gn T (q / 8) (q % 8)) q) (pa_gn T (q / 8) (q % 8)) = pa_mx (fun q => pa_gn T (q / 8) (q % 8)) q by unfold pa_gn; rw [if_pos w]; omega] at z
      exact nm_r (nI_1 q) z
    · have eg : pa_gn T (q / 8) (q % 8) = T (q / 8) (q % 8) + 1 := if_neg (by omega)
      rw [eg] at z
      rw [show min (T (q / 8) (q % 8)) 100000 = T (q / 8) (q % 8) by omega]
      have c := pa_vI_le (n := T (q / 8) (q % 8)) (w := pa_mx (fun q => pa_gn T (q / 8) (q % 8)) q) (by omega) (by omega)
      refine br_c (fun y => ?_) (fun y => ?_)
      · rw [Nat.max_eq_left (c.mp y)] at z
        exact nm_r (nI_1 q) z
      · have y' : ¬ T (q / 8) (q % 8) + 1 ≤ pa_mx (fun q => pa_gn T (q / 8) (q % 8)) q := fun x => y (c.mpr x)
        rw [Nat.max_eq_right (by omega)] at z
        exact nm_r (nI_1 q) z
