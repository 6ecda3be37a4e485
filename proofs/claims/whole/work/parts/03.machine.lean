/-! the stack machine: level, from, to; what each step makes -/
def pa_lab (ed : Nat → Int32) (r : Int32) : Nat → Nat → Nat := fun a b => if ed (r.toNatClampNeg * 64 + (a + 8 * b)) = 0 then 1000000 else 1
def pa_bck (ed : Nat → Int32) (r : Int32) : Nat → Nat → Nat := fun a b => if ed (r.toNatClampNeg * 64 + (b + 8 * a)) = 0 then 1000000 else 1
def pa_atm (r : Int32) : Nat → Nat → Nat := fun a b => if a = b ∧ (r = -1 ∨ r = nI a) then 0 else 1000000
def pa_thn (M N : Nat → Nat → Nat) : Nat → Nat → Nat := fun a b => pa_jn M N a b 8
def pa_orr (M N : Nat → Nat → Nat) : Nat → Nat → Nat := fun a b => min (M a b) (N a b)
def pa_put (S : Nat → Nat → Nat → Nat) (d : Nat) (M : Nat → Nat → Nat) : Nat → Nat → Nat → Nat := fun l => if l = d then M else S l
theorem pa_put_s {S : Nat → Nat → Nat → Nat} {d : Nat} {M : Nat → Nat → Nat} : pa_put S d M d = M := if_pos rfl
theorem pa_put_n {S : Nat → Nat → Nat → Nat} {d l : Nat} {M : Nat → Nat → Nat} (h : l ≠ d) : pa_put S d M l = S l := if_neg h
def pa_dep (k : Int32) (d : Nat) : Nat := if k = 0 ∨ k = 1 ∨ k = 2 then d + 1 else if k = 3 ∨ k = 4 then d - 1 else d
def pa_stp (ed : Nat → Int32) (k r : Int32) (d : Nat) (S : Nat → Nat → Nat → Nat) : Nat → Nat → Nat → Nat :=
  if k = 0 then pa_put S d (pa_lab ed r)
  else if k = 1 then pa_put S d (pa_bck ed r)
  else if k = 2 then pa_put S d (pa_atm r)
  else if k = 3 then pa_put S (d - 2) (pa_thn (S (d - 2)) (S (d - 1)))
  else if k = 4 then pa_put S (d - 2) (pa_orr (S (d - 2)) (S (d - 1)))
  else pa_put S (d - 1) (pa_st (S (d - 1)) 8)
def pa_d (K : Nat → Int32) : Nat → Nat
  | 0 => 0
  | i + 1 => pa_dep (K i) (pa_d K i)
def pa_S (ed K R : Nat → Int32) : Nat → Nat → Nat → Nat → Nat
  | 0 => fun _ _ _ => 0
  | i + 1 => pa_stp ed (K i) (R i) (pa_d K i) (pa_S ed K R i)
/-- what a step that was let in looks like, on a stack of d -/
def pa_ok (k r : Int32) (d : Nat) : Prop :=
  (k = 0 ∧ (∃ l, l < 3 ∧ r = nI l) ∧ d < 6) ∨ (k = 1 ∧ (∃ l, l < 3 ∧ r = nI l) ∧ d < 6) ∨ (k = 2 ∧ (r = -1 ∨ ∃ n, n < 8 ∧ r = nI n) ∧ d < 6)
  ∨ (k = 3 ∧ 2 ≤ d) ∨ (k = 4 ∧ 2 ≤ d) ∨ (k = 5 ∧ 1 ≤ d)
theorem pa_dep_0 (d : Nat) : pa_dep 0 d = d + 1 := if_pos (by decide)
theorem pa_dep_1 (d : Nat) : pa_dep 1 d = d + 1 := if_pos (by decide)
theorem pa_dep_2 (d : Nat) : pa_dep 2 d = d + 1 := if_pos (by decide)
theorem pa_dep_3 (d : Nat) : pa_dep 3 d = d - 1 := (if_neg (by decide)).trans (if_pos (by decide))
theorem pa_dep_4 (d : Nat) : pa_dep 4 d = d - 1 := (if_neg (by decide)).trans (if_pos (by decide))
theorem pa_dep_5 (d : Nat) : pa_dep 5 d = d := (if_neg (by decide)).trans (if_neg (by decide))
theorem pa_stp_0 (ed : Nat → Int32) (r : Int32) (d : Nat) (S : Nat → Nat → Nat → Nat) : pa_stp ed 0 r d S = pa_put S d (pa_lab ed r) := if_pos rfl
theorem pa_stp_1 (ed : Nat → Int32) (r : Int32) (d : Nat) (S : Nat → Nat → Nat → Nat) : pa_stp ed 1 r d S = pa_put S d (pa_bck ed r) := (if_neg (by decide)).trans (if_pos rfl)
theorem pa_stp_2 (ed : Nat → Int32) (r : Int32) (d : Nat) (S : Nat → Nat → Nat → Nat) : pa_stp ed 2 r d S = pa_put S d (pa_atm r) := (if_neg (by decide)).trans ((if_neg (by decide)).trans (if_pos rfl))
theorem pa_stp_3 (ed : Nat → Int32) (r : Int32) (d : Nat) (S : Nat → Nat → Nat → Nat) : pa_stp ed 3 r d S = pa_put S (d - 2) (pa_thn (S (d - 2)) (S (d - 1))) := (if_neg (by decide)).trans ((if_neg (by decide)).trans ((if_neg (by decide)).trans (if_pos rfl)))
theorem pa_stp_4 (ed : Nat → Int32) (r : Int32) (d : Nat) (S : Nat → Nat → Nat → Nat) : pa_stp ed 4 r d S = pa_put S (d - 2) (pa_orr (S (d - 2)) (S (d - 1))) := (if_neg (by decide)).trans ((if_neg (by decide)).trans ((if_neg (by decide)).trans ((if_neg (by decide)).trans (if_pos rfl))))
theorem pa_stp_5 (ed : Nat → Int32) (r : Int32) (d : Nat) (S : Nat → Nat → Nat → Nat) : pa_stp ed 5 r d S = pa_put S (d - 1) (pa_st (S (d - 1)) 8) := (if_neg (by decide)).trans ((if_neg (by decide)).trans ((if_neg (by decide)).trans ((if_neg (by decide)).trans (if_neg (by decide)))))
theorem pa_dep_le {k r : Int32} {d : Nat} (h : pa_ok k r d) (hd : d ≤ 6) : pa_dep k d ≤ 6 := by
  rcases h with ⟨rfl, _, h⟩ | ⟨rfl, _, h⟩ | ⟨rfl, _, h⟩ | ⟨rfl, h⟩ | ⟨rfl, h⟩ | ⟨rfl, h⟩
  · rw [pa_dep_0]; omega
  · rw [pa_dep_1]; omega
  · rw [pa_dep_2]; omega
  · rw [pa_dep_3]; omega
  · rw [pa_dep_4]; omega
  · rw [pa_dep_5]; omega
theorem pa_d_le {K R : Nat → Int32} {m : Nat} (h : ∀ i, i < m → pa_ok (K i) (R i) (pa_d K i)) : ∀ i, i ≤ m → pa_d K i ≤ 6 := by
  intro i
  induction i with
  | zero => intro _; exact Nat.zero_le _
  | succ i ih => intro hi; exact pa_dep_le (h i (by omega)) (ih (by omega))
/-! how long the lengths can be, by the steps that an expression took: open ones f, closed ones g -/
def pa_f (n : Nat) : Nat := [0, 1, 1, 2, 10, 18, 19, 91, 163, 172, 820, 1468, 1549, 7381, 13213].getD n 0
def pa_g (n : Nat) : Nat := [0, 0, 9, 9, 18, 90, 162, 171, 819, 1467, 1548, 7380, 13212, 13941, 66429].getD n 0
def pa_h (n : Nat) : Nat := max (pa_f n) (pa_g n)
theorem pa_t1 : 1 ≤ pa_f 1 := by decide
theorem pa_t2' : ∀ i, i < 14 → ∀ j, j < 14 → 1 ≤ i → 1 ≤ j → i + j + 1 ≤ 14 → pa_h i + pa_h j ≤ pa_f (i + j + 1) := by decide +kernel
theorem pa_t2 {i j : Nat} (hi : 1 ≤ i) (hj : 1 ≤ j) (h : i + j + 1 ≤ 14) : pa_h i + pa_h j ≤ pa_f (i + j + 1) := pa_t2' i (by omega) j (by omega) hi hj h
theorem pa_t3 : ∀ n, n < 14 → 1 ≤ n → 9 * pa_f n ≤ pa_g (n + 1) ∧ pa_g n ≤ pa_g (n + 1) := by decide +kernel
theorem pa_t4 : ∀ n, n < 15 → pa_h n < 100000 := by decide +kernel
def pa_U (M : Nat → Nat → Nat) (B : Nat) : Prop := ∀ a b, a < 8 → b < 8 → M a b = 1000000 ∨ M a b ≤ B
def pa_B (M : Nat → Nat → Nat) (n : Nat) : Prop := (∀ a b, a < 8 → b < 8 → M a b ≤ 1000000) ∧ (pa_U M (pa_f n) ∨ (pa_C M ∧ pa_U M (pa_g n)))
theorem pa_B_h {M : Nat → Nat → Nat} {n : Nat} (h : pa_B M n) : pa_U M (pa_h n) := by
  intro a b ha hb
  have : pa_h n = max (pa_f n) (pa_g n) := rfl
  rcases h.2 with h | ⟨_, h⟩ <;> rcases h a b ha hb with h | h
  · exact Or.inl h
  · exact Or.inr (by omega)
  · exact Or.inl h
  · exact Or.inr (by omega)
theorem pa_B_1 {M : Nat → Nat → Nat} (h : ∀ a b, M a b = 1000000 ∨ M a b ≤ 1) : pa_B M 1 :=
  ⟨fun a b _ _ => by rcases h a b with z | z <;> omega, Or.inl fun a b _ _ => by
    have := pa_t1
    rcases h a b with z | z
    · exact Or.inl z
    · exact Or.inr (by omega)⟩
theorem pa_B_lab (ed : Nat → Int32) (r : Int32) : pa_B (pa_lab ed r) 1 := pa_B_1 fun a b => by
  unfold pa_lab
  split
  · exact Or.inl rfl
  · exact Or.inr (Nat.le_refl _)
theorem pa_B_bck (ed : Nat → Int32) (r : Int32) : pa_B (pa_bck ed r) 1 := pa_B_1 fun a b => by
  unfold pa_bck
  split
  · exact Or.inl rfl
  · exact Or.inr (Nat.le_refl _)
theorem pa_B_atm (r : Int32) : pa_B (pa_atm r) 1 := pa_B_1 fun a b => by
  unfold pa_atm
  split
  · exact Or.inr (Nat.zero_le _)
  · exact Or.inl rfl
theorem pa_jn_U {M N : Nat → Nat → Nat} {p q : Nat} (hM : pa_U M p) (hN : pa_U N q) {a b : Nat} (ha : a < 8) (hb : b < 8) : ∀ k, k ≤ 8 → pa_jn M N a b k = 1000000 ∨ pa_jn M N a b k ≤ p + q := by
  intro k
  induction k with
  | zero => intro _; exact Or.inl rfl
  | succ k ih =>
    intro hk
    have e : pa_jn M N a b (k + 1) = min (pa_jn M N a b k) (M a k + N k b) := rfl
    have h1 := ih (by omega)
    have h2 := hM a k ha (by omega)
    have h3 := hN k b (by omega) hb
    have h4 := pa_jn_le M N a b k
    omega
theorem pa_B_thn {M N : Nat → Nat → Nat} {p q : Nat} (hM : pa_B M p) (hN : pa_B N q) (hp : 1 ≤ p) (hq : 1 ≤ q) (h : p + q + 1 ≤ 14) : pa_B (pa_thn M N) (p + q + 1) := by
  refine ⟨fun a b _ _ => pa_jn_le M N a b 8, Or.inl fun a b ha hb => ?_⟩
  have t := pa_t2 hp hq h
  rcases pa_jn_U (pa_B_h hM) (pa_B_h hN) ha hb 8 (Nat.le_refl 8) with z | z
  · exact Or.inl z
  · exact Or.inr (Nat.le_trans z t)
theorem pa_B_orr {M N : Nat → Nat → Nat} {p q : Nat} (hM : pa_B M p) (hN : pa_B N q) (hp : 1 ≤ p) (hq : 1 ≤ q) (h : p + q + 1 ≤ 14) : pa_B (pa_orr M N) (p + q + 1) := by
  have t := pa_t2 hp hq h
  refine ⟨fun a b ha hb => Nat.le_trans (Nat.min_le_left _ _) (hM.1 a b ha hb), Or.inl fun a b ha hb => ?_⟩
  have h1 := pa_B_h hM a b ha hb
  have h2 := pa_B_h hN a b ha hb
  have h3 := hM.1 a b ha hb
  have h4 := hN.1 a b ha hb
  have e : pa_orr M N a b = min (M a b) (N a b) := rfl
  omega
theorem pa_B_st {M : Nat → Nat → Nat} {n : Nat} (hM : pa_B M n) (h1 : 1 ≤ n) (h : n < 14) : pa_B (pa_st M 8) (n + 1) := by
  have t := pa_t3 n h h1
  refine ⟨pa_st_le hM.1 8, Or.inr ⟨pa_st_C M, fun a b ha hb => ?_⟩⟩
  rcases hM.2 with z | ⟨c, z⟩
  · rcases pa_st_9 z hM.1 a b ha hb with y | y
    · exact Or.inl y
    · exact Or.inr (by omega)
  · rw [pa_C_st c 8 (Nat.le_refl 8) a b ha hb]
    rcases z a b ha hb with y | y
    · exact Or.inl y
    · exact Or.inr (by omega)
/-! the sizes on the stack -/
def pa_sm (z : Nat → Nat) : Nat → Nat
  | 0 => 0
  | d + 1 => pa_sm z d + z d
theorem pa_sm_c {z y : Nat → Nat} : ∀ d, (∀ l, l < d → z l = y l) → pa_sm z d = pa_sm y d := by
  intro d
  induction d with
  | zero => intro _; rfl
  | succ d ih =>
    intro h
    show pa_sm z d + z d = pa_sm y d + y d
    rw [ih (fun l hl => h l (by omega)), h d (by omega)]
theorem pa_sm_ge {z : Nat → Nat} : ∀ d l, l < d → z l ≤ pa_sm z d := by
  intro d
  induction d with
  | zero => intro l h; omega
  | succ d ih =>
    intro l h
    show z l ≤ pa_sm z d + z d
    by_cases e : l = d
    · subst e; omega
    · have := ih l (by omega)
      omega
def pa_V (S : Nat → Nat → Nat → Nat) (d i : Nat) : Prop := ∃ z : Nat → Nat, pa_sm z d ≤ i ∧ ∀ l, l < d → 1 ≤ z l ∧ pa_B (S l) (z l)
/-- what is made on level e out of c levels from e on, that are gone -/
theorem pa_V_put {S : Nat → Nat → Nat → Nat} {e i n : Nat} {z : Nat → Nat} {M : Nat → Nat → Nat} (hz : ∀ l, l < e → 1 ≤ z l ∧ pa_B (S l) (z l)) (hn : pa_sm z e + n ≤ i) (h1 : 1 ≤ n) (hM : pa_B M n) : pa_V (pa_put S e M) (e + 1) i := by
  refine ⟨fun l => if l = e then n else z l, ?_, fun l hl => ?_⟩
  · show pa_sm (fun l => if l = e then n else z l) e + (if e = e then n else z e) ≤ i
    rw [if_pos rfl, pa_sm_c (y := z) e (fun l hl => if_neg (by omega))]
    exact hn
  · by_cases c : l = e
    · subst c
      rw [pa_put_s]
      show 1 ≤ (if l = l then n else z l) ∧ pa_B M (if l = l then n else z l)
      rw [if_pos rfl]
      exact ⟨h1, hM⟩
    · rw [pa_put_n c]
      show 1 ≤ (if l = e then n else z l) ∧ pa_B (S l) (if l = e then n else z l)
      rw [if_neg c]
      exact hz l (by omega)
theorem pa_V_stp {ed : Nat → Int32} {k r : Int32} {d i : Nat} {S : Nat → Nat → Nat → Nat} (hok : pa_ok k r d) (hi : i < 14) (h : pa_V S d i) : pa_V (pa_stp ed k r d S) (pa_dep k d) (i + 1) := by
  obtain ⟨z, hs, hz⟩ := h
  rcases hok with ⟨rfl, _, h⟩ | ⟨rfl, _, h⟩ | ⟨rfl, _, h⟩ | ⟨rfl, h⟩ | ⟨rfl, h⟩ | ⟨rfl, h⟩
  · rw [pa_stp_0, pa_dep_0]
    exact pa_V_put hz (by omega) (Nat.le_refl 1) (pa_B_lab ed r)
  · rw [pa_stp_1, pa_dep_1]
    exact pa_V_put hz (by omega) (Nat.le_refl 1) (pa_B_bck ed r)
  · rw [pa_stp_2, pa_dep_2]
    exact pa_V_put hz (by omega) (Nat.le_refl 1) (pa_B_atm r)
  · obtain ⟨e, rfl⟩ : ∃ e, d = e + 2 := ⟨d - 2, by omega⟩
    rw [pa_stp_3, pa_dep_3]
    have q : pa_sm z (e + 2) = pa_sm z e + z e + z (e + 1) := rfl
    have h1 := hz e (by omega)
    have h2 := hz (e + 1) (by omega)
    exact pa_V_put (e := e) (fun l hl => hz l (by omega)) (n := z e + z (e + 1) + 1) (by omega) (by omega) (pa_B_thn h1.2 h2.2 h1.1 h2.1 (by omega))
  · obtain ⟨e, rfl⟩ : ∃ e, d = e + 2 := ⟨d - 2, by omega⟩
    rw [pa_stp_4, pa_dep_4]
    have q : pa_sm z (e + 2) = pa_sm z e + z e + z (e + 1) := rfl
    have h1 := hz e (by omega)
    have h2 := hz (e + 1) (by omega)
    exact pa_V_put (e := e) (fun l hl => hz l (by omega)) (n := z e + z (e + 1) + 1) (by omega) (by omega) (pa_B_orr h1.2 h2.2 h1.1 h2.1 (by omega))
  · obtain ⟨e, rfl⟩ : ∃ e, d = e + 1 := ⟨d - 1, by omega⟩
    rw [pa_stp_5, pa_dep_5]
    have q : pa_sm z (e + 1) = pa_sm z e + z e := rfl
    have h1 := hz e (by omega)
    exact pa_V_put (e := e) (fun l hl => hz l (by omega)) (n := z e + 1) (by omega) (by omega) (pa_B_st h1.2 h1.1 (by omega))
theorem pa_V_run {ed K R : Nat → Int32} {m : Nat} (hm : m ≤ 14) (h : ∀ i, i < m → pa_ok (K i) (R i) (pa_d K i)) : ∀ i, i ≤ m → pa_V (pa_S ed K R i) (pa_d K i) i := by
  intro i
  induction i with
  | zero => intro _; exact ⟨fun _ => 0, Nat.le_refl _, fun l hl => absurd hl (Nat.not_lt_zero l)⟩
  | succ i ih => intro hi; exact pa_V_stp (h i (by omega)) (by omega) (ih (by omega))
/-- the table that is asked about: the top one, or none -/
def pa_T (S : Nat → Nat → Nat → Nat) (d : Nat) : Nat → Nat → Nat := if d = 0 then fun _ _ => 1000000 else S (d - 1)
theorem pa_T_far {S : Nat → Nat → Nat → Nat} {d i : Nat} (hi : i ≤ 14) (h : pa_V S d i) : ∀ a b, a < 8 → b < 8 → pa_T S d a b = 1000000 ∨ pa_T S d a b < 100000 := by
  intro a b ha hb
  unfold pa_T
  split
  · exact Or.inl rfl
  · next z =>
    obtain ⟨y, h1, h2⟩ := h
    have h3 := h2 (d - 1) (by omega)
    have h4 := pa_sm_ge (z := y) d (d - 1) (by omega)
    have h5 := pa_t4 (y (d - 1)) (by omega)
    rcases pa_B_h h3.2 a b ha hb with h | h
    · exact Or.inl h
    · exact Or.inr (by omega)
theorem pa_V_le {S : Nat → Nat → Nat → Nat} {d i : Nat} (h : pa_V S d i) : ∀ l, l < d → ∀ a b, a < 8 → b < 8 → S l a b ≤ 1000000 := by
  obtain ⟨y, _, h2⟩ := h
  intro l hl
  exact (h2 l hl).2.1
