/-! matrices of least lengths, 8 by 8, capped at 1000000 -/
def pa_jn (M N : Nat → Nat → Nat) (a b : Nat) : Nat → Nat
  | 0 => 1000000
  | k + 1 => min (pa_jn M N a b k) (M a k + N k b)
def pa_rd (T : Nat → Nat → Nat) (m : Nat) : Nat → Nat → Nat := fun a b => min (T a b) (T a m + T m b)
def pa_dg (T : Nat → Nat → Nat) : Nat → Nat → Nat := fun a b => if a = b then 0 else T a b
def pa_st (T : Nat → Nat → Nat) : Nat → Nat → Nat → Nat
  | 0 => pa_dg T
  | m + 1 => pa_rd (pa_st T m) m
theorem pa_jn_le (M N : Nat → Nat → Nat) (a b k : Nat) : pa_jn M N a b k ≤ 1000000 := by
  induction k with
  | zero => exact Nat.le_refl _
  | succ k ih => exact Nat.le_trans (Nat.min_le_left _ _) ih
theorem pa_st_le {T : Nat → Nat → Nat} (h : ∀ a b, a < 8 → b < 8 → T a b ≤ 1000000) (m : Nat) : ∀ a b, a < 8 → b < 8 → pa_st T m a b ≤ 1000000 := by
  induction m with
  | zero =>
    intro a b ha hb
    show (if a = b then 0 else T a b) ≤ 1000000
    split
    · omega
    · exact h a b ha hb
  | succ m ih => intro a b ha hb; exact Nat.le_trans (Nat.min_le_left _ _) (ih a b ha hb)
theorem pa_st_d (T : Nat → Nat → Nat) (m : Nat) (a : Nat) : pa_st T m a a = 0 := by
  induction m with
  | zero => exact if_pos rfl
  | succ m ih =>
    show min (pa_st T m a a) _ = 0
    omega
/-- every node below m may be gone through -/
def pa_J (T : Nat → Nat → Nat) (m : Nat) : Prop := ∀ a b c, a < 8 → b < 8 → c < m → T a b ≤ T a c + T c b
theorem pa_J_st (T : Nat → Nat → Nat) : ∀ m, m ≤ 8 → pa_J (pa_st T m) m := by
  intro m
  induction m with
  | zero => intro _ a b c _ _ hc; omega
  | succ m ih =>
    intro hm a b c ha hb hc
    have J := ih (by omega)
    show min (pa_st T m a b) (pa_st T m a m + pa_st T m m b) ≤ min (pa_st T m a c) (pa_st T m a m + pa_st T m m c) + min (pa_st T m c b) (pa_st T m c m + pa_st T m m b)
    by_cases z : c = m
    · subst z
      have := pa_st_d T c c
      omega
    · have j1 := J a b c ha hb (by omega)
      have j2 := J m b c (by omega) hb (by omega)
      have j3 := J a m c ha (by omega) (by omega)
      omega
def pa_s8 (x : Nat → Nat) : Nat := x 0 + x 1 + x 2 + x 3 + x 4 + x 5 + x 6 + x 7
/-- T a b is far, or has a set x of nodes between, all below m, and is at most B for each way between -/
def pa_W (T : Nat → Nat → Nat) (B m : Nat) : Prop := ∀ a b, a < 8 → b < 8 → T a b = 1000000 ∨ ∃ x : Nat → Nat,
  (∀ c, x c ≤ 1) ∧ (∀ c, m ≤ c → x c = 0) ∧ T a b ≤ B * (1 + pa_s8 x) ∧ ∀ c, x c = 1 → T a c + T c b ≤ T a b
theorem pa_s8_1 {m : Nat} (h : m < 8) : pa_s8 (fun c => if c = m then 1 else 0) = 1 := by
  rcases (by omega : m = 0 ∨ m = 1 ∨ m = 2 ∨ m = 3 ∨ m = 4 ∨ m = 5 ∨ m = 6 ∨ m = 7) with z | z | z | z | z | z | z | z <;> subst z <;> rfl
theorem pa_s8_a (x y z : Nat → Nat) : pa_s8 (fun c => x c + y c + z c) = pa_s8 x + pa_s8 y + pa_s8 z := by
  unfold pa_s8
  dsimp only
  omega
theorem pa_W_st {T : Nat → Nat → Nat} {B : Nat} (hT : ∀ a b, a < 8 → b < 8 → T a b = 1000000 ∨ T a b ≤ B) (hF : ∀ a b, a < 8 → b < 8 → T a b ≤ 1000000) : ∀ m, m ≤ 8 → pa_W (pa_st T m) B m := by
  intro m
  induction m with
  | zero =>
    intro _ a b ha hb
    show (if a = b then 0 else T a b) = 1000000 ∨ ∃ x : Nat → Nat, (∀ c, x c ≤ 1) ∧ (∀ c, 0 ≤ c → x c = 0) ∧ (if a = b then 0 else T a b) ≤ B * (1 + pa_s8 x) ∧ ∀ c, x c = 1 → _
    have key : (if a = b then 0 else T a b) = 1000000 ∨ (if a = b then 0 else T a b) ≤ B := by
      split
      · right; omega
      · exact hT a b ha hb
    rcases key with h | h
    · exact Or.inl h
    · refine Or.inr ⟨fun _ => 0, fun _ => Nat.zero_le 1, fun _ _ => rfl, ?_, fun c hc => ?_⟩
      · show _ ≤ B * 1
        omega
      · exact absurd (show (0 : Nat) = 1 from hc) (by decide)
  | succ m ih =>
    intro hm a b ha hb
    have W := ih (by omega)
    have J := pa_J_st T m (by omega)
    have hFm := pa_st_le hF m
    have hd := pa_st_d T m m
    have hm8 : m < 8 := by omega
    -- the values of the next matrix
    have e : ∀ a b, pa_st T (m + 1) a b = min (pa_st T m a b) (pa_st T m a m + pa_st T m m b) := fun _ _ => rfl
    generalize pa_st T (m + 1) = U at e
    generalize pa_st T m = V at *
    by_cases z : V a b ≤ V a m + V m b
    · have eab : U a b = V a b := by rw [e]; omega
      rcases W a b ha hb with h | ⟨x, x1, x2, x3, x4⟩
      · exact Or.inl (by rw [eab]; exact h)
      · refine Or.inr ⟨x, x1, fun c hc => x2 c (by omega), by rw [eab]; exact x3, fun c hc => ?_⟩
        have h4 := x4 c hc
        have := e a c
        have := e c b
        omega
    · have eab : U a b = V a m + V m b := by rw [e]; omega
      have hab := hFm a b ha hb
      rcases W a m ha hm8 with h | ⟨x, x1, x2, x3, x4⟩
      · omega
      rcases W m b hm8 hb with h | ⟨y, y1, y2, y3, y4⟩
      · omega
      have dis : ∀ c, x c + y c ≤ 1 := by
        intro c
        have p1 := x1 c
        have p2 := y1 c
        by_cases q1 : x c = 1
        · by_cases q2 : y c = 1
          · have r1 := x4 c q1
            have r2 := y4 c q2
            have hc : c < m := by
              rcases Nat.lt_or_ge c m with k | k
              · exact k
              · have := x2 c k
                omega
            have r3 := J a b c ha hb hc
            omega
          · omega
        · omega
      refine Or.inr ⟨fun c => x c + y c + (if c = m then 1 else 0), fun c => ?_, fun c hc => ?_, ?_, fun c hc => ?_⟩
      · show x c + y c + (if c = m then 1 else 0) ≤ 1
        split
        · next hcm =>
          have := x2 c (by omega)
          have := y2 c (by omega)
          omega
        · exact dis c
      · show x c + y c + (if c = m then 1 else 0) = 0
        rw [x2 c (by omega), y2 c (by omega), if_neg (by omega)]
      · rw [pa_s8_a x y (fun c => if c = m then 1 else 0), pa_s8_1 hm8, eab]
        have d1 : B * (1 + (pa_s8 x + pa_s8 y + 1)) = B * (1 + pa_s8 x) + B * (1 + pa_s8 y) := by
          rw [← Nat.mul_add]
          exact congrArg (B * ·) (by omega)
        omega
      · have hc' : x c + y c + (if c = m then 1 else 0) = 1 := hc
        have e1 := e a c
        have e2 := e c b
        by_cases q0 : c = m
        · subst q0
          have := e a c
          omega
        · rw [if_neg q0] at hc'
          by_cases q1 : x c = 1
          · have := x4 c q1
            omega
          · have := y4 c (by omega)
            omega
theorem pa_s8_le {x : Nat → Nat} (h : ∀ c, x c ≤ 1) : pa_s8 x ≤ 8 := by
  unfold pa_s8
  have := h 0
  have := h 1
  have := h 2
  have := h 3
  have := h 4
  have := h 5
  have := h 6
  have := h 7
  omega
/-- the star's lengths are far, or at most nine times what went in -/
theorem pa_st_9 {T : Nat → Nat → Nat} {B : Nat} (hT : ∀ a b, a < 8 → b < 8 → T a b = 1000000 ∨ T a b ≤ B) (hF : ∀ a b, a < 8 → b < 8 → T a b ≤ 1000000) : ∀ a b, a < 8 → b < 8 → pa_st T 8 a b = 1000000 ∨ pa_st T 8 a b ≤ 9 * B := by
  intro a b ha hb
  rcases pa_W_st hT hF 8 (Nat.le_refl 8) a b ha hb with h | ⟨x, x1, _, x3, _⟩
  · exact Or.inl h
  · refine Or.inr (Nat.le_trans x3 ?_)
    rw [Nat.mul_comm 9 B]
    exact Nat.mul_le_mul_left B (by have := pa_s8_le x1; omega)
/-- closed: a way through any node is no shorter; no way at all leads to the node itself -/
def pa_C (T : Nat → Nat → Nat) : Prop := (∀ a b c, a < 8 → b < 8 → c < 8 → T a b ≤ T a c + T c b) ∧ ∀ a, a < 8 → T a a = 0
theorem pa_st_C (T : Nat → Nat → Nat) : pa_C (pa_st T 8) := ⟨pa_J_st T 8 (Nat.le_refl 8), fun a _ => pa_st_d T 8 a⟩
theorem pa_C_st {T : Nat → Nat → Nat} (h : pa_C T) : ∀ m, m ≤ 8 → ∀ a b, a < 8 → b < 8 → pa_st T m a b = T a b := by
  intro m
  induction m with
  | zero =>
    intro _ a b ha _
    show (if a = b then 0 else T a b) = T a b
    split
    · next z => subst z; exact (h.2 a ha).symm
    · rfl
  | succ m ih =>
    intro hm a b ha hb
    show min (pa_st T m a b) (pa_st T m a m + pa_st T m m b) = T a b
    rw [ih (by omega) a b ha hb, ih (by omega) a m ha (by omega), ih (by omega) m b (by omega) hb]
    have := h.1 a b m ha hb (by omega)
    omega
