/-! the class's tables: from + 8 * to -/
def pa_x (M : Nat → Nat → Nat) : Nat → Nat := fun q => M (q % 8) (q / 8)
theorem pa_x_at (M : Nat → Nat → Nat) {a b : Nat} (ha : a < 8) : pa_x M (a + 8 * b) = M a b := by
  show M ((a + 8 * b) % 8) ((a + 8 * b) / 8) = M a b
  rw [show (a + 8 * b) % 8 = a by omega, show (a + 8 * b) / 8 = b by omega]
theorem pa_w_w {A : Nat → Int32} {t : Nat} {D : Nat → Bool} {g g' : Nat → Nat} : pa_w (pa_w A t D g) t pa_al g' = pa_w A t pa_al g' := by
  funext j
  by_cases hj : t ≤ j ∧ j < t + 64
  · obtain ⟨q, rfl⟩ : ∃ q, j = t + q := ⟨j - t, by omega⟩
    rw [pa_w_in (by omega) rfl, pa_w_in (by omega) rfl]
  · rw [pa_w_out (by omega), pa_w_out (by omega), pa_w_out (by omega)]
/-- what isn't done stood there already -/
theorem pa_w_f {A : Nat → Int32} {t : Nat} {D : Nat → Bool} {g : Nat → Nat} (h : ∀ q, q < 64 → D q = false → A (t + q) = nI (g q)) : pa_w A t D g = pa_w A t pa_al g := by
  funext j
  by_cases hj : t ≤ j ∧ j < t + 64
  · obtain ⟨q, rfl⟩ : ∃ q, j = t + q := ⟨j - t, by omega⟩
    have hq : q < 64 := by omega
    cases hD : D q with
    | true => rw [pa_w_in hq hD, pa_w_in hq rfl]
    | false => rw [pa_w_no hD, pa_w_in hq rfl, h q hq hD]
  · rw [pa_w_out (by omega), pa_w_out (by omega)]
theorem px_fg_l {post : SX → Prop} {sm ex : Int32} {ed sk sa jo A : Nat → Int32} {t : Nat} (ht : t + 64 ≤ 448) (h : post (sm, ex, ed, sk, sa, pa_w A t pa_al (fun _ => 1000000), jo)) : ∀ n i, i + n = 64 → wX_forgetPaths_2 post (nI t) sm ex (n + 1) (nI i) ed sk sa (pa_w A t (pa_dl i) (fun _ => 1000000)) jo := by
  intro n
  induction n with
  | zero =>
    intro i hi
    obtain rfl : i = 64 := by omega
    refine br_t (nI_le (a := 64) (b := 64) (Nat.le_refl _) (by decide)) ?_
    rw [pa_w_c pa_dl_64]
    exact h
  | succ n ih =>
    intro i hi
    refine br_f (nI_ge (a := i) (b := 64) (by omega) (by decide)) ?_
    refine ⟨pa_in (pa_i1 t i) (by omega) (by decide), ?_⟩
    refine nm_r (pa_w_s (q := i) (by omega) (pa_dl_s i) (pa_cl (pa_i1 t i) (by omega)) rfl) ?_
    exact nm_r (nI_1 i) (ih (i + 1) (by omega))
theorem px_fg {post : SX → Prop} {sm ex : Int32} {ed sk sa jo A : Nat → Int32} {t : Nat} (ht : t + 64 ≤ 448) (h : post (sm, ex, ed, sk, sa, pa_w A t pa_al (fun _ => 1000000), jo)) : wpX_forgetPaths post (sm, ex, ed, sk, sa, A, jo) (nI t) := by
  have z := px_fg_l ht h 64 0 rfl
  rw [pa_w_0 pa_dl_0] at z
  exact ⟨65, z⟩
theorem pa_x_lab {ed : Nat → Int32} {l q : Nat} (hl : l < 3) : pa_x (pa_lab ed (nI l)) q = if ed (l * 64 + q) = 0 then 1000000 else 1 := by
  show (if ed ((nI l).toNatClampNeg * 64 + (q % 8 + 8 * (q / 8))) = 0 then 1000000 else 1) = _
  rw [nI_clamp (by omega), show q % 8 + 8 * (q / 8) = q by omega]
theorem px_lab_l {post : SX → Prop} {sm ex : Int32} {ed sk sa jo A : Nat → Int32} {l t : Nat} (hl : l < 3) (ht : t + 64 ≤ 448) (h : post (sm, ex, ed, sk, sa, pa_w A t pa_al (pa_x (pa_lab ed (nI l))), jo)) : ∀ n i, i + n = 64 → wX_measureLabel_2 post (nI l) (nI t) sm ex (n + 1) (nI i) ed sk sa (pa_w A t (pa_dl i) (pa_x (pa_lab ed (nI l)))) jo := by
  intro n
  induction n with
  | zero =>
    intro i hi
    obtain rfl : i = 64 := by omega
    refine br_t (nI_le (a := 64) (b := 64) (Nat.le_refl _) (by decide)) ?_
    rw [pa_w_c pa_dl_64]
    exact h
  | succ n ih =>
    intro i hi
    refine br_f (nI_ge (a := i) (b := 64) (by omega) (by decide)) ?_
    have ec : (nI l * 64 + nI i).toNatClampNeg = l * 64 + i := pa_cl (pa_i4 l i) (by omega)
    have eg := pa_x_lab (ed := ed) (q := i) hl
    refine ⟨pa_in (pa_i4 l i) (by omega) (by decide), ?_⟩
    by_cases z : ed (l * 64 + i) = 0
    · rw [if_pos z] at eg
      refine br_t (by rw [ec]; exact z) ?_
      refine ⟨pa_in (pa_i1 t i) (by omega) (by decide), ?_⟩
      refine nm_r (pa_w_s (q := i) (by omega) (pa_dl_s i) (pa_cl (pa_i1 t i) (by omega)) (by rw [eg]; rfl)) ?_
      exact nm_r (nI_1 i) (ih (i + 1) (by omega))
    · rw [if_neg z] at eg
      refine br_f (by rw [ec]; exact z) ?_
      refine ⟨pa_in (pa_i1 t i) (by omega) (by decide), ?_⟩
      refine nm_r (pa_w_s (q := i) (by omega) (pa_dl_s i) (pa_cl (pa_i1 t i) (by omega)) (by rw [eg]; rfl)) ?_
      exact nm_r (nI_1 i) (ih (i + 1) (by omega))
theorem px_lab {post : SX → Prop} {sm ex : Int32} {ed sk sa jo A : Nat → Int32} {l t : Nat} (hl : l < 3) (ht : t + 64 ≤ 448) (h : post (sm, ex, ed, sk, sa, pa_w A t pa_al (pa_x (pa_lab ed (nI l))), jo)) : wpX_measureLabel post (sm, ex, ed, sk, sa, A, jo) (nI l) (nI t) := by
  have z := px_lab_l hl ht h 64 0 rfl
  rw [pa_w_0 pa_dl_0] at z
  exact ⟨65, z⟩
theorem pa_x_bck {ed : Nat → Int32} {l a b : Nat} (hl : l < 3) (ha : a < 8) : pa_x (pa_bck ed (nI l)) (a + 8 * b) = if ed (l * 64 + (b + 8 * a)) = 0 then 1000000 else 1 := by
  rw [pa_x_at _ ha]
  show (if ed ((nI l).toNatClampNeg * 64 + (b + 8 * a)) = 0 then 1000000 else 1) = _
  rw [nI_clamp (by omega)]
theorem px_bck_i {post : SX → Prop} {J2 : Int32 → (Nat → Int32) → (Nat → Int32) → (Nat → Int32) → (Nat → Int32) → (Nat → Int32) → Prop} {sm ex : Int32} {ed sk sa jo A : Nat → Int32} {l t a : Nat} (hl : l < 3) (ht : t + 64 ≤ 448) (ha : a < 8) (h : J2 (nI (a + 1)) ed sk sa (pa_w A t (pa_dn (a + 1) 0) (pa_x (pa_bck ed (nI l)))) jo) : ∀ n b, b + n = 8 → wX_measureBack_11 post J2 (nI l) (nI t) (nI a) sm ex (n + 1) (nI b) ed sk sa (pa_w A t (pa_dn a b) (pa_x (pa_bck ed (nI l)))) jo := by
  intro n
  induction n with
  | zero =>
    intro b hb
    obtain rfl : b = 8 := by omega
    refine br_t (nI_le (a := 8) (b := 8) (Nat.le_refl _) (by decide)) ?_
    refine nm_r (nI_1 a) ?_
    rw [pa_w_c (pa_dn_n a)]
    exact h
  | succ n ih =>
    intro b hb
    refine br_f (nI_ge (a := b) (b := 8) (by omega) (by decide)) ?_
    have ec : (nI l * 64 + nI b + 8 * nI a).toNatClampNeg = l * 64 + (b + 8 * a) := pa_cl (pa_i7 l b a 0) (by omega)
    have eg := pa_x_bck (ed := ed) (b := b) hl ha
    refine ⟨pa_in (pa_i7 l b a 0) (by omega) (by decide), ?_⟩
    refine nm_r (congrArg ed ec) ?_
    by_cases z : ed (l * 64 + (b + 8 * a)) = 0
    · rw [if_pos z] at eg
      refine br_t z ?_
      refine ⟨pa_in (pa_i3 t a b) (by omega) (by decide), ?_⟩
      refine nm_r (pa_w_s (q := a + 8 * b) (by omega) (pa_dn_s ha) (pa_cl (pa_i3 t a b) (by omega)) (by rw [eg]; rfl)) ?_
      exact nm_r (nI_1 b) (ih (b + 1) (by omega))
    · rw [if_neg z] at eg
      refine br_f z ?_
      refine ⟨pa_in (pa_i3 t a b) (by omega) (by decide), ?_⟩
      refine nm_r (pa_w_s (q := a + 8 * b) (by omega) (pa_dn_s ha) (pa_cl (pa_i3 t a b) (by omega)) (by rw [eg]; rfl)) ?_
      exact nm_r (nI_1 b) (ih (b + 1) (by omega))
theorem px_bck_l {post : SX → Prop} {sm ex : Int32} {ed sk sa jo A : Nat → Int32} {l t : Nat} (hl : l < 3) (ht : t + 64 ≤ 448) (h : post (sm, ex, ed, sk, sa, pa_w A t pa_al (pa_x (pa_bck ed (nI l))), jo)) : ∀ n a, a + n = 8 → wX_measureBack_2 post (nI l) (nI t) sm ex (n + 1) (nI a) ed sk sa (pa_w A t (pa_dn a 0) (pa_x (pa_bck ed (nI l)))) jo := by
  intro n
  induction n with
  | zero =>
    intro a ha
    obtain rfl : a = 8 := by omega
    refine br_t (nI_le (a := 8) (b := 8) (Nat.le_refl _) (by decide)) ?_
    rw [pa_w_c pa_dn_8]
    exact h
  | succ n ih =>
    intro a ha
    refine br_f (nI_ge (a := a) (b := 8) (by omega) (by decide)) ?_
    exact ⟨9, px_bck_i hl ht (by omega) (ih (a + 1) (by omega)) 8 0 rfl⟩
theorem px_bck {post : SX → Prop} {sm ex : Int32} {ed sk sa jo A : Nat → Int32} {l t : Nat} (hl : l < 3) (ht : t + 64 ≤ 448) (h : post (sm, ex, ed, sk, sa, pa_w A t pa_al (pa_x (pa_bck ed (nI l))), jo)) : wpX_measureBack post (sm, ex, ed, sk, sa, A, jo) (nI l) (nI t) := by
  have z := px_bck_l hl ht h 8 0 rfl
  rw [pa_w_0 pa_dn_0] at z
  exact ⟨9, z⟩
