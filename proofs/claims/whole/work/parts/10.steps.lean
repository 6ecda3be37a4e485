theorem pk_ix (x : Int32) {n : Nat} (hn : n < 2 ^ 31) : x < 0 ∨ nI n ≤ x ∨ ∃ j : Nat, j < n ∧ x = nI j := by
  by_cases h : x < 0
  · exact Or.inl h
  · obtain ⟨j, hj, rfl⟩ := nI_of h
    by_cases h2 : j < n
    · exact Or.inr (Or.inr ⟨j, h2, rfl⟩)
    · exact Or.inr (Or.inl (nI_le (by omega) hj))
/-! what is let in and what isn't -/
theorem pa_ge {x : Int32} {n : Nat} (hn : n + 1 < 2 ^ 31) (h : nI (n + 1) ≤ x) : ¬ x < 0 ∧ ¬ x ≤ nI n ∧ ¬ x < nI (n + 1) := by
  rw [Int32.le_iff_toInt_le, nI_toInt hn] at h
  have h0 : (0 : Int32).toInt = 0 := by decide
  refine ⟨fun z => ?_, fun z => ?_, fun z => ?_⟩
  · rw [Int32.lt_iff_toInt_lt, h0] at z
    omega
  · rw [Int32.le_iff_toInt_le, nI_toInt (by omega)] at z
    omega
  · rw [Int32.lt_iff_toInt_lt, nI_toInt hn] at z
    omega
theorem px_isL_n {post : Int32 → Prop} {x : Int32} (hx : x < 0 ∨ nI 3 ≤ x) (h : post 0) : wpX_isLabel post x := by
  rcases hx with z | z
  · exact br_t z h
  · exact br_f (pa_ge (n := 2) (by decide) z).1 (br_t z h)
theorem px_isL_y {post : Int32 → Prop} {l : Nat} (hl : l < 3) (h : post 1) : wpX_isLabel post (nI l) :=
  br_f (nI_pos (by omega)) (br_f (nI_ge (b := 3) hl (by decide)) h)
theorem px_isN_n {post : Int32 → Prop} {x : Int32} (hx : x < 0 ∨ nI 8 ≤ x) (h : post 0) : wpX_isNode post x := by
  rcases hx with z | z
  · exact br_t z h
  · exact br_f (pa_ge (n := 7) (by decide) z).1 (br_t z h)
theorem px_isN_y {post : Int32 → Prop} {a : Nat} (ha : a < 8) (h : post 1) : wpX_isNode post (nI a) :=
  br_f (nI_pos (by omega)) (br_f (nI_ge (b := 8) ha (by decide)) h)
theorem py_bad_y {post : Int32 → Prop} {fm fh : Int32} {ed K R B : Nat → Int32} {x : Int32} (hx : x < 0 ∨ nI 8 ≤ x) (h : post 1) : wpY_bad post (fm, fh, ed, K, R, B) x := by
  rcases hx with z | z
  · exact br_t z h
  · exact br_f (pa_ge (n := 7) (by decide) z).1 (br_f (pa_ge (n := 7) (by decide) z).2.1 h)
theorem py_bad_n {post : Int32 → Prop} {fm fh : Int32} {ed K R B : Nat → Int32} {a : Nat} (ha : a < 8) (h : post 0) : wpY_bad post (fm, fh, ed, K, R, B) (nI a) :=
  br_f (nI_pos (by omega)) (br_t (nI_le (b := 7) (by omega) (by decide)) h)
theorem pa_lb (x : Int32) : (x < 0 ∨ nI 3 ≤ x) ∨ ∃ l, l < 3 ∧ x = nI l := by
  rcases pk_ix x (n := 3) (by decide) with z | z | z
  · exact Or.inl (Or.inl z)
  · exact Or.inl (Or.inr z)
  · exact Or.inr z
theorem pa_nd (x : Int32) : (x < 0 ∨ nI 8 ≤ x) ∨ ∃ a, a < 8 ∧ x = nI a := by
  rcases pk_ix x (n := 8) (by decide) with z | z | z
  · exact Or.inl (Or.inl z)
  · exact Or.inl (Or.inr z)
  · exact Or.inr z
/-- the two hold the same edges and the same steps, each let in on its stack; the tables are work room -/
def pa_Rel (u : SX) (v : SY) : Prop := ∃ (m : Nat) (ed K R A jo B : Nat → Int32), m ≤ 14 ∧ (∀ i, i < m → pa_ok (K i) (R i) (pa_d K i)) ∧ u = (nI m, nI (pa_d K m), ed, K, R, A, jo) ∧ v = (nI m, nI (pa_d K m), ed, K, R, B)
theorem pa_d_u {K : Nat → Int32} {m : Nat} {k : Int32} : ∀ i, i ≤ m → pa_d (upd K m k) i = pa_d K i := by
  intro i
  induction i with
  | zero => intro _; rfl
  | succ i ih =>
    intro h
    show pa_dep (upd K m k i) (pa_d (upd K m k) i) = pa_dep (K i) (pa_d K i)
    rw [pk_un (by omega), ih (by omega)]
theorem pa_tk {d t : Nat} (ht : t ≤ 2) (h : t ≤ d) : nI d + (1 - nI t) = nI (d + 1 - t) := by
  rcases (by omega : t = 0 ∨ t = 1 ∨ t = 2) with z | z | z
  · subst z
    rw [show (1 : Int32) - nI 0 = 1 by decide, nI_1]
    rfl
  · subst z
    rw [show (1 : Int32) - nI 1 = 0 by decide, Int32.add_zero]
    rfl
  · subst z
    obtain ⟨e, rfl⟩ : ∃ e, d = e + 1 := ⟨d - 1, by omega⟩
    rw [show (1 : Int32) - nI 2 = -1 by decide, pk_m1]
    rfl
theorem pa_tk' {d t : Nat} (h : t ≤ d) : nI d - nI t + 1 = nI (d + 1 - t) := by
  rw [pk_sub h, nI_1]
  exact congrArg nI (by omega)
theorem pa_add {m t : Nat} {kk rr : Int32} {ed K R A jo B : Nat → Int32} (hm : m ≤ 14) (hok : ∀ i, i < m → pa_ok (K i) (R i) (pa_d K i)) (ht : t ≤ 2) (hk : ∀ d, t ≤ d → (t = 0 → d < 6) → pa_ok kk rr d ∧ pa_dep kk d = d + 1 - t) : ∃ r u' v', pa_Rel u' v' ∧ (∀ P : Int32 → SX → Prop, P r u' → wpX_addStep P (nI m, nI (pa_d K m), ed, K, R, A, jo) kk rr (nI t)) ∧ (∀ P : Int32 → SY → Prop, P r v' → wpY_step P (nI m, nI (pa_d K m), ed, K, R, B) kk rr (nI t)) := by
  have hd := pa_d_le hok m (Nat.le_refl m)
  have I : pa_Rel (nI m, nI (pa_d K m), ed, K, R, A, jo) (nI m, nI (pa_d K m), ed, K, R, B) := ⟨m, ed, K, R, A, jo, B, hm, hok, rfl, rfl⟩
  by_cases c1 : m = 14
  · refine ⟨-3, _, _, I, fun P h => ?_, fun P h => ?_⟩
    · exact br_f (nI_nlt (b := 14) (by omega) (by omega)) h
    · exact br_t (by rw [c1]; rfl) h
  have x1 : nI m < 14 := nI_lt (b := 14) (by omega) (by decide)
  have y1 : ¬ nI m = 14 := fun z => c1 ((nI_eq (b := 14) (by omega) (by decide)).mp z)
  by_cases c2 : t = 0 ∧ pa_d K m = 6
  · refine ⟨-3, _, _, I, fun P h => ?_, fun P h => ?_⟩
    · exact br_t x1 (br_t (by rw [c2.1]; rfl) (br_f (nI_nlt (b := 6) (by omega) (by omega)) h))
    · exact br_f y1 (br_t (by rw [c2.1]; rfl) (br_t (by rw [c2.2]; rfl) h))
  -- past both refusals, whatever the step takes
  have X : ∀ P : Int32 → SX → Prop, wX_addStep_28 P kk rr (nI t) (nI m) (nI (pa_d K m)) ed K R A jo → wpX_addStep P (nI m, nI (pa_d K m), ed, K, R, A, jo) kk rr (nI t) := by
    intro P h
    refine br_t x1 (br_c (fun z => ?_) (fun _ => h))
    have z' : t = 0 := (nI_eq (b := 0) (by omega) (by decide)).mp z
    exact br_t (nI_lt (b := 6) (by omega) (by decide)) h
  have Y : ∀ P : Int32 → SY → Prop, wY_step_25 P kk rr (nI t) (nI m) (nI (pa_d K m)) ed K R B → wpY_step P (nI m, nI (pa_d K m), ed, K, R, B) kk rr (nI t) := by
    intro P h
    refine br_f y1 (br_c (fun z => ?_) (fun _ => h))
    have z' : t = 0 := (nI_eq (b := 0) (by omega) (by decide)).mp z
    exact br_f (fun y => c2 ⟨z', (nI_eq (b := 6) (by omega) (by decide)).mp y⟩) h
  by_cases c3 : t ≤ pa_d K m
  · have q := hk (pa_d K m) c3 (fun z => by omega)
    have hin : vp_in (nI m) 14 := vp_in_nI (by omega) (by decide)
    have cm : (nI m).toNatClampNeg = m := nI_clamp (by omega)
    have hl : nI t ≤ nI (pa_d K m) := nI_le c3 (by omega)
    have e : pa_d (upd K m kk) (m + 1) = pa_d K m + 1 - t := by
      show pa_dep (upd K m kk m) (pa_d (upd K m kk) m) = _
      rw [pk_us, pa_d_u m (Nat.le_refl m), q.2]
    refine ⟨nI (pa_d K m + 1 - t), _, _, ⟨m + 1, ed, upd K m kk, upd R m rr, A, jo, B, by omega, fun i hi => ?_, rfl, rfl⟩, fun P h => X P ?_, fun P h => Y P ?_⟩
    · rw [pa_d_u i (by omega)]
      by_cases z : i = m
      · subst z
        rw [pk_us, pk_us]
        exact q.1
      · rw [pk_un z, pk_un z]
        exact hok i (by omega)
    · rw [e] at h
      exact br_t hl ⟨hin, nm_r (by rw [cm]) ⟨hin, nm_r (by rw [cm]) (nm_r (nI_1 m) (nm_r (pa_tk ht c3) h))⟩⟩
    · rw [e] at h
      exact br_t hl ⟨hin, nm_r (by rw [cm]) ⟨hin, nm_r (by rw [cm]) (nm_r (nI_1 m) (nm_r (pa_tk' c3) h))⟩⟩
  · have hl : ¬ nI t ≤ nI (pa_d K m) := nI_ge (by omega) (by omega)
    exact ⟨-4, _, _, I, fun P h => X P (br_f hl h), fun P h => Y P (br_f hl h)⟩
/-- what both sides find, when asked -/
theorem pa_ask {ed K R : Nat → Int32} {m : Nat} (hm : m ≤ 14) (hok : ∀ i, i < m → pa_ok (K i) (R i) (pa_d K i)) : pa_R (pa_T (pa_S ed K R m) (pa_d K m)) ∧ pa_d K m ≤ 6 :=
  ⟨pa_T_far hm (pa_V_run hm hok m (Nat.le_refl m)), pa_d_le hok m (Nat.le_refl m)⟩
