/-! the reference's tables: 8 * from + to, capped at 100000 -/
def pa_y (M : Nat → Nat → Nat) : Nat → Nat := fun q => min (M (q / 8) (q % 8)) 100000
def pa_Y (B : Nat → Int32) (t : Nat) (M : Nat → Nat → Nat) : Prop := ∀ q, q < 64 → B (t + q) = nI (pa_y M q)
theorem pa_y_at (M : Nat → Nat → Nat) {a b : Nat} (hb : b < 8) : pa_y M (a * 8 + b) = min (M a b) 100000 := by
  show min (M ((a * 8 + b) / 8) ((a * 8 + b) % 8)) 100000 = min (M a b) 100000
  rw [show (a * 8 + b) / 8 = a by omega, show (a * 8 + b) % 8 = b by omega]
theorem pa_y_le (M : Nat → Nat → Nat) (q : Nat) : pa_y M q ≤ 100000 := Nat.min_le_right _ _
theorem py_lst {post : Int32 → Prop} {fm fh : Int32} {ed K R B : Nat → Int32} {x y : Int32} {a b : Nat} (ex : x = nI a) (ey : y = nI b) (ha : a < 2 ^ 31) (hb : b < 2 ^ 31) (h : post (nI (min a b))) : wpY_least post (fm, fh, ed, K, R, B) x y := by
  subst ex ey
  refine pk_le b a (fun z => ?_) (fun z => ?_) rfl rfl hb ha
  · rw [show min a b = b by omega] at h
    exact h
  · rw [show min a b = a by omega] at h
    exact h
/-! a single step's table -/
theorem py_sg_0 {post : Int32 → Prop} {fm fh : Int32} {ed K R B : Nat → Int32} {k : Int32} {l a b : Nat} (hk : k = 0) (hl : l < 3) (ha : a < 8) (hb : b < 8) (h : post (nI (min (pa_lab ed (nI l) a b) 100000))) : wpY_single post (fm, fh, ed, K, R, B) k (nI l) (nI a) (nI b) := by
  subst hk
  have H : ∀ z0, wY_single_21 post 0 (nI l) (nI a) (nI b) z0 fm fh ed K R B := by
    intro z0
    have ec : (nI l * 64 + nI a + 8 * nI b).toNatClampNeg = l * 64 + (a + 8 * b) := pa_cl (pa_i7 l a b 0) (by omega)
    refine br_t rfl ⟨pa_in (pa_i7 l a b 0) (by omega) (by decide), nm_r (congrArg ed ec) ?_⟩
    have e : pa_lab ed (nI l) a b = if ed (l * 64 + (a + 8 * b)) = 0 then 1000000 else 1 := by
      show (if ed ((nI l).toNatClampNeg * 64 + (a + 8 * b)) = 0 then 1000000 else 1) = _
      rw [nI_clamp (by omega)]
    rw [e] at h
    by_cases z : ed (l * 64 + (a + 8 * b)) = 0
    · rw [if_pos z] at h
      exact br_t z h
    · rw [if_neg z] at h
      exact br_f z (br_f (by decide) h)
  exact ⟨fun _ => ⟨fun _ => H 1, fun _ => ⟨fun _ => H 1, fun _ => H 0⟩⟩, fun _ => H 0⟩
theorem py_sg_1 {post : Int32 → Prop} {fm fh : Int32} {ed K R B : Nat → Int32} {k : Int32} {l a b : Nat} (hk : k = 1) (hl : l < 3) (ha : a < 8) (hb : b < 8) (h : post (nI (min (pa_bck ed (nI l) a b) 100000))) : wpY_single post (fm, fh, ed, K, R, B) k (nI l) (nI a) (nI b) := by
  subst hk
  have H : ∀ z0, wY_single_21 post 1 (nI l) (nI a) (nI b) z0 fm fh ed K R B := by
    intro z0
    have ec : (nI l * 64 + nI b + 8 * nI a).toNatClampNeg = l * 64 + (b + 8 * a) := pa_cl (pa_i7 l b a 0) (by omega)
    refine br_f (by decide) (br_t rfl ⟨pa_in (pa_i7 l b a 0) (by omega) (by decide), nm_r (congrArg ed ec) ?_⟩)
    have e : pa_bck ed (nI l) a b = if ed (l * 64 + (b + 8 * a)) = 0 then 1000000 else 1 := by
      show (if ed ((nI l).toNatClampNeg * 64 + (b + 8 * a)) = 0 then 1000000 else 1) = _
      rw [nI_clamp (by omega)]
    rw [e] at h
    by_cases z : ed (l * 64 + (b + 8 * a)) = 0
    · rw [if_pos z] at h
      exact br_t z h
    · rw [if_neg z] at h
      exact br_f z (br_f (by decide) h)
  exact ⟨fun _ => ⟨fun _ => H 1, fun _ => ⟨fun _ => H 1, fun _ => H 0⟩⟩, fun _ => H 0⟩
theorem py_sg_2 {post : Int32 → Prop} {fm fh : Int32} {ed K R B : Nat → Int32} {k r : Int32} {a b : Nat} (hk : k = 2) (ha : a < 8) (hb : b < 8) (h : post (nI (min (pa_atm r a b) 100000))) : wpY_single post (fm, fh, ed, K, R, B) k r (nI a) (nI b) := by
  subst hk
  have e : pa_atm r a b = if a = b ∧ (r = -1 ∨ r = nI a) then 0 else 1000000 := rfl
  rw [e] at h
  have H1 : a = b → (r = -1 ∨ r = nI a) → wY_single_16 post 2 r (nI a) (nI b) fm fh ed K R B := by
    intro z1 z2
    rw [if_pos ⟨z1, z2⟩] at h
    exact br_f (by decide) (br_f (by decide) (br_f (by decide) (br_t rfl h)))
  have H0 : ¬ (a = b ∧ (r = -1 ∨ r = nI a)) → wY_single_20 post 2 r (nI a) (nI b) fm fh ed K R B := by
    intro z
    rw [if_neg z] at h
    exact br_f (by decide) (br_f (by decide) (br_t rfl h))
  have c := nI_eq (a := a) (b := b) (by omega) (by omega)
  exact ⟨fun z => ⟨fun y => H1 (c.mp z) (Or.inl y), fun y => ⟨fun x => H1 (c.mp z) (Or.inr x), fun x => H0 (fun w => w.2.elim y x)⟩⟩, fun z => H0 (fun w => z (c.mpr w.1))⟩
theorem py_new_l {post : Int32 → SY → Prop} {J4 : Int32 → Int32 → Int32 → Int32 → (Nat → Int32) → (Nat → Int32) → (Nat → Int32) → (Nat → Int32) → Prop} {fm fh : Int32} {ed K R B : Nat → Int32} {e i : Nat} {M : Nat → Nat → Nat} (he : e < 6) (hi : i < 14) (hM : ∀ (p : Int32 → Prop) (B' : Nat → Int32) (a b : Nat), a < 8 → b < 8 → p (nI (min (M a b) 100000)) → wpY_single p (fm, fh, ed, K, R, B') (K i) (R i) (nI a) (nI b)) (h : J4 (nI e) (nI (i + 1)) fm fh ed K R (pa_w B (e * 64) pa_al (pa_y M))) : ∀ n p, p + n = 64 → wY_workOut_27 post J4 (nI e) (nI i) fm fh (n + 1) (nI p) ed K R (pa_w B (e * 64) (pa_dl p) (pa_y M)) := by
  intro n
  induction n with
  | zero =>
    intro p hp
    obtain rfl : p = 64 := by omega
    refine br_t (nI_le (a := 64) (b := 64) (Nat.le_refl _) (by decide)) ?_
    rw [pa_w_c pa_dl_64]
    exact nm_r (nI_1 i) h
  | succ n ih =>
    intro p hp
    refine br_f (nI_ge (a := p) (b := 64) (by omega) (by decide)) ?_
    have hin : vp_in (nI i) 14 := vp_in_nI (by omega) (by decide)
    refine ⟨hin, hin, by decide, by decide, ?_⟩
    rw [pa_rm (by omega : p < 64), pa_dv (by omega : p < 64), nI_clamp (by omega : i < 2 ^ 31)]
    refine hM _ _ (p / 8) (p % 8) (by omega) (by omega) ?_
    have e1 := pa_i4 e p
    refine ⟨pa_in e1 (by omega) (by decide), ?_⟩
    refine nm_r (pa_w_s (q := p) (by omega) (pa_dl_s p) (pa_cl e1 (by omega)) rfl) ?_
    exact nm_r (nI_1 p) (ih (p + 1) (by omega))
/-! or -/
theorem py_orr_l {post : Int32 → SY → Prop} {J4 : Int32 → Int32 → Int32 → Int32 → (Nat → Int32) → (Nat → Int32) → (Nat → Int32) → (Nat → Int32) → Prop} {fm fh : Int32} {ed K R B : Nat → Int32} {e i : Nat} {M N : Nat → Nat → Nat} (he : e < 5) (hM : pa_Y B (e * 64) M) (hN : pa_Y B ((e + 1) * 64) N) (h : J4 (nI e) (nI (i + 1)) fm fh ed K R (pa_w B (e * 64) pa_al (pa_y (pa_orr M N)))) : ∀ n p, p + n = 64 → wY_workOut_113 post J4 (nI e) (nI i) fm fh (n + 1) (nI p) ed K R (pa_w B (e * 64) (pa_dl p) (pa_y (pa_orr M N))) := by
  intro n
  induction n with
  | zero =>
    intro p hp
    obtain rfl : p = 64 := by omega
    refine br_t (nI_le (a := 64) (b := 64) (Nat.le_refl _) (by decide)) ?_
    rw [pa_w_c pa_dl_64]
    exact nm_r (nI_1 i) h
  | succ n ih =>
    intro p hp
    refine br_f (nI_ge (a := p) (b := 64) (by omega) (by decide)) ?_
    have e1 := pa_i4 e p
    have e2 := pa_i5 e p
    have i1 : vp_in (nI e * 64 + nI p) 448 := pa_in e1 (by omega) (by decide)
    refine ⟨i1, pa_in e2 (by omega) (by decide), ?_⟩
    have v1 : pa_w B (e * 64) (pa_dl p) (pa_y (pa_orr M N)) (nI e * 64 + nI p).toNatClampNeg = nI (pa_y M p) := by
      rw [pa_cl e1 (by omega), pa_w_no (decide_eq_false (by omega)), hM p (by omega)]
    have v2 : pa_w B (e * 64) (pa_dl p) (pa_y (pa_orr M N)) (nI e * 64 + 64 + nI p).toNatClampNeg = nI (pa_y N p) := by
      rw [pa_cl e2 (by omega), pa_w_out (by omega), hN p (by omega)]
    have b1 := pa_y_le M p
    have b2 := pa_y_le N p
    refine py_lst v1 v2 (by omega) (by omega) ⟨i1, ?_⟩
    refine nm_r (pa_w_s (q := p) (by omega) (pa_dl_s p) (pa_cl e1 (by omega)) ?_) ?_
    · refine congrArg nI ?_
      show min (min (M (p / 8) (p % 8)) 100000) (min (N (p / 8) (p % 8)) 100000) = min (min (M (p / 8) (p % 8)) (N (p / 8) (p % 8))) 100000
      omega
    · exact nm_r (nI_1 p) (ih (p + 1) (by omega))
/-! then -/
theorem py_thn_c {post : SY → Prop} {fm fh : Int32} {ed K R B : Nat → Int32} {e : Nat} {g : Nat → Nat} (he : e < 5) (hB : ∀ q, q < 64 → B ((e + 2) * 64 + q) = nI (g q)) (h : post (fm, fh, ed, K, R, pa_w B (e * 64) pa_al g)) : ∀ n p, p + n = 64 → wY_join_109 post (nI e) fm fh (n + 1) (nI p) ed K R (pa_w B (e * 64) (pa_dl p) g) := by
  intro n
  induction n with
  | zero =>
    intro p hp
    obtain rfl : p = 64 := by omega
    refine br_t (nI_le (a := 64) (b := 64) (Nat.le_refl _) (by decide)) ?_
    rw [pa_w_c pa_dl_64]
    exact h
  | succ n ih =>
    intro p hp
    refine br_f (nI_ge (a := p) (b := 64) (by omega) (by decide)) ?_
    have e1 := pa_i4 e p
    have e2 := pa_i6 e p
    refine ⟨pa_in e2 (by omega) (by decide), pa_in e1 (by omega) (by decide), ?_⟩
    refine nm_r (pa_w_s (q := p) (by omega) (pa_dl_s p) (pa_cl e1 (by omega)) ?_) ?_
    · rw [pa_cl e2 (by omega), pa_w_out (by omega), hB p (by omega)]
    · exact nm_r (nI_1 p) (ih (p + 1) (by omega))
theorem py_thn_i {post : SY → Prop} {J2 : Int32 → (Nat → Int32) → (Nat → Int32) → (Nat → Int32) → (Nat → Int32) → Prop} {fm fh : Int32} {ed K R B : Nat → Int32} {e p : Nat} {M N : Nat → Nat → Nat} (he : e < 5) (hp : p < 64) (hM : pa_Y B (e * 64) M) (hN : pa_Y B ((e + 1) * 64) N) (h : J2 (nI (p + 1)) ed K R (upd B ((e + 2) * 64 + p) (nI (pa_y (pa_thn M N) p)))) : ∀ n m, m + n = 8 → wY_join_14 post J2 (nI e) (nI p) fm fh ed K R B (n + 1) (nI (min (pa_jn M N (p / 8) (p % 8) m) 100000)) (nI m) := by
  intro n
  induction n with
  | zero =>
    intro m hm
    obtain rfl : m = 8 := by omega
    refine br_t (nI_le (a := 8) (b := 8) (Nat.le_refl _) (by decide)) ?_
    have e1 := pa_i6 e p
    refine ⟨pa_in e1 (by omega) (by decide), ?_⟩
    rw [pa_cl e1 (by omega)]
    exact nm_e (nm_r (nI_1 p) h)
  | succ n ih =>
    intro m hm
    refine br_f (nI_ge (a := m) (b := 8) (by omega) (by decide)) ?_
    have e1 := pa_i8 (l := e) (m := m) hp
    have e2 := pa_i9 (l := e) (m := m) hp
    have v1 : B (nI e * 64 + nI p / 8 * 8 + nI m).toNatClampNeg = nI (min (M (p / 8) m) 100000) := by
      rw [pa_cl e1 (by omega), hM _ (by omega), pa_y_at _ (by omega)]
    have v2 : B (nI e * 64 + 64 + nI m * 8 + (nI p - nI p / 8 * 8)).toNatClampNeg = nI (min (N m (p % 8)) 100000) := by
      rw [pa_cl e2 (by omega), hN _ (by omega), pa_y_at _ (by omega)]
    refine ⟨by decide, pa_in e1 (by omega) (by decide), nm_r v1 ⟨by decide, pa_in e2 (by omega) (by decide), nm_r v2 ?_⟩⟩
    refine py_lst rfl (nI_add _ _) (by omega) (by omega) ?_
    have q := ih (m + 1) (by omega)
    have ej : pa_jn M N (p / 8) (p % 8) (m + 1) = min (pa_jn M N (p / 8) (p % 8) m) (M (p / 8) m + N m (p % 8)) := rfl
    rw [show min (pa_jn M N (p / 8) (p % 8) (m + 1)) 100000 = min (min (pa_jn M N (p / 8) (p % 8) m) 100000) (min (M (p / 8) m) 100000 + min (N m (p % 8)) 100000) by omega] at q
    exact nm_r (nI_1 m) q
theorem py_thn_l {post : SY → Prop} {fm fh : Int32} {ed K R B : Nat → Int32} {e : Nat} {M N : Nat → Nat → Nat} (he : e < 5) (hM : pa_Y B (e * 64) M) (hN : pa_Y B ((e + 1) * 64) N) (h : post (fm, fh, ed, K, R, pa_w (pa_w B ((e + 2) * 64) pa_al (pa_y (pa_thn M N))) (e * 64) pa_al (pa_y (pa_thn M N)))) : ∀ n p, p + n = 64 → wY_join_2 post (nI e) fm fh (n + 1) (nI p) ed K R (pa_w B ((e + 2) * 64) (pa_dl p) (pa_y (pa_thn M N))) := by
  intro n
  induction n with
  | zero =>
    intro p hp
    obtain rfl : p = 64 := by omega
    refine br_t (nI_le (a := 64) (b := 64) (Nat.le_refl _) (by decide)) ?_
    rw [pa_w_c pa_dl_64]
    have z := py_thn_c (B := pa_w B ((e + 2) * 64) pa_al (pa_y (pa_thn M N))) he (fun q hq => pa_w_in hq rfl) h 64 0 rfl
    rw [pa_w_0 pa_dl_0] at z
    exact ⟨65, z⟩
  | succ n ih =>
    intro p hp
    refine br_f (nI_ge (a := p) (b := 64) (by omega) (by decide)) ?_
    refine ⟨9, py_thn_i he (by omega) (M := M) (N := N) (fun q hq => ?_) (fun q hq => ?_) ?_ 8 0 rfl⟩
    · rw [pa_w_out (by omega)]; exact hM q hq
    · rw [pa_w_out (by omega)]; exact hN q hq
    · rw [pa_w_s (q := p) (by omega) (pa_dl_s p) rfl rfl]
      exact ih (p + 1) (by omega)
theorem py_thn {post : SY → Prop} {fm fh : Int32} {ed K R B : Nat → Int32} {e : Nat} {M N : Nat → Nat → Nat} (he : e < 5) (hM : pa_Y B (e * 64) M) (hN : pa_Y B ((e + 1) * 64) N) (h : post (fm, fh, ed, K, R, pa_w (pa_w B ((e + 2) * 64) pa_al (pa_y (pa_thn M N))) (e * 64) pa_al (pa_y (pa_thn M N)))) : wpY_join post (fm, fh, ed, K, R, B) (nI e) := by
  have z := py_thn_l he hM hN h 64 0 rfl
  rw [pa_w_0 pa_dl_0] at z
  exact ⟨65, z⟩
