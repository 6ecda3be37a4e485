/-! star -/
theorem pa_Y_l {B : Nat → Int32} {t m : Nat} {T : Nat → Nat → Nat} (D : Nat → Bool) (hT : pa_Y B t T) {a : Nat} (ha : a < 8) (hm : m < 8) : pa_w B t D (pa_y (pa_rd T m)) (t + (a * 8 + m)) = nI (min (T a m) 100000) := by
  cases hD : D (a * 8 + m) with
  | true => rw [pa_w_in (by omega) hD, pa_y_at _ hm, pa_rd_l]
  | false => rw [pa_w_no hD, hT _ (by omega), pa_y_at _ hm]
theorem pa_Y_r {B : Nat → Int32} {t m : Nat} {T : Nat → Nat → Nat} (D : Nat → Bool) (hT : pa_Y B t T) {b : Nat} (hm : m < 8) (hb : b < 8) : pa_w B t D (pa_y (pa_rd T m)) (t + (m * 8 + b)) = nI (min (T m b) 100000) := by
  cases hD : D (m * 8 + b) with
  | true => rw [pa_w_in (by omega) hD, pa_y_at _ hb, pa_rd_r]
  | false => rw [pa_w_no hD, hT _ (by omega), pa_y_at _ hb]
theorem py_cls_i {post : SY → Prop} {J31 : Int32 → (Nat → Int32) → (Nat → Int32) → (Nat → Int32) → (Nat → Int32) → Prop} {fm fh : Int32} {ed K R B : Nat → Int32} {e m : Nat} {T : Nat → Nat → Nat} (he : e < 6) (hm : m < 8) (hT : pa_Y B (e * 64) T) (h : J31 (nI (m + 1)) ed K R (pa_w B (e * 64) pa_al (pa_y (pa_rd T m)))) : ∀ n p, p + n = 64 → wY_close_39 post J31 (nI e) (nI m) fm fh (n + 1) (nI p) ed K R (pa_w B (e * 64) (pa_dl p) (pa_y (pa_rd T m))) := by
  intro n
  induction n with
  | zero =>
    intro p hp
    obtain rfl : p = 64 := by omega
    refine br_t (nI_le (a := 64) (b := 64) (Nat.le_refl _) (by decide)) ?_
    rw [pa_w_c pa_dl_64]
    exact nm_r (nI_1 m) h
  | succ n ih =>
    intro p hp
    have hp64 : p < 64 := by omega
    refine br_f (nI_ge (a := p) (b := 64) (by omega) (by decide)) ?_
    have e1 := pa_i8 (l := e) (m := m) hp64
    have e2 := pa_ia (l := e) (m := m) hp64
    have e3 := pa_i4 e p
    have i3 : vp_in (nI e * 64 + nI p) 448 := pa_in e3 (by omega) (by decide)
    have v1 : pa_w B (e * 64) (pa_dl p) (pa_y (pa_rd T m)) (nI e * 64 + nI p / 8 * 8 + nI m).toNatClampNeg = nI (min (T (p / 8) m) 100000) := by
      rw [pa_cl e1 (by omega), pa_Y_l _ hT (by omega) hm]
    have v2 : pa_w B (e * 64) (pa_dl p) (pa_y (pa_rd T m)) (nI e * 64 + nI m * 8 + (nI p - nI p / 8 * 8)).toNatClampNeg = nI (min (T m (p % 8)) 100000) := by
      rw [pa_cl e2 (by omega), pa_Y_r _ hT hm (by omega)]
    have v3 : pa_w B (e * 64) (pa_dl p) (pa_y (pa_rd T m)) (nI e * 64 + nI p).toNatClampNeg = nI (pa_y T p) := by
      rw [pa_cl e3 (by omega), pa_w_no (decide_eq_false (by omega)), hT p hp64]
    have b3 := pa_y_le T p
    refine ⟨by decide, pa_in e1 (by omega) (by decide), nm_r v1 ⟨by decide, pa_in e2 (by omega) (by decide), nm_r v2 ⟨i3, ?_⟩⟩⟩
    refine py_lst v3 (nI_add _ _) (by omega) (by omega) ⟨i3, ?_⟩
    refine nm_r (pa_w_s (q := p) hp64 (pa_dl_s p) (pa_cl e3 (by omega)) ?_) ?_
    · refine congrArg nI ?_
      show min (min (T (p / 8) (p % 8)) 100000) (min (T (p / 8) m) 100000 + min (T m (p % 8)) 100000) = min (min (T (p / 8) (p % 8)) (T (p / 8) m + T m (p % 8))) 100000
      omega
    · exact nm_r (nI_1 p) (ih (p + 1) (by omega))
theorem py_cls_r {post : SY → Prop} {fm fh : Int32} {ed K R B : Nat → Int32} {e : Nat} {T : Nat → Nat → Nat} (he : e < 6) (h : post (fm, fh, ed, K, R, pa_w B (e * 64) pa_al (pa_y (pa_st T 8)))) : ∀ n m, m + n = 8 → wY_close_31 post (nI e) fm fh (n + 1) (nI m) ed K R (pa_w B (e * 64) pa_al (pa_y (pa_st T m))) := by
  intro n
  induction n with
  | zero =>
    intro m hm
    obtain rfl : m = 8 := by omega
    exact br_t (nI_le (a := 8) (b := 8) (Nat.le_refl _) (by decide)) h
  | succ n ih =>
    intro m hm
    refine br_f (nI_ge (a := m) (b := 8) (by omega) (by decide)) ?_
    have z := py_cls_i (post := post) (J31 := wY_close_31 post (nI e) fm fh (n + 1)) (fm := fm) (fh := fh) (ed := ed) (K := K) (R := R) (B := pa_w B (e * 64) pa_al (pa_y (pa_st T m))) (T := pa_st T m) (m := m) he (by omega) (fun q hq => pa_w_in hq rfl) (by rw [pa_w_w]; exact ih (m + 1) (by omega)) 64 0 rfl
    rw [pa_w_0 pa_dl_0] at z
    exact ⟨65, z⟩
theorem py_cls_l {post : SY → Prop} {fm fh : Int32} {ed K R B : Nat → Int32} {e : Nat} {T : Nat → Nat → Nat} (he : e < 6) (hT : pa_Y B (e * 64) T) (h : post (fm, fh, ed, K, R, pa_w B (e * 64) pa_al (pa_y (pa_st T 8)))) : ∀ n i, i + n = 8 → wY_close_2 post (nI e) fm fh (n + 1) (nI i) ed K R (pa_w B (e * 64) (pa_dd i) (pa_y (pa_st T 0))) := by
  intro n
  induction n with
  | zero =>
    intro i hi
    obtain rfl : i = 8 := by omega
    refine br_t (nI_le (a := 8) (b := 8) (Nat.le_refl _) (by decide)) ?_
    rw [pa_w_f (D := pa_dd 8)]
    · exact ⟨9, py_cls_r he h 8 0 rfl⟩
    · intro q hq hD
      rw [hT q hq]
      refine congrArg nI ?_
      show min (T (q / 8) (q % 8)) 100000 = min (if q / 8 = q % 8 then 0 else T (q / 8) (q % 8)) 100000
      rw [if_neg]
      intro z
      have := of_decide_eq_false hD
      omega
  | succ n ih =>
    intro i hi
    refine br_f (nI_ge (a := i) (b := 8) (by omega) (by decide)) ?_
    have e1 := pa_ib e i
    refine ⟨pa_in e1 (by omega) (by decide), ?_⟩
    refine nm_r (pa_w_s (q := i * 9) (by omega) (pa_dd_s i) (pa_cl e1 (by omega)) ?_) ?_
    · rw [show i * 9 = i * 8 + i by omega, pa_y_at _ (by omega : i < 8), pa_st_d]
      rfl
    · exact nm_r (nI_1 i) (ih (i + 1) (by omega))
theorem py_cls {post : SY → Prop} {fm fh : Int32} {ed K R B : Nat → Int32} {x : Int32} {e : Nat} {T : Nat → Nat → Nat} (hx : x = nI e) (he : e < 6) (hT : pa_Y B (e * 64) T) (h : post (fm, fh, ed, K, R, pa_w B (e * 64) pa_al (pa_y (pa_st T 8)))) : wpY_close post (fm, fh, ed, K, R, B) x := by
  subst hx
  have z := py_cls_l he hT h 8 0 rfl
  rw [pa_w_0 pa_dd_0] at z
  exact ⟨9, z⟩
/-! all steps -/
def pa_YP (B : Nat → Int32) (d : Nat) (S : Nat → Nat → Nat → Nat) : Prop := ∀ l, l < d → pa_Y B (l * 64) (S l)
theorem pa_YP_put {B : Nat → Int32} {d e : Nat} {S : Nat → Nat → Nat → Nat} {M : Nat → Nat → Nat} (h : pa_YP B d S) (he : e ≤ d) : pa_YP (pa_w B (e * 64) pa_al (pa_y M)) (e + 1) (pa_put S e M) := by
  intro l hl q hq
  by_cases z : l = e
  · subst z
    rw [pa_put_s]
    exact pa_w_in hq rfl
  · rw [pa_put_n z, pa_w_out (by omega)]
    exact h l (by omega) q hq
theorem pa_YP_up {B : Nat → Int32} {d t : Nat} {S : Nat → Nat → Nat → Nat} {D : Nat → Bool} {g : Nat → Nat} (h : pa_YP B d S) (ht : d * 64 ≤ t) : pa_YP (pa_w B t D g) d S := by
  intro l hl q hq
  rw [pa_w_out (by omega)]
  exact h l hl q hq
theorem pa_lv (d : Nat) : nI d + (-1) + 1 = nI d := by
  rw [Int32.add_assoc, show (-1 : Int32) + 1 = 0 from rfl, Int32.add_zero]
theorem py_top_l {post : Int32 → SY → Prop} {fh : Int32} {ed K R : Nat → Int32} {m : Nat} (hm : m ≤ 14) (hok : ∀ i, i < m → pa_ok (K i) (R i) (pa_d K i)) (h : ∀ B', pa_YP B' (pa_d K m) (pa_S ed K R m) → post (nI (pa_d K m) + (-1)) (nI m, fh, ed, K, R, B')) : ∀ n i B, i + n = m → pa_YP B (pa_d K i) (pa_S ed K R i) → wY_workOut_4 post (n + 1) (nI (pa_d K i) + (-1)) (nI i) (nI m) fh ed K R B := by
  intro n
  induction n with
  | zero =>
    intro i B hi hY
    obtain rfl : i = m := by omega
    exact br_t (nI_le (Nat.le_refl _) (by omega)) (h B hY)
  | succ n ih =>
    intro i B hi hY
    refine br_f (nI_ge (by omega) (by omega)) ?_
    have hin : vp_in (nI i) 14 := vp_in_nI (by omega) (by decide)
    have ec : K (nI i).toNatClampNeg = K i := congrArg K (nI_clamp (by omega))
    have hd6 := pa_d_le hok i (by omega)
    have ih' := fun B' => ih (i + 1) B' (by omega)
    have ed' : pa_d K (i + 1) = pa_dep (K i) (pa_d K i) := rfl
    have eS' : pa_S ed K R (i + 1) = pa_stp ed (K i) (R i) (pa_d K i) (pa_S ed K R i) := rfl
    rw [ed', eS'] at ih'
    have hk0 := hok i (by omega)
    generalize pa_d K i = d at ih' hY hd6 hk0 ⊢
    generalize pa_S ed K R i = S at ih' hY ⊢
    refine ⟨hin, ?_⟩
    rcases hk0 with ⟨hk, ⟨l, hl, hr⟩, hd⟩ | ⟨hk, ⟨l, hl, hr⟩, hd⟩ | ⟨hk, _, hd⟩ | ⟨hk, h2⟩ | ⟨hk, h2⟩ | ⟨hk, h1⟩
    · rw [hk, pa_stp_0, pa_dep_0, pk_m1] at ih'
      refine br_f (by rw [ec, hk]; decide) (nm_r (pa_lv d) ?_)
      have z := py_new_l (post := post) (J4 := wY_workOut_4 post (n + 1)) (fm := nI m) (fh := fh) (ed := ed) (K := K) (R := R) (B := B) (i := i) (M := pa_lab ed (R i)) hd (by omega) (fun p B' a b ha hb hp => by rw [hr] at hp ⊢; exact py_sg_0 hk hl ha hb hp) (ih' _ (pa_YP_put hY (Nat.le_refl d))) 64 0 rfl
      rw [pa_w_0 pa_dl_0] at z
      exact ⟨65, z⟩
    · rw [hk, pa_stp_1, pa_dep_1, pk_m1] at ih'
      refine br_f (by rw [ec, hk]; decide) (nm_r (pa_lv d) ?_)
      have z := py_new_l (post := post) (J4 := wY_workOut_4 post (n + 1)) (fm := nI m) (fh := fh) (ed := ed) (K := K) (R := R) (B := B) (i := i) (M := pa_bck ed (R i)) hd (by omega) (fun p B' a b ha hb hp => by rw [hr] at hp ⊢; exact py_sg_1 hk hl ha hb hp) (ih' _ (pa_YP_put hY (Nat.le_refl d))) 64 0 rfl
      rw [pa_w_0 pa_dl_0] at z
      exact ⟨65, z⟩
    · rw [hk, pa_stp_2, pa_dep_2, pk_m1] at ih'
      refine br_f (by rw [ec, hk]; decide) (nm_r (pa_lv d) ?_)
      have z := py_new_l (post := post) (J4 := wY_workOut_4 post (n + 1)) (fm := nI m) (fh := fh) (ed := ed) (K := K) (R := R) (B := B) (i := i) (M := pa_atm (R i)) hd (by omega) (fun p B' a b ha hb hp => py_sg_2 hk ha hb hp) (ih' _ (pa_YP_put hY (Nat.le_refl d))) 64 0 rfl
      rw [pa_w_0 pa_dl_0] at z
      exact ⟨65, z⟩
    · obtain ⟨e, rfl⟩ : ∃ e, d = e + 2 := ⟨d - 2, by omega⟩
      rw [hk, pa_stp_3, pa_dep_3, show e + 2 - 1 = e + 1 from rfl, show e + 2 - 2 = e from rfl, pk_m1] at ih'
      refine br_t (by rw [ec, hk]; decide) ⟨hin, br_t (by rw [ec, hk]) (nm_r (by rw [pk_m1, pk_m1]) ?_)⟩
      refine py_thn (e := e) (by omega) (hY e (by omega)) (hY (e + 1) (by omega)) ?_
      exact nm_r (nI_1 i) (ih' _ (pa_YP_put (pa_YP_up hY (Nat.le_refl _)) (by omega)))
    · obtain ⟨e, rfl⟩ : ∃ e, d = e + 2 := ⟨d - 2, by omega⟩
      rw [hk, pa_stp_4, pa_dep_4, show e + 2 - 1 = e + 1 from rfl, show e + 2 - 2 = e from rfl, pk_m1] at ih'
      refine br_t (by rw [ec, hk]; decide) ⟨hin, br_f (by rw [ec, hk]; decide) ⟨hin, br_t (by rw [ec, hk]) (nm_r (by rw [pk_m1, pk_m1]) ?_)⟩⟩
      have z := py_orr_l (post := post) (J4 := wY_workOut_4 post (n + 1)) (fm := nI m) (fh := fh) (ed := ed) (K := K) (R := R) (B := B) (i := i) (by omega) (hY e (by omega)) (hY (e + 1) (by omega)) (ih' _ (pa_YP_put hY (by omega : e ≤ e + 2))) 64 0 rfl
      rw [pa_w_0 pa_dl_0] at z
      exact ⟨65, z⟩
    · obtain ⟨e, rfl⟩ : ∃ e, d = e + 1 := ⟨d - 1, by omega⟩
      rw [hk, pa_stp_5, pa_dep_5, show e + 1 - 1 = e from rfl] at ih'
      refine br_t (by rw [ec, hk]; decide) ⟨hin, br_f (by rw [ec, hk]; decide) ⟨hin, br_f (by rw [ec, hk]; decide) ?_⟩⟩
      refine py_cls (pk_m1 e) (by omega) (hY e (by omega)) ?_
      exact nm_r (nI_1 i) (ih' _ (pa_YP_put hY (by omega : e ≤ e + 1)))
theorem py_top {post : Int32 → SY → Prop} {fh : Int32} {ed K R B : Nat → Int32} {m : Nat} (hm : m ≤ 14) (hok : ∀ i, i < m → pa_ok (K i) (R i) (pa_d K i)) (h : ∀ B', pa_YP B' (pa_d K m) (pa_S ed K R m) → post (nI (pa_d K m) + (-1)) (nI m, fh, ed, K, R, B')) : wpY_workOut post (nI m, fh, ed, K, R, B) := by
  have z := py_top_l hm hok h m 0 B (by omega) (fun l hl => absurd hl (Nat.not_lt_zero l))
  have e : nI (pa_d K 0) + (-1) = (-1 : Int32) := by
    show nI 0 + (-1) = (-1 : Int32)
    decide
  rw [e, nI_0] at z
  exact ⟨m + 1, z⟩
/-- the reference's length of a pair -/
theorem py_len {post : Int32 → Prop} {fm fh : Int32} {ed K R B : Nat → Int32} {d a b : Nat} {S : Nat → Nat → Nat → Nat} (hd : d ≤ 6) (hY : pa_YP B d S) (ha : a < 8) (hb : b < 8) (h : post (nI (min (pa_T S d a b) 100000))) : wpY_length post (fm, fh, ed, K, R, B) (nI d + (-1)) (nI a) (nI b) := by
  cases d with
  | zero => exact br_f (by decide) h
  | succ e =>
    rw [pk_m1]
    have e1 := pa_ic e a b
    refine br_t (nI_pos' (by omega)) ⟨pa_in e1 (by omega) (by decide), ?_⟩
    have v : B (nI e * 64 + nI a * 8 + nI b).toNatClampNeg = nI (min (S e a b) 100000) := by
      rw [pa_cl e1 (by omega), hY e (by omega) _ (by omega), pa_y_at _ hb]
    refine py_lst (a := 100000) rfl v (by decide) (by omega) ?_
    have q : min 100000 (min (S e a b) 100000) = min (pa_T S (e + 1) a b) 100000 := by
      show min 100000 (min (S e a b) 100000) = min (S e a b) 100000
      omega
    rw [q]
    exact h
