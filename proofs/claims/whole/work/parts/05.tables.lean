/-! at -/
theorem pa_x_atm {r : Int32} {i : Nat} (hi : i < 8) : pa_x (pa_atm r) (i * 9) = if r = -1 ∨ r = nI i then 0 else 1000000 := by
  rw [show i * 9 = i + 8 * i by omega, pa_x_at _ hi]
  show (if i = i ∧ (r = -1 ∨ r = nI i) then 0 else 1000000) = _
  by_cases z : r = -1 ∨ r = nI i
  · rw [if_pos z, if_pos ⟨rfl, z⟩]
  · rw [if_neg z, if_neg (fun h => z h.2)]
theorem pa_i3d (t a : Nat) : nI t + nI a + 8 * nI a = nI (t + a * 9) := by
  rw [pa_i3]
  exact congrArg nI (by omega)
theorem px_atm_l {post : SX → Prop} {sm ex : Int32} {ed sk sa jo A : Nat → Int32} {r : Int32} {t : Nat} (ht : t + 64 ≤ 448) (hA : ∀ q, q < 64 → A (t + q) = nI 1000000) (h : post (sm, ex, ed, sk, sa, pa_w A t (pa_dd 8) (pa_x (pa_atm r)), jo)) : ∀ n i, i + n = 8 → wX_measureAt_7 post r (nI t) sm ex (n + 1) (nI i) ed sk sa (pa_w A t (pa_dd i) (pa_x (pa_atm r))) jo := by
  intro n
  induction n with
  | zero =>
    intro i hi
    obtain rfl : i = 8 := by omega
    exact br_t (nI_le (a := 8) (b := 8) (Nat.le_refl _) (by decide)) h
  | succ n ih =>
    intro i hi
    refine br_f (nI_ge (a := i) (b := 8) (by omega) (by decide)) ?_
    have hi8 : i < 8 := by omega
    have eg := pa_x_atm (r := r) hi8
    by_cases z1 : r = -1
    · rw [if_pos (Or.inl z1)] at eg
      refine br_t z1 ?_
      refine ⟨pa_in (pa_i3d t i) (by omega) (by decide), ?_⟩
      refine nm_r (pa_w_s (q := i * 9) (by omega) (pa_dd_s i) (pa_cl (pa_i3d t i) (by omega)) (by rw [eg]; rfl)) ?_
      exact nm_r (nI_1 i) (ih (i + 1) (by omega))
    · refine br_f z1 ?_
      by_cases z2 : r = nI i
      · rw [if_pos (Or.inr z2)] at eg
        refine br_t z2 ?_
        refine ⟨pa_in (pa_i3d t i) (by omega) (by decide), ?_⟩
        refine nm_r (pa_w_s (q := i * 9) (by omega) (pa_dd_s i) (pa_cl (pa_i3d t i) (by omega)) (by rw [eg]; rfl)) ?_
        exact nm_r (nI_1 i) (ih (i + 1) (by omega))
      · rw [if_neg (fun h => h.elim z1 z2)] at eg
        refine br_f z2 ?_
        have hv : pa_w A t (pa_dd i) (pa_x (pa_atm r)) (t + i * 9) = nI (pa_x (pa_atm r) (i * 9)) := by
          rw [pa_w_no (decide_eq_false (by omega)), hA _ (by omega), eg]
        rw [pa_w_k (pa_dd_s i) hv]
        exact nm_r (nI_1 i) (ih (i + 1) (by omega))
theorem px_atm {post : SX → Prop} {sm ex : Int32} {ed sk sa jo A : Nat → Int32} {r : Int32} {t : Nat} (ht : t + 64 ≤ 448) (h : post (sm, ex, ed, sk, sa, pa_w A t pa_al (pa_x (pa_atm r)), jo)) : wpX_measureAt post (sm, ex, ed, sk, sa, A, jo) r (nI t) := by
  unfold wpX_measureAt
  dsimp only
  refine px_fg ht ?_
  dsimp only
  have e : pa_w (pa_w A t pa_al (fun _ => 1000000)) t (pa_dd 8) (pa_x (pa_atm r)) = pa_w A t pa_al (pa_x (pa_atm r)) := by
    rw [pa_w_f (D := pa_dd 8), pa_w_w]
    intro q hq hD
    rw [pa_w_in hq rfl]
    refine congrArg nI ?_
    show 1000000 = if q % 8 = q / 8 ∧ (r = -1 ∨ r = nI (q % 8)) then 0 else 1000000
    rw [if_neg]
    intro z
    have := of_decide_eq_false hD
    omega
  have z := px_atm_l (sm := sm) (ex := ex) (ed := ed) (sk := sk) (sa := sa) (jo := jo) (r := r) (post := post) ht (A := pa_w A t pa_al (fun _ => 1000000)) (fun q hq => pa_w_in hq rfl) (by rw [e]; exact h) 8 0 rfl
  rw [pa_w_0 pa_dd_0] at z
  exact ⟨9, z⟩
/-! then -/
def pa_X (A : Nat → Int32) (t : Nat) (M : Nat → Nat → Nat) : Prop := ∀ q, q < 64 → A (t + q) = nI (pa_x M q)
def pa_F (M : Nat → Nat → Nat) : Prop := ∀ a b, a < 8 → b < 8 → M a b ≤ 1000000
theorem pa_X_at {A : Nat → Int32} {t : Nat} {M : Nat → Nat → Nat} (h : pa_X A t M) {a b : Nat} (ha : a < 8) (hb : b < 8) : A (t + (a + 8 * b)) = nI (M a b) := by
  rw [h _ (by omega), pa_x_at _ ha]
theorem px_sj_l {post : Int32 → Prop} {sm ex : Int32} {ed sk sa jo A : Nat → Int32} {f s a b : Nat} {M N : Nat → Nat → Nat} (hM : pa_X A f M) (hN : pa_X A s N) (fM : pa_F M) (fN : pa_F N) (hf : f + 64 ≤ 448) (hs : s + 64 ≤ 448) (ha : a < 8) (hb : b < 8) (h : post (nI (pa_jn M N a b 8))) : ∀ n m, m + n = 8 → wX_shortestJoin_6 post (nI (f + a)) (nI (s + 8 * b)) sm ex ed sk sa A jo (n + 1) (nI (pa_jn M N a b m)) (nI m) := by
  intro n
  induction n with
  | zero =>
    intro m hm
    obtain rfl : m = 8 := by omega
    exact br_t (nI_le (a := 8) (b := 8) (Nat.le_refl _) (by decide)) h
  | succ n ih =>
    intro m hm
    refine br_f (nI_ge (a := m) (b := 8) (by omega) (by decide)) ?_
    have e1 := pa_i2 (f + a) m
    have e2 := pa_i1 (s + 8 * b) m
    refine ⟨pa_in e1 (by omega) (by decide), pa_in e2 (by omega) (by decide), ?_⟩
    have hm8 : m < 8 := by omega
    have v : A (nI (f + a) + 8 * nI m).toNatClampNeg + A (nI (s + 8 * b) + nI m).toNatClampNeg = nI (M a m + N m b) := by
      rw [pa_cl e1 (by omega), pa_cl e2 (by omega), show f + a + 8 * m = f + (a + 8 * m) by omega, show s + 8 * b + m = s + (m + 8 * b) by omega, pa_X_at hM ha hm8, pa_X_at hN hm8 hb, nI_add]
    refine nm_r v ?_
    have h1 := pa_jn_le M N a b m
    have h2 := fM a m ha hm8
    have h3 := fN m b hm8 hb
    have ej : pa_jn M N a b (m + 1) = min (pa_jn M N a b m) (M a m + N m b) := rfl
    refine pk_le (pa_jn M N a b m) (M a m + N m b) (fun z => ?_) (fun z => ?_) rfl rfl (by omega) (by omega)
    · have q := ih (m + 1) (by omega)
      rw [show pa_jn M N a b (m + 1) = pa_jn M N a b m by omega] at q
      exact nm_r (nI_1 m) q
    · have q := ih (m + 1) (by omega)
      rw [show pa_jn M N a b (m + 1) = M a m + N m b by omega] at q
      exact nm_r (nI_1 m) q
theorem px_sj {post : Int32 → Prop} {sm ex : Int32} {ed sk sa jo A : Nat → Int32} {f s a b : Nat} {M N : Nat → Nat → Nat} (hM : pa_X A f M) (hN : pa_X A s N) (fM : pa_F M) (fN : pa_F N) (hf : f + 64 ≤ 448) (hs : s + 64 ≤ 448) (ha : a < 8) (hb : b < 8) (h : post (nI (pa_jn M N a b 8))) : wpX_shortestJoin post (sm, ex, ed, sk, sa, A, jo) (nI f + nI a) (nI s + 8 * nI b) := by
  rw [pa_i1, pa_i2]
  exact ⟨9, px_sj_l hM hN fM fN hf hs ha hb h 8 0 rfl⟩
theorem px_thn_c {post : SX → Prop} {sm ex : Int32} {ed sk sa jo A : Nat → Int32} {f : Nat} {g : Nat → Nat} (hf : f + 64 ≤ 448) (hj : ∀ q, q < 64 → jo q = nI (g q)) (h : post (sm, ex, ed, sk, sa, pa_w A f pa_al g, jo)) : ∀ n i, i + n = 64 → wX_joinTables_58 post (nI f) sm ex (n + 1) (nI i) ed sk sa (pa_w A f (pa_dl i) g) jo := by
  intro n
  induction n with
  | zero =>
    intro i hi
    obtain rfl : i = 64 := by omega
    refine br_t (nI_le (a := 64) (b := 64) (Nat.le_refl _) (by decide)) ?_
    rw [pa_w_c pa_dl_64]
    exact h
  | succ n ih =>
    intro i hi
    refine br_f (nI_ge (a := i) (b := 64) (by omega) (by decide)) ?_
    refine ⟨vp_in_nI (by omega) (by decide), pa_in (pa_i1 f i) (by omega) (by decide), ?_⟩
    refine nm_r (pa_w_s (q := i) (by omega) (pa_dl_s i) (pa_cl (pa_i1 f i) (by omega)) (by rw [nI_clamp (by omega)]; exact hj i (by omega))) ?_
    exact nm_r (nI_1 i) (ih (i + 1) (by omega))
theorem px_thn_i {post : SX → Prop} {J2 : Int32 → (Nat → Int32) → (Nat → Int32) → (Nat → Int32) → (Nat → Int32) → (Nat → Int32) → Prop} {sm ex : Int32} {ed sk sa jo A : Nat → Int32} {f s a : Nat} {M N : Nat → Nat → Nat} (hM : pa_X A f M) (hN : pa_X A s N) (fM : pa_F M) (fN : pa_F N) (hf : f + 64 ≤ 448) (hs : s + 64 ≤ 448) (ha : a < 8) (h : J2 (nI (a + 1)) ed sk sa A (pa_w jo 0 (pa_dn (a + 1) 0) (pa_x (pa_thn M N)))) : ∀ n b, b + n = 8 → wX_joinTables_11 post J2 (nI f) (nI s) (nI a) sm ex (n + 1) (nI b) ed sk sa A (pa_w jo 0 (pa_dn a b) (pa_x (pa_thn M N))) := by
  intro n
  induction n with
  | zero =>
    intro b hb
    obtain rfl : b = 8 := by omega
    refine br_t (nI_le (a := 8) (b := 8) (Nat.le_refl _) (by decide)) ?_
    refine nm_r (nI_1 a) ?_
    rw [pa_w_c (pa_dn_n a)]
    exact h
  | succ n ih =>
    intro b hb
    refine br_f (nI_ge (a := b) (b := 8) (by omega) (by decide)) ?_
    refine px_sj hM hN fM fN hf hs ha (by omega) ?_
    refine ⟨pa_in (pa_i2 a b) (by omega) (by decide), ?_⟩
    refine nm_r (pa_w_s (q := a + 8 * b) (by omega) (pa_dn_s ha) (by rw [pa_cl (pa_i2 a b) (by omega)]; omega) (by rw [pa_x_at _ ha]; rfl)) ?_
    exact nm_r (nI_1 b) (ih (b + 1) (by omega))
theorem px_thn_l {post : SX → Prop} {sm ex : Int32} {ed sk sa jo A : Nat → Int32} {f s : Nat} {M N : Nat → Nat → Nat} (hM : pa_X A f M) (hN : pa_X A s N) (fM : pa_F M) (fN : pa_F N) (hf : f + 64 ≤ 448) (hs : s + 64 ≤ 448) (h : ∀ jo', post (sm, ex, ed, sk, sa, pa_w A f pa_al (pa_x (pa_thn M N)), jo')) : ∀ n a, a + n = 8 → wX_joinTables_2 post (nI f) (nI s) sm ex (n + 1) (nI a) ed sk sa A (pa_w jo 0 (pa_dn a 0) (pa_x (pa_thn M N))) := by
  intro n
  induction n with
  | zero =>
    intro a ha
    obtain rfl : a = 8 := by omega
    refine br_t (nI_le (a := 8) (b := 8) (Nat.le_refl _) (by decide)) ?_
    rw [pa_w_c pa_dn_8]
    have z := px_thn_c (sm := sm) (ex := ex) (ed := ed) (sk := sk) (sa := sa) (A := A) (post := post) (jo := pa_w jo 0 pa_al (pa_x (pa_thn M N))) (g := pa_x (pa_thn M N)) hf (fun q hq => by have := pa_w_in (A := jo) (t := 0) (D := pa_al) (g := pa_x (pa_thn M N)) hq rfl; rw [Nat.zero_add] at this; exact this) (h _) 64 0 rfl
    rw [pa_w_0 pa_dl_0] at z
    exact ⟨65, z⟩
  | succ n ih =>
    intro a ha
    refine br_f (nI_ge (a := a) (b := 8) (by omega) (by decide)) ?_
    exact ⟨9, px_thn_i hM hN fM fN hf hs (by omega) (ih (a + 1) (by omega)) 8 0 rfl⟩
theorem px_thn {post : SX → Prop} {sm ex : Int32} {ed sk sa jo A : Nat → Int32} {f s : Nat} {M N : Nat → Nat → Nat} (hM : pa_X A f M) (hN : pa_X A s N) (fM : pa_F M) (fN : pa_F N) (hf : f + 64 ≤ 448) (hs : s + 64 ≤ 448) (h : ∀ jo', post (sm, ex, ed, sk, sa, pa_w A f pa_al (pa_x (pa_thn M N)), jo')) : wpX_joinTables post (sm, ex, ed, sk, sa, A, jo) (nI f) (nI s) := by
  have z := px_thn_l (jo := jo) hM hN fM fN hf hs h 8 0 rfl
  rw [pa_w_0 pa_dn_0] at z
  exact ⟨9, z⟩
/-! or -/
theorem px_orr_l {post : SX → Prop} {sm ex : Int32} {ed sk sa jo A : Nat → Int32} {f s : Nat} {M N : Nat → Nat → Nat} (hM : pa_X A f M) (hN : pa_X A s N) (fM : pa_F M) (fN : pa_F N) (hf : f + 64 ≤ s) (hs : s + 64 ≤ 448) (h : post (sm, ex, ed, sk, sa, pa_w A f pa_al (pa_x (pa_orr M N)), jo)) : ∀ n i, i + n = 64 → wX_mergeTables_2 post (nI f) (nI s) sm ex (n + 1) (nI i) ed sk sa (pa_w A f (pa_dl i) (pa_x (pa_orr M N))) jo := by
  intro n
  induction n with
  | zero =>
    intro i hi
    obtain rfl : i = 64 := by omega
    refine br_t (nI_le (a := 64) (b := 64) (Nat.le_refl _) (by decide)) ?_
    rw [pa_w_c pa_dl_64]
    exact h
  | succ n ih =>
    intro i hi
    refine br_f (nI_ge (a := i) (b := 64) (by omega) (by decide)) ?_
    have e1 := pa_i1 f i
    have e2 := pa_i1 s i
    have i1 : vp_in (nI f + nI i) 448 := pa_in e1 (by omega) (by decide)
    have i2 : vp_in (nI s + nI i) 448 := pa_in e2 (by omega) (by decide)
    refine ⟨i2, i1, ?_⟩
    have v1 : pa_w A f (pa_dl i) (pa_x (pa_orr M N)) (nI f + nI i).toNatClampNeg = nI (pa_x M i) := by
      rw [pa_cl e1 (by omega), pa_w_no (decide_eq_false (by omega)), hM i (by omega)]
    have v2 : pa_w A f (pa_dl i) (pa_x (pa_orr M N)) (nI s + nI i).toNatClampNeg = nI (pa_x N i) := by
      rw [pa_cl e2 (by omega), pa_w_out (by omega), hN i (by omega)]
    have b1 : pa_x M i ≤ 1000000 := fM _ _ (by omega) (by omega)
    have b2 : pa_x N i ≤ 1000000 := fN _ _ (by omega) (by omega)
    have eo : pa_x (pa_orr M N) i = min (pa_x M i) (pa_x N i) := rfl
    refine pk_le (pa_x M i) (pa_x N i) (fun z => ?_) (fun z => ?_) v1 v2 (by omega) (by omega)
    · have hv : pa_w A f (pa_dl i) (pa_x (pa_orr M N)) (f + i) = nI (pa_x (pa_orr M N) i) := by
        rw [← pa_cl e1 (by omega), v1, eo]
        exact congrArg nI (by omega)
      rw [pa_w_k (pa_dl_s i) hv]
      exact nm_r (nI_1 i) (ih (i + 1) (by omega))
    · refine ⟨i2, i1, ?_⟩
      refine nm_r (pa_w_s (q := i) (by omega) (pa_dl_s i) (pa_cl e1 (by omega)) (by rw [v2, eo]; exact congrArg nI (by omega))) ?_
      exact nm_r (nI_1 i) (ih (i + 1) (by omega))
theorem px_orr {post : SX → Prop} {sm ex : Int32} {ed sk sa jo A : Nat → Int32} {f s : Nat} {M N : Nat → Nat → Nat} (hM : pa_X A f M) (hN : pa_X A s N) (fM : pa_F M) (fN : pa_F N) (hf : f + 64 ≤ s) (hs : s + 64 ≤ 448) (h : post (sm, ex, ed, sk, sa, pa_w A f pa_al (pa_x (pa_orr M N)), jo)) : wpX_mergeTables post (sm, ex, ed, sk, sa, A, jo) (nI f) (nI s) := by
  have z := px_orr_l hM hN fM fN hf hs h 64 0 rfl
  rw [pa_w_0 pa_dl_0] at z
  exact ⟨65, z⟩
/-! star -/
theorem pa_rd_l {T : Nat → Nat → Nat} (a m : Nat) : pa_rd T m a m = T a m := by
  show min (T a m) (T a m + T m m) = T a m
  omega
theorem pa_rd_r {T : Nat → Nat → Nat} (m b : Nat) : pa_rd T m m b = T m b := by
  show min (T m b) (T m m + T m b) = T m b
  omega
theorem pa_X_l {A : Nat → Int32} {t m : Nat} {T : Nat → Nat → Nat} (D : Nat → Bool) (hT : pa_X A t T) {a : Nat} (ha : a < 8) (hm : m < 8) : pa_w A t D (pa_x (pa_rd T m)) (t + (a + 8 * m)) = nI (T a m) := by
  cases hD : D (a + 8 * m) with
  | true => rw [pa_w_in (by omega) hD, pa_x_at _ ha, pa_rd_l]
  | false => rw [pa_w_no hD, pa_X_at hT ha hm]
theorem pa_X_r {A : Nat → Int32} {t m : Nat} {T : Nat → Nat → Nat} (D : Nat → Bool) (hT : pa_X A t T) {b : Nat} (hm : m < 8) (hb : b < 8) : pa_w A t D (pa_x (pa_rd T m)) (t + (m + 8 * b)) = nI (T m b) := by
  cases hD : D (m + 8 * b) with
  | true => rw [pa_w_in (by omega) hD, pa_x_at _ hm, pa_rd_r]
  | false => rw [pa_w_no hD, pa_X_at hT hm hb]
theorem px_alw_i {post : SX → Prop} {J2 : Int32 → (Nat → Int32) → (Nat → Int32) → (Nat → Int32) → (Nat → Int32) → (Nat → Int32) → Prop} {sm ex : Int32} {ed sk sa jo A : Nat → Int32} {m t a : Nat} {T : Nat → Nat → Nat} (hT : pa_X A t T) (fT : pa_F T) (hm : m < 8) (ht : t + 64 ≤ 448) (ha : a < 8) (h : J2 (nI (a + 1)) ed sk sa (pa_w A t (pa_dn (a + 1) 0) (pa_x (pa_rd T m))) jo) : ∀ n b, b + n = 8 → wX_allowThrough_11 post J2 (nI m) (nI t) (nI a) sm ex (n + 1) (nI b) ed sk sa (pa_w A t (pa_dn a b) (pa_x (pa_rd T m))) jo := by
  intro n
  induction n with
  | zero =>
    intro b hb
    obtain rfl : b = 8 := by omega
    refine br_t (nI_le (a := 8) (b := 8) (Nat.le_refl _) (by decide)) ?_
    refine nm_r (nI_1 a) ?_
    rw [pa_w_c (pa_dn_n a)]
    exact h
  | succ n ih =>
    intro b hb
    refine br_f (nI_ge (a := b) (b := 8) (by omega) (by decide)) ?_
    have hb8 : b < 8 := by omega
    have e1 := pa_i3 t a m
    have e2 := pa_i3 t m b
    have e3 := pa_i3 t a b
    have i3 : vp_in (nI t + nI a + 8 * nI b) 448 := pa_in e3 (by omega) (by decide)
    refine ⟨pa_in e1 (by omega) (by decide), pa_in e2 (by omega) (by decide), ?_⟩
    have v : pa_w A t (pa_dn a b) (pa_x (pa_rd T m)) (nI t + nI a + 8 * nI m).toNatClampNeg + pa_w A t (pa_dn a b) (pa_x (pa_rd T m)) (nI t + nI m + 8 * nI b).toNatClampNeg = nI (T a m + T m b) := by
      rw [pa_cl e1 (by omega), pa_cl e2 (by omega), pa_X_l _ hT ha hm, pa_X_r _ hT hm hb8, nI_add]
    refine nm_r v ⟨i3, ?_⟩
    have v3 : pa_w A t (pa_dn a b) (pa_x (pa_rd T m)) (nI t + nI a + 8 * nI b).toNatClampNeg = nI (T a b) := by
      rw [pa_cl e3 (by omega), pa_w_no (decide_eq_false (by omega)), pa_X_at hT ha hb8]
    have b1 := fT a b ha hb8
    have b2 := fT a m ha hm
    have b3 := fT m b hm hb8
    have eo : pa_x (pa_rd T m) (a + 8 * b) = min (T a b) (T a m + T m b) := pa_x_at _ ha
    refine pk_le (T a b) (T a m + T m b) (fun z => ?_) (fun z => ?_) v3 rfl (by omega) (by omega)
    · have hv : pa_w A t (pa_dn a b) (pa_x (pa_rd T m)) (t + (a + 8 * b)) = nI (pa_x (pa_rd T m) (a + 8 * b)) := by
        rw [← pa_cl e3 (by omega), v3, eo]
        exact congrArg nI (by omega)
      rw [pa_w_k (pa_dn_s ha) hv]
      exact nm_r (nI_1 b) (ih (b + 1) (by omega))
    · refine ⟨i3, ?_⟩
      refine nm_r (pa_w_s (q := a + 8 * b) (by omega) (pa_dn_s ha) (pa_cl e3 (by omega)) (by rw [eo]; exact congrArg nI (by omega))) ?_
      exact nm_r (nI_1 b) (ih (b + 1) (by omega))
theorem px_alw_l {post : SX → Prop} {sm ex : Int32} {ed sk sa jo A : Nat → Int32} {m t : Nat} {T : Nat → Nat → Nat} (hT : pa_X A t T) (fT : pa_F T) (hm : m < 8) (ht : t + 64 ≤ 448) (h : post (sm, ex, ed, sk, sa, pa_w A t pa_al (pa_x (pa_rd T m)), jo)) : ∀ n a, a + n = 8 → wX_allowThrough_2 post (nI m) (nI t) sm ex (n + 1) (nI a) ed sk sa (pa_w A t (pa_dn a 0) (pa_x (pa_rd T m))) jo := by
  intro n
  induction n with
  | zero =>
    intro a ha
    obtain rfl : a = 8 := by omega
    refine br_t (nI_le (a := 8) (b := 8) (Nat.le_refl _) (by decide)) ?_
    rw [pa_w_c pa_dn_8]
    exact h
  | succ n ih =>
    intro a ha
    refine br_f (nI_ge (a := a) (b := 8) (by omega) (by decide)) ?_
    exact ⟨9, px_alw_i hT fT hm ht (by omega) (ih (a + 1) (by omega)) 8 0 rfl⟩
theorem px_alw {post : SX → Prop} {sm ex : Int32} {ed sk sa jo A : Nat → Int32} {m t : Nat} {T : Nat → Nat → Nat} (hT : pa_X A t T) (fT : pa_F T) (hm : m < 8) (ht : t + 64 ≤ 448) (h : post (sm, ex, ed, sk, sa, pa_w A t pa_al (pa_x (pa_rd T m)), jo)) : wpX_allowThrough post (sm, ex, ed, sk, sa, A, jo) (nI m) (nI t) := by
  have z := px_alw_l hT fT hm ht h 8 0 rfl
  rw [pa_w_0 pa_dn_0] at z
  exact ⟨9, z⟩
theorem px_rep_r {post : SX → Prop} {sm ex : Int32} {ed sk sa jo A : Nat → Int32} {t : Nat} {T : Nat → Nat → Nat} (fT : pa_F T) (ht : t + 64 ≤ 448) (h : post (sm, ex, ed, sk, sa, pa_w A t pa_al (pa_x (pa_st T 8)), jo)) : ∀ n m, m + n = 8 → wX_repeatTable_30 post (nI t) (n + 1) (nI m) sm ex ed sk sa (pa_w A t pa_al (pa_x (pa_st T m))) jo := by
  intro n
  induction n with
  | zero =>
    intro m hm
    obtain rfl : m = 8 := by omega
    exact br_t (nI_le (a := 8) (b := 8) (Nat.le_refl _) (by decide)) h
  | succ n ih =>
    intro m hm
    refine br_f (nI_ge (a := m) (b := 8) (by omega) (by decide)) ?_
    refine px_alw (T := pa_st T m) (fun q hq => pa_w_in hq rfl) (pa_st_le fT m) (by omega) ht ?_
    dsimp only
    rw [pa_w_w]
    exact nm_r (nI_1 m) (ih (m + 1) (by omega))
theorem px_rep_l {post : SX → Prop} {sm ex : Int32} {ed sk sa jo A : Nat → Int32} {t : Nat} {T : Nat → Nat → Nat} (hT : pa_X A t T) (fT : pa_F T) (ht : t + 64 ≤ 448) (h : post (sm, ex, ed, sk, sa, pa_w A t pa_al (pa_x (pa_st T 8)), jo)) : ∀ n i, i + n = 8 → wX_repeatTable_2 post (nI t) sm ex (n + 1) (nI i) ed sk sa (pa_w A t (pa_dd i) (pa_x (pa_st T 0))) jo := by
  intro n
  induction n with
  | zero =>
    intro i hi
    obtain rfl : i = 8 := by omega
    refine br_t (nI_le (a := 8) (b := 8) (Nat.le_refl _) (by decide)) ?_
    rw [pa_w_f (D := pa_dd 8)]
    · exact ⟨9, px_rep_r fT ht h 8 0 rfl⟩
    · intro q hq hD
      rw [hT q hq]
      refine congrArg nI ?_
      show T (q % 8) (q / 8) = if q % 8 = q / 8 then 0 else T (q % 8) (q / 8)
      rw [if_neg]
      intro z
      have := of_decide_eq_false hD
      omega
  | succ n ih =>
    intro i hi
    refine br_f (nI_ge (a := i) (b := 8) (by omega) (by decide)) ?_
    refine ⟨pa_in (pa_i3d t i) (by omega) (by decide), ?_⟩
    refine nm_r (pa_w_s (q := i * 9) (by omega) (pa_dd_s i) (pa_cl (pa_i3d t i) (by omega)) ?_) ?_
    · rw [show i * 9 = i + 8 * i by omega, pa_x_at _ (by omega : i < 8), pa_st_d]
      rfl
    · exact nm_r (nI_1 i) (ih (i + 1) (by omega))
theorem px_rep {post : SX → Prop} {sm ex : Int32} {ed sk sa jo A : Nat → Int32} {t : Nat} {T : Nat → Nat → Nat} (hT : pa_X A t T) (fT : pa_F T) (ht : t + 64 ≤ 448) (h : post (sm, ex, ed, sk, sa, pa_w A t pa_al (pa_x (pa_st T 8)), jo)) : wpX_repeatTable post (sm, ex, ed, sk, sa, A, jo) (nI t) := by
  have z := px_rep_l hT fT ht h 8 0 rfl
  rw [pa_w_0 pa_dd_0] at z
  exact ⟨9, z⟩
