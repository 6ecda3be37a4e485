/-! the class's tables and the machine's stack: the lowest table is far everywhere, level l lies at (l + 1) * 64 -/
def pa_XP (A : Nat → Int32) (d : Nat) (S : Nat → Nat → Nat → Nat) : Prop := (∀ q, q < 64 → A q = nI 1000000) ∧ ∀ l, l < d → pa_X A ((l + 1) * 64) (S l)
theorem pa_XP_put {A : Nat → Int32} {d e : Nat} {S : Nat → Nat → Nat → Nat} {M : Nat → Nat → Nat} (h : pa_XP A d S) (he : e ≤ d) : pa_XP (pa_w A ((e + 1) * 64) pa_al (pa_x M)) (e + 1) (pa_put S e M) := by
  refine ⟨fun q hq => ?_, fun l hl q hq => ?_⟩
  · rw [pa_w_out (by omega)]
    exact h.1 q hq
  · by_cases z : l = e
    · subst z
      rw [pa_put_s]
      exact pa_w_in hq rfl
    · rw [pa_put_n z, pa_w_out (by omega)]
      exact h.2 l (by omega) q hq
theorem pa_up (d : Nat) : nI (d * 64) + 64 = nI ((d + 1) * 64) := (nI_add (d * 64) 64).trans (congrArg nI (by omega))
theorem pa_dw (d : Nat) : nI ((d + 1) * 64) - 64 = nI (d * 64) := (pk_sub (a := (d + 1) * 64) (b := 64) (by omega)).trans (congrArg nI (by omega))
theorem px_stp {post : Int32 → SX → Prop} {sm ex : Int32} {ed sk sa jo A : Nat → Int32} {k r : Int32} {d : Nat} {S : Nat → Nat → Nat → Nat} (hok : pa_ok k r d) (hd : d ≤ 6) (hX : pa_XP A d S) (hF : ∀ l, l < d → pa_F (S l)) (h : ∀ A' jo', pa_XP A' (pa_dep k d) (pa_stp ed k r d S) → post (nI (pa_dep k d * 64)) (sm, ex, ed, sk, sa, A', jo')) : wpX_measureStep post (sm, ex, ed, sk, sa, A, jo) k r (nI (d * 64)) := by
  unfold wpX_measureStep
  dsimp only
  rcases hok with ⟨rfl, ⟨l, hl, rfl⟩, hd6⟩ | ⟨rfl, ⟨l, hl, rfl⟩, hd6⟩ | ⟨rfl, _, hd6⟩ | ⟨rfl, h2⟩ | ⟨rfl, h2⟩ | ⟨rfl, h1⟩
  · rw [pa_stp_0, pa_dep_0] at h
    refine nm_r (pa_up d) (nm_e ?_)
    refine br_f (by decide) (br_f (by decide) (br_t rfl ?_))
    exact px_lab hl (by omega) (h _ _ (pa_XP_put hX (Nat.le_refl d)))
  · rw [pa_stp_1, pa_dep_1] at h
    refine nm_r (pa_up d) (nm_e ?_)
    refine br_f (by decide) (br_f (by decide) (br_f (by decide) (br_t rfl ?_)))
    exact px_bck hl (by omega) (h _ _ (pa_XP_put hX (Nat.le_refl d)))
  · rw [pa_stp_2, pa_dep_2] at h
    refine nm_r (pa_up d) (nm_e ?_)
    refine br_f (by decide) (br_f (by decide) (br_f (by decide) (br_f (by decide) (br_t rfl ?_))))
    exact px_atm (by omega) (h _ _ (pa_XP_put hX (Nat.le_refl d)))
  · obtain ⟨e, rfl⟩ : ∃ e, d = e + 2 := ⟨d - 2, by omega⟩
    rw [pa_stp_3, pa_dep_3] at h
    refine nm_e (nm_r (pa_dw (e + 1)) ?_)
    refine br_f (by decide) (br_f (by decide) (br_f (by decide) (br_f (by decide) (br_f (by decide) (br_t rfl ?_)))))
    exact px_thn (hX.2 e (by omega)) (hX.2 (e + 1) (by omega)) (hF e (by omega)) (hF (e + 1) (by omega)) (by omega) (by omega) (fun jo' => h _ _ (pa_XP_put hX (by omega : e ≤ e + 2)))
  · obtain ⟨e, rfl⟩ : ∃ e, d = e + 2 := ⟨d - 2, by omega⟩
    rw [pa_stp_4, pa_dep_4] at h
    refine nm_e (nm_r (pa_dw (e + 1)) ?_)
    refine br_f (by decide) (br_f (by decide) (br_f (by decide) (br_f (by decide) (br_f (by decide) (br_f (by decide) (br_t rfl ?_))))))
    exact px_orr (hX.2 e (by omega)) (hX.2 (e + 1) (by omega)) (hF e (by omega)) (hF (e + 1) (by omega)) (by omega) (by omega) (h _ _ (pa_XP_put hX (by omega : e ≤ e + 2)))
  · obtain ⟨e, rfl⟩ : ∃ e, d = e + 1 := ⟨d - 1, by omega⟩
    rw [pa_stp_5, pa_dep_5] at h
    refine nm_e (nm_e ?_)
    refine br_f (by decide) (br_t (by decide) ?_)
    exact px_rep (hX.2 e (by omega)) (hF e (by omega)) (by omega) (h _ _ (pa_XP_put hX (by omega : e ≤ e + 1)))
theorem px_top_l {post : Int32 → SX → Prop} {ex : Int32} {ed K R : Nat → Int32} {m : Nat} (hm : m ≤ 14) (hok : ∀ i, i < m → pa_ok (K i) (R i) (pa_d K i)) (h : ∀ A' jo', pa_XP A' (pa_d K m) (pa_S ed K R m) → post (nI (pa_d K m * 64)) (nI m, ex, ed, K, R, A', jo')) : ∀ n i A jo, i + n = m → pa_XP A (pa_d K i) (pa_S ed K R i) → wX_measureTop_9 post (n + 1) (nI (pa_d K i * 64)) (nI i) (nI m) ex ed K R A jo := by
  intro n
  induction n with
  | zero =>
    intro i A jo hi hX
    obtain rfl : i = m := by omega
    exact br_t (nI_le (Nat.le_refl _) (by omega)) (h A jo hX)
  | succ n ih =>
    intro i A jo hi hX
    refine br_f (nI_ge (by omega) (by omega)) ?_
    have hin : vp_in (nI i) 14 := vp_in_nI (by omega) (by decide)
    refine ⟨hin, hin, ?_⟩
    rw [nI_clamp (by omega : i < 2 ^ 31)]
    refine px_stp (hok i (by omega)) (pa_d_le hok i (by omega)) hX (pa_V_le (pa_V_run hm hok i (by omega))) (fun A' jo' hX' => ?_)
    exact nm_r (nI_1 i) (ih (i + 1) A' jo' (by omega) hX')
theorem px_top {post : Int32 → SX → Prop} {ex : Int32} {ed K R A jo : Nat → Int32} {m : Nat} (hm : m ≤ 14) (hok : ∀ i, i < m → pa_ok (K i) (R i) (pa_d K i)) (h : ∀ A' jo', pa_XP A' (pa_d K m) (pa_S ed K R m) → post (nI (pa_d K m * 64)) (nI m, ex, ed, K, R, A', jo')) : wpX_measureTop post (nI m, ex, ed, K, R, A, jo) := by
  unfold wpX_measureTop
  dsimp only
  refine px_fg (t := 0) (by decide) ?_
  refine ⟨m + 1, px_top_l hm hok h m 0 _ _ (by omega) ⟨fun q hq => ?_, fun l hl => absurd hl (Nat.not_lt_zero l)⟩⟩
  have z := pa_w_in (A := A) (t := 0) (D := pa_al) (g := fun _ => 1000000) hq rfl
  rw [Nat.zero_add] at z
  exact z
/-- what the class reads of the top table -/
theorem pa_XP_T {A : Nat → Int32} {d : Nat} {S : Nat → Nat → Nat → Nat} (h : pa_XP A d S) : ∀ q, q < 64 → A (d * 64 + q) = nI (pa_x (pa_T S d) q) := by
  intro q hq
  cases d with
  | zero =>
    rw [Nat.zero_mul, Nat.zero_add]
    exact h.1 q hq
  | succ d => exact h.2 d (by omega) q hq
