def i_Rel (_ : Nat) (u : SX) (v : SY) : Prop := pa_Rel u v
theorem i_up {k : Nat} {u : SX} {v : SY} (h : i_Rel k u v) : i_Rel (k + 4) u v := h
theorem i_vc0 : wpX_init (fun u => wpY_init (fun v => i_Rel 0 u v)) := ⟨0, _, _, _, _, _, _, Nat.zero_le _, fun i hi => absurd hi (Nat.not_lt_zero i), rfl, rfl⟩
theorem i_vc_edge {k : Nat} {u : SX} {v : SY} (I : i_Rel k u v) (hk : k + 4 ≤ 2048) (v1 : Int32) (v2 : Int32) (v3 : Int32) : wpX_edge (fun r u' => wpY_edge (fun r' v' => r' = r ∧ i_Rel (k + 4) u' v') v v1 v2 (lw_bz v3)) u v1 v2 (lw_bz v3) := by
  obtain ⟨m, ed, K, R, A, jo, B, hm, hok, rfl, rfl⟩ := I
  have I : pa_Rel (nI m, nI (pa_d K m), ed, K, R, A, jo) (nI m, nI (pa_d K m), ed, K, R, B) := ⟨m, ed, K, R, A, jo, B, hm, hok, rfl, rfl⟩
  unfold wpX_edge wpY_edge
  dsimp only
  rcases pa_lb v1 with z | ⟨l, hl, rfl⟩
  · refine px_isL_n z (br_t rfl ?_)
    rcases z with z | z
    · exact br_t z ⟨rfl, I⟩
    · exact br_f (pa_ge (n := 2) (by decide) z).1 (br_f (pa_ge (n := 2) (by decide) z).2.1 ⟨rfl, I⟩)
  · have yl : ¬ nI l < 0 := nI_pos (by omega)
    have yl2 : nI l ≤ 2 := nI_le (b := 2) (by omega) (by decide)
    refine px_isL_y hl (br_f (by decide) ?_)
    rcases pk_ix v2 (n := 64) (by decide) with z | z | ⟨p, hp, rfl⟩
    · exact br_t z (br_f yl (br_t yl2 (br_t z ⟨rfl, I⟩)))
    · have w := pa_ge (n := 63) (by decide) z
      exact br_f w.1 (br_f w.2.2 (br_f yl (br_t yl2 (br_f w.1 (br_f w.2.1 ⟨rfl, I⟩)))))
    · have e1 := pa_i4 l p
      have i1 : vp_in (nI (l * 64 + p)) 192 := vp_in_nI (by omega) (by decide)
      have c1 : (nI (l * 64 + p)).toNatClampNeg = l * 64 + p := nI_clamp (by omega)
      have wp : ¬ nI p < 0 := nI_pos (by omega)
      have wp1 : nI p < 64 := nI_lt (b := 64) hp (by decide)
      have wp2 : nI p ≤ 63 := nI_le (b := 63) (by omega) (by decide)
      have J : ∀ x : Int32, pa_Rel (nI m, nI (pa_d K m), upd ed (l * 64 + p) x, K, R, A, jo) (nI m, nI (pa_d K m), upd ed (l * 64 + p) x, K, R, B) := fun x => ⟨m, _, K, R, A, jo, B, hm, hok, rfl, rfl⟩
      rw [e1]
      refine br_f wp (br_t wp1 (nm_e ⟨i1, ?_⟩))
      by_cases z : ed (nI (l * 64 + p)).toNatClampNeg = 0
      · refine br_t z ⟨i1, nm_r (by rw [c1]) ?_⟩
        refine br_f yl (br_t yl2 (br_f wp (br_t wp2 ⟨i1, br_t z ?_⟩)))
        unfold wY_edge_43
        rw [e1]
        exact ⟨i1, nm_r (by rw [c1]) ⟨rfl, J _⟩⟩
      · refine br_f z ⟨i1, nm_r (by rw [c1]) ?_⟩
        refine br_f yl (br_t yl2 (br_f wp (br_t wp2 ⟨i1, br_f z ?_⟩)))
        unfold wY_edge_43
        rw [e1]
        exact ⟨i1, nm_r (by rw [c1]) ⟨rfl, J _⟩⟩
theorem i_vc_label {k : Nat} {u : SX} {v : SY} (I : i_Rel k u v) (hk : k + 4 ≤ 2048) (v1 : Int32) : wpX_label (fun r u' => wpY_label (fun r' v' => r' = r ∧ i_Rel (k + 4) u' v') v v1) u v1 := by
  obtain ⟨m, ed, K, R, A, jo, B, hm, hok, rfl, rfl⟩ := I
  have I : pa_Rel (nI m, nI (pa_d K m), ed, K, R, A, jo) (nI m, nI (pa_d K m), ed, K, R, B) := ⟨m, ed, K, R, A, jo, B, hm, hok, rfl, rfl⟩
  unfold wpX_label wpY_label
  dsimp only
  rcases pa_lb v1 with z | ⟨l, hl, rfl⟩
  · refine px_isL_n z (br_t rfl ?_)
    rcases z with z | z
    · exact br_t z ⟨rfl, I⟩
    · exact br_f (pa_ge (n := 2) (by decide) z).1 (br_f (pa_ge (n := 2) (by decide) z).2.1 ⟨rfl, I⟩)
  · have yl : ¬ nI l < 0 := nI_pos (by omega)
    have yl2 : nI l ≤ 2 := nI_le (b := 2) (by omega) (by decide)
    obtain ⟨r, u', v', hR, hX, hY⟩ := pa_add (t := 0) (kk := 0) (rr := nI l) (ed := ed) (A := A) (jo := jo) (B := B) hm hok (by decide) (fun d _ h6 => ⟨Or.inl ⟨rfl, ⟨l, hl, rfl⟩, h6 rfl⟩, pa_dep_0 d⟩)
    obtain ⟨m2, ed2, K2, R2, A2, jo2, B2, hm2, hok2, rfl, rfl⟩ := hR
    refine px_isL_y hl (br_f (by decide) (hX _ ?_))
    exact br_f yl (br_t yl2 (hY _ ⟨rfl, m2, ed2, K2, R2, A2, jo2, B2, hm2, hok2, rfl, rfl⟩))
theorem i_vc_back {k : Nat} {u : SX} {v : SY} (I : i_Rel k u v) (hk : k + 4 ≤ 2048) (v1 : Int32) : wpX_back (fun r u' => wpY_back (fun r' v' => r' = r ∧ i_Rel (k + 4) u' v') v v1) u v1 := by
  obtain ⟨m, ed, K, R, A, jo, B, hm, hok, rfl, rfl⟩ := I
  have I : pa_Rel (nI m, nI (pa_d K m), ed, K, R, A, jo) (nI m, nI (pa_d K m), ed, K, R, B) := ⟨m, ed, K, R, A, jo, B, hm, hok, rfl, rfl⟩
  unfold wpX_back wpY_back
  dsimp only
  rcases pa_lb v1 with z | ⟨l, hl, rfl⟩
  · refine px_isL_n z (br_t rfl ?_)
    rcases z with z | z
    · exact br_t z ⟨rfl, I⟩
    · exact br_f (pa_ge (n := 2) (by decide) z).1 (br_f (pa_ge (n := 2) (by decide) z).2.1 ⟨rfl, I⟩)
  · have yl : ¬ nI l < 0 := nI_pos (by omega)
    have yl2 : nI l ≤ 2 := nI_le (b := 2) (by omega) (by decide)
    obtain ⟨r, u', v', hR, hX, hY⟩ := pa_add (t := 0) (kk := 1) (rr := nI l) (ed := ed) (A := A) (jo := jo) (B := B) hm hok (by decide) (fun d _ h6 => ⟨Or.inr (Or.inl ⟨rfl, ⟨l, hl, rfl⟩, h6 rfl⟩), pa_dep_1 d⟩)
    obtain ⟨m2, ed2, K2, R2, A2, jo2, B2, hm2, hok2, rfl, rfl⟩ := hR
    refine px_isL_y hl (br_f (by decide) (hX _ ?_))
    exact br_f yl (br_t yl2 (hY _ ⟨rfl, m2, ed2, K2, R2, A2, jo2, B2, hm2, hok2, rfl, rfl⟩))
theorem i_vc_at {k : Nat} {u : SX} {v : SY} (I : i_Rel k u v) (hk : k + 4 ≤ 2048) (v1 : Int32) : wpX_at (fun r u' => wpY_at (fun r' v' => r' = r ∧ i_Rel (k + 4) u' v') v v1) u v1 := by
  obtain ⟨m, ed, K, R, A, jo, B, hm, hok, rfl, rfl⟩ := I
  have I : pa_Rel (nI m, nI (pa_d K m), ed, K, R, A, jo) (nI m, nI (pa_d K m), ed, K, R, B) := ⟨m, ed, K, R, A, jo, B, hm, hok, rfl, rfl⟩
  have go : (v1 = -1 ∨ ∃ n, n < 8 ∧ v1 = nI n) → ∃ r u' v', pa_Rel u' v' ∧ (∀ P : Int32 → SX → Prop, P r u' → wpX_addStep P (nI m, nI (pa_d K m), ed, K, R, A, jo) 2 v1 (nI 0)) ∧ (∀ P : Int32 → SY → Prop, P r v' → wpY_step P (nI m, nI (pa_d K m), ed, K, R, B) 2 v1 (nI 0)) :=
    fun h => pa_add (t := 0) hm hok (by decide) (fun d _ h6 => ⟨Or.inr (Or.inr (Or.inl ⟨rfl, h, h6 rfl⟩)), pa_dep_2 d⟩)
  unfold wpX_at wpY_at
  dsimp only
  by_cases z1 : v1 = -1
  · obtain ⟨r, u', v', hR, hX, hY⟩ := go (Or.inl z1)
    obtain ⟨m2, ed2, K2, R2, A2, jo2, B2, hm2, hok2, rfl, rfl⟩ := hR
    refine br_t z1 (hX _ ?_)
    exact br_f (by rw [z1]; decide) (br_t (by rw [z1]; decide) (hY _ ⟨rfl, m2, ed2, K2, R2, A2, jo2, B2, hm2, hok2, rfl, rfl⟩))
  · refine br_f z1 ?_
    rcases pa_nd v1 with z | ⟨a, ha, rfl⟩
    · refine px_isN_n z (br_t rfl ?_)
      rcases z with z | z
      · have w : v1 < -1 := by
          rw [Int32.lt_iff_toInt_lt] at z ⊢
          have h0 : (0 : Int32).toInt = 0 := by decide
          have h1 : (-1 : Int32).toInt = -1 := by decide
          have h2 : ¬ v1.toInt = -1 := fun y => z1 (Int32.toInt_inj.mp (y.trans h1.symm))
          omega
        exact br_t w ⟨rfl, I⟩
      · have w : ¬ v1 < -1 := by
          intro y
          have q := (pa_ge (n := 7) (by decide) z).1
          exact q (Int32.lt_trans y (by decide))
        exact br_f w (br_f (pa_ge (n := 7) (by decide) z).2.1 ⟨rfl, I⟩)
    · obtain ⟨r, u', v', hR, hX, hY⟩ := go (Or.inr ⟨a, ha, rfl⟩)
      obtain ⟨m2, ed2, K2, R2, A2, jo2, B2, hm2, hok2, rfl, rfl⟩ := hR
      have w : ¬ nI a < -1 := fun y => nI_pos (n := a) (by omega) (Int32.lt_trans y (by decide))
      refine px_isN_y ha (br_f (by decide) (hX _ ?_))
      exact br_f w (br_t (nI_le (b := 7) (by omega) (by decide)) (hY _ ⟨rfl, m2, ed2, K2, R2, A2, jo2, B2, hm2, hok2, rfl, rfl⟩))
theorem i_vc_then {k : Nat} {u : SX} {v : SY} (I : i_Rel k u v) (hk : k + 4 ≤ 2048) : wpX_then (fun r u' => wpY_then (fun r' v' => r' = r ∧ i_Rel (k + 4) u' v') v) u := by
  obtain ⟨m, ed, K, R, A, jo, B, hm, hok, rfl, rfl⟩ := I
  obtain ⟨r, u', v', hR, hX, hY⟩ := pa_add (t := 2) (kk := 3) (rr := 0) (ed := ed) (A := A) (jo := jo) (B := B) hm hok (by decide) (fun d hd _ => ⟨Or.inr (Or.inr (Or.inr (Or.inl ⟨rfl, hd⟩))), (pa_dep_3 d).trans (by omega)⟩)
  obtain ⟨m2, ed2, K2, R2, A2, jo2, B2, hm2, hok2, rfl, rfl⟩ := hR
  unfold wpX_then wpY_then
  dsimp only
  exact hX _ (hY _ ⟨rfl, m2, ed2, K2, R2, A2, jo2, B2, hm2, hok2, rfl, rfl⟩)
theorem i_vc_or {k : Nat} {u : SX} {v : SY} (I : i_Rel k u v) (hk : k + 4 ≤ 2048) : wpX_or (fun r u' => wpY_or (fun r' v' => r' = r ∧ i_Rel (k + 4) u' v') v) u := by
  obtain ⟨m, ed, K, R, A, jo, B, hm, hok, rfl, rfl⟩ := I
  obtain ⟨r, u', v', hR, hX, hY⟩ := pa_add (t := 2) (kk := 4) (rr := 0) (ed := ed) (A := A) (jo := jo) (B := B) hm hok (by decide) (fun d hd _ => ⟨Or.inr (Or.inr (Or.inr (Or.inr (Or.inl ⟨rfl, hd⟩)))), (pa_dep_4 d).trans (by omega)⟩)
  obtain ⟨m2, ed2, K2, R2, A2, jo2, B2, hm2, hok2, rfl, rfl⟩ := hR
  unfold wpX_or wpY_or
  dsimp only
  exact hX _ (hY _ ⟨rfl, m2, ed2, K2, R2, A2, jo2, B2, hm2, hok2, rfl, rfl⟩)
theorem i_vc_star {k : Nat} {u : SX} {v : SY} (I : i_Rel k u v) (hk : k + 4 ≤ 2048) : wpX_star (fun r u' => wpY_star (fun r' v' => r' = r ∧ i_Rel (k + 4) u' v') v) u := by
  obtain ⟨m, ed, K, R, A, jo, B, hm, hok, rfl, rfl⟩ := I
  obtain ⟨r, u', v', hR, hX, hY⟩ := pa_add (t := 1) (kk := 5) (rr := 0) (ed := ed) (A := A) (jo := jo) (B := B) hm hok (by decide) (fun d hd _ => ⟨Or.inr (Or.inr (Or.inr (Or.inr (Or.inr ⟨rfl, hd⟩)))), (pa_dep_5 d).trans (by omega)⟩)
  obtain ⟨m2, ed2, K2, R2, A2, jo2, B2, hm2, hok2, rfl, rfl⟩ := hR
  unfold wpX_star wpY_star
  dsimp only
  exact hX _ (hY _ ⟨rfl, m2, ed2, K2, R2, A2, jo2, B2, hm2, hok2, rfl, rfl⟩)
theorem i_vc_clear {k : Nat} {u : SX} {v : SY} (I : i_Rel k u v) (hk : k + 4 ≤ 2048) : wpX_clear (fun u' => wpY_clear (fun v' => i_Rel (k + 4) u' v') v) u := by
  obtain ⟨m, ed, K, R, A, jo, B, hm, hok, rfl, rfl⟩ := I
  exact ⟨0, ed, K, R, A, jo, B, Nat.zero_le _, fun i hi => absurd hi (Nat.not_lt_zero i), rfl, rfl⟩
theorem i_vc_leads {k : Nat} {u : SX} {v : SY} (I : i_Rel k u v) (hk : k + 4 ≤ 2048) (v1 : Int32) (v2 : Int32) : wpX_leads (fun r u' => wpY_leads (fun r' v' => r' = r ∧ i_Rel (k + 4) u' v') v v1 v2) u v1 v2 := by
  obtain ⟨m, ed, K, R, A, jo, B, hm, hok, rfl, rfl⟩ := I
  have I : pa_Rel (nI m, nI (pa_d K m), ed, K, R, A, jo) (nI m, nI (pa_d K m), ed, K, R, B) := ⟨m, ed, K, R, A, jo, B, hm, hok, rfl, rfl⟩
  obtain ⟨hR, hd⟩ := pa_ask (ed := ed) hm hok
  unfold wpX_leads wpY_leads
  dsimp only
  rcases pa_nd v1 with z | ⟨a, ha, rfl⟩
  · exact px_isN_n z (br_t rfl (py_bad_y z (br_f (by decide) ⟨rfl, I⟩)))
  refine px_isN_y ha (br_f (by decide) ?_)
  rcases pa_nd v2 with z | ⟨b, hb, rfl⟩
  · exact px_isN_n z (br_t rfl (py_bad_n ha (br_t rfl (py_bad_y z (br_f (by decide) ⟨rfl, I⟩)))))
  refine px_isN_y hb (br_f (by decide) (px_top hm hok (fun A' jo' hX => ?_)))
  obtain ⟨i1, v1⟩ := pa_A_at (pa_XP_T hX) (by omega) ha hb
  have r := hR a b ha hb
  refine ⟨i1, pa_bx v1 r (fun w => ?_) (fun w => ?_)⟩
  · refine py_bad_n ha (br_t rfl (py_bad_n hb (br_t rfl (py_top hm hok (fun B' hY => ?_)))))
    refine py_len hd hY ha hb (pa_by r (fun _ => ⟨rfl, m, ed, K, R, A', jo', B', hm, hok, rfl, rfl⟩) (fun y => by omega))
  · refine py_bad_n ha (br_t rfl (py_bad_n hb (br_t rfl (py_top hm hok (fun B' hY => ?_)))))
    refine py_len hd hY ha hb (pa_by r (fun y => by omega) (fun _ => ⟨rfl, m, ed, K, R, A', jo', B', hm, hok, rfl, rfl⟩))
theorem i_vc_shortest {k : Nat} {u : SX} {v : SY} (I : i_Rel k u v) (hk : k + 4 ≤ 2048) (v1 : Int32) (v2 : Int32) : wpX_shortest (fun r u' => wpY_shortest (fun r' v' => r' = r ∧ i_Rel (k + 4) u' v') v v1 v2) u v1 v2 := by
  obtain ⟨m, ed, K, R, A, jo, B, hm, hok, rfl, rfl⟩ := I
  have I : pa_Rel (nI m, nI (pa_d K m), ed, K, R, A, jo) (nI m, nI (pa_d K m), ed, K, R, B) := ⟨m, ed, K, R, A, jo, B, hm, hok, rfl, rfl⟩
  obtain ⟨hR, hd⟩ := pa_ask (ed := ed) hm hok
  unfold wpX_shortest wpY_shortest
  dsimp only
  rcases pa_nd v1 with z | ⟨a, ha, rfl⟩
  · exact px_isN_n z (br_t rfl (py_bad_y z (br_f (by decide) ⟨rfl, I⟩)))
  refine px_isN_y ha (br_f (by decide) ?_)
  rcases pa_nd v2 with z | ⟨b, hb, rfl⟩
  · exact px_isN_n z (br_t rfl (py_bad_n ha (br_t rfl (py_bad_y z (br_f (by decide) ⟨rfl, I⟩)))))
  refine px_isN_y hb (br_f (by decide) (px_top hm hok (fun A' jo' hX => ?_)))
  obtain ⟨i1, v1⟩ := pa_A_at (pa_XP_T hX) (by omega) ha hb
  have r := hR a b ha hb
  refine ⟨i1, nm_r v1 (pa_bx rfl r (fun w => ?_) (fun w => ?_))⟩
  · refine py_bad_n ha (br_t rfl (py_bad_n hb (br_t rfl (py_top hm hok (fun B' hY => ?_)))))
    refine py_len hd hY ha hb (pa_by r (fun _ => ⟨rfl, m, ed, K, R, A', jo', B', hm, hok, rfl, rfl⟩) (fun y => by omega))
  · refine py_bad_n ha (br_t rfl (py_bad_n hb (br_t rfl (py_top hm hok (fun B' hY => ?_)))))
    refine py_len hd hY ha hb (pa_by r (fun y => by omega) (fun _ => ⟨congrArg nI (by omega), m, ed, K, R, A', jo', B', hm, hok, rfl, rfl⟩))
theorem i_vc_reach {k : Nat} {u : SX} {v : SY} (I : i_Rel k u v) (hk : k + 4 ≤ 2048) (v1 : Int32) : wpX_reach (fun r u' => wpY_reach (fun r' v' => r' = r ∧ i_Rel (k + 4) u' v') v v1) u v1 := by
  obtain ⟨m, ed, K, R, A, jo, B, hm, hok, rfl, rfl⟩ := I
  have I : pa_Rel (nI m, nI (pa_d K m), ed, K, R, A, jo) (nI m, nI (pa_d K m), ed, K, R, B) := ⟨m, ed, K, R, A, jo, B, hm, hok, rfl, rfl⟩
  obtain ⟨hR, hd⟩ := pa_ask (ed := ed) hm hok
  unfold wpX_reach wpY_reach
  dsimp only
  rcases pa_nd v1 with z | ⟨a, ha, rfl⟩
  · exact px_isN_n z (br_t rfl (py_bad_y z (br_f (by decide) ⟨rfl, I⟩)))
  refine px_isN_y ha (br_f (by decide) (px_top hm hok (fun A' jo' hX => ?_)))
  refine ⟨9, px_rch (pa_XP_T hX) hR (by omega) ha ?_ 8 0 rfl⟩
  refine py_bad_n ha (br_t rfl (py_top hm hok (fun B' hY => ?_)))
  exact ⟨9, py_rch hY hd hR ha ⟨rfl, m, ed, K, R, A', jo', B', hm, hok, rfl, rfl⟩ 8 0 rfl⟩
theorem i_vc_pairs {k : Nat} {u : SX} {v : SY} (I : i_Rel k u v) (hk : k + 4 ≤ 2048) : wpX_pairs (fun r u' => wpY_pairs (fun r' v' => r' = r ∧ i_Rel (k + 4) u' v') v) u := by
  obtain ⟨m, ed, K, R, A, jo, B, hm, hok, rfl, rfl⟩ := I
  obtain ⟨hR, hd⟩ := pa_ask (ed := ed) hm hok
  unfold wpX_pairs wpY_pairs
  dsimp only
  refine px_top hm hok (fun A' jo' hX => ?_)
  refine ⟨65, px_prs (pa_XP_T hX) hR (by omega) ?_ 64 0 rfl⟩
  refine py_top hm hok (fun B' hY => ?_)
  exact ⟨65, py_prs hY hd hR ⟨congrArg nI (pa_ct_xy _), m, ed, K, R, A', jo', B', hm, hok, rfl, rfl⟩ 64 0 rfl⟩
theorem i_vc_loops {k : Nat} {u : SX} {v : SY} (I : i_Rel k u v) (hk : k + 4 ≤ 2048) : wpX_loops (fun r u' => wpY_loops (fun r' v' => r' = r ∧ i_Rel (k + 4) u' v') v) u := by
  obtain ⟨m, ed, K, R, A, jo, B, hm, hok, rfl, rfl⟩ := I
  obtain ⟨hR, hd⟩ := pa_ask (ed := ed) hm hok
  unfold wpX_loops wpY_loops
  dsimp only
  refine px_top hm hok (fun A' jo' hX => ?_)
  refine ⟨9, px_lps (pa_XP_T hX) hR (by omega) ?_ 8 0 rfl⟩
  refine py_top hm hok (fun B' hY => ?_)
  exact ⟨9, py_lps hY hd hR ⟨rfl, m, ed, K, R, A', jo', B', hm, hok, rfl, rfl⟩ 8 0 rfl⟩
theorem i_vc_widest {k : Nat} {u : SX} {v : SY} (I : i_Rel k u v) (hk : k + 4 ≤ 2048) : wpX_widest (fun r u' => wpY_widest (fun r' v' => r' = r ∧ i_Rel (k + 4) u' v') v) u := by
  obtain ⟨m, ed, K, R, A, jo, B, hm, hok, rfl, rfl⟩ := I
  obtain ⟨hR, hd⟩ := pa_ask (ed := ed) hm hok
  unfold wpX_widest wpY_widest
  dsimp only
  refine px_top hm hok (fun A' jo' hX => ?_)
  refine ⟨65, px_wid (pa_XP_T hX) hR (by omega) ?_ 64 0 rfl⟩
  refine py_top hm hok (fun B' hY => ?_)
  exact ⟨65, py_wid hY hd hR ⟨congrArg pa_vI (pa_mx_xy _), m, ed, K, R, A', jo', B', hm, hok, rfl, rfl⟩ 64 0 rfl⟩
theorem i_vc_steps {k : Nat} {u : SX} {v : SY} (I : i_Rel k u v) (hk : k + 4 ≤ 2048) : wpX_steps (fun r => wpY_steps (fun r' => r' = r ∧ i_Rel (k + 4) u v) v) u := by
  obtain ⟨m, ed, K, R, A, jo, B, hm, hok, rfl, rfl⟩ := I
  exact ⟨rfl, m, ed, K, R, A, jo, B, hm, hok, rfl, rfl⟩
