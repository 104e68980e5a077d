theorem bb_mk {k N L M Q mv fm : Nat} {T : Nat → Nat → Nat → Prop} {c : Nat → Nat} {mi bT : Int32} {tg bs fo A B C kd lf fl rt cl fi ok se de st tr : Nat → Int32} (h : bb_Rl N L M Q mv fm T c mi bT tg bs fo A B C kd lf fl rt cl) :
    i_Rel k (nI N, nI L, nI M, nI Q, nI mv, mi, bT, nI fm, tg, bs, fo) (nI N, nI L, nI M, nI Q, mi, nI mv, nI fm, A, B, C, kd, lf, fl, rt, cl, fi, ok, se, de, st, tr) :=
  ⟨N, L, M, Q, mv, fm, T, c, mi, bT, tg, bs, fo, A, B, C, kd, lf, fl, rt, cl, fi, ok, se, de, st, tr, rfl, rfl, h⟩
section
variable {N L : Nat} {xml xql xmt xmi xbT xft : Int32} {xtg xbs xfo : Nat → Int32}
theorem bx_pre {P G : Prop} {p0 p1 p2 : Int32} (hN : N ≤ 12) (hL : L ≤ 3) (hbad : ((∀ s, s < N → p0 ≠ nI s) ∨ (∀ s, s < L + 1 → p1 ≠ nI s) ∨ (∀ s, s < N → p2 ≠ nI s)) → P)
    (hok : ∀ s a t, s < N → a < L + 1 → t < N → p0 = nI s → p1 = nI a → p2 = nI t → G) :
    wpX_isState (fun r => (r = 0 → P) ∧ (¬ r = 0 → wpX_isLabel (fun r => (r = 0 → P) ∧ (¬ r = 0 → wpX_isState (fun r => (r = 0 → P) ∧ (¬ r = 0 → G)) ((nI N), (nI L), xml, xql, xmt, xmi, xbT, xft, xtg, xbs, xfo) p2)) ((nI N), (nI L), xml, xql, xmt, xmi, xbT, xft, xtg, xbs, xfo) p1)) ((nI N), (nI L), xml, xql, xmt, xmi, xbT, xft, xtg, xbs, xfo) p0 := by
  rcases bb_cs p0 N with ⟨s, hs, e1⟩ | hs
  · rcases bb_cs p1 (L + 1) with ⟨a, ha, e2⟩ | ha
    · rcases bb_cs p2 N with ⟨t, ht, e3⟩ | ht
      · have g := hok s a t hs ha ht e1 e2 e3
        subst e1 e2 e3
        exact bx_st_i hN hs (br_f (by decide) (bx_lb_i hL ha (br_f (by decide) (bx_st_i hN ht (br_f (by decide) g)))))
      · subst e1 e2
        exact bx_st_i hN hs (br_f (by decide) (bx_lb_i hL ha (br_f (by decide) (bx_st_o hN ht (br_t rfl (hbad (Or.inr (Or.inr ht))))))))
    · subst e1
      exact bx_st_i hN hs (br_f (by decide) (bx_lb_o hL ha (br_t rfl (hbad (Or.inr (Or.inl ha))))))
  · exact bx_st_o hN hs (br_t rfl (hbad (Or.inl hs)))
theorem bx_preB {P G : Prop} {p0 p1 p2 : Int32} {m : Nat} (hm : m ≤ 12) (hL : L ≤ 3) (hbad : ((∀ s, s < m → p0 ≠ nI s) ∨ (∀ s, s < L + 1 → p1 ≠ nI s) ∨ (∀ s, s < m → p2 ≠ nI s)) → P)
    (hok : ∀ s a t, s < m → a < L + 1 → t < m → p0 = nI s → p1 = nI a → p2 = nI t → G) :
    wpX_isBlock (fun r => (r = 0 → P) ∧ (¬ r = 0 → wpX_isLabel (fun r => (r = 0 → P) ∧ (¬ r = 0 → wpX_isBlock (fun r => (r = 0 → P) ∧ (¬ r = 0 → G)) ((nI N), (nI L), xml, xql, xmt, xmi, nI m, xft, xtg, xbs, xfo) p2)) ((nI N), (nI L), xml, xql, xmt, xmi, nI m, xft, xtg, xbs, xfo) p1)) ((nI N), (nI L), xml, xql, xmt, xmi, nI m, xft, xtg, xbs, xfo) p0 := by
  rcases bb_cs p0 m with ⟨s, hs, e1⟩ | hs
  · rcases bb_cs p1 (L + 1) with ⟨a, ha, e2⟩ | ha
    · rcases bb_cs p2 m with ⟨t, ht, e3⟩ | ht
      · have g := hok s a t hs ha ht e1 e2 e3
        subst e1 e2 e3
        exact bx_bl_i hm hs (br_f (by decide) (bx_lb_i hL ha (br_f (by decide) (bx_bl_i hm ht (br_f (by decide) g)))))
      · subst e1 e2
        exact bx_bl_i hm hs (br_f (by decide) (bx_lb_i hL ha (br_f (by decide) (bx_bl_o hm ht (br_t rfl (hbad (Or.inr (Or.inr ht))))))))
    · subst e1
      exact bx_bl_i hm hs (br_f (by decide) (bx_lb_o hL ha (br_t rfl (hbad (Or.inr (Or.inl ha))))))
  · exact bx_bl_o hm hs (br_t rfl (hbad (Or.inl hs)))
end
theorem i_vc_addMove {k : Nat} {u : SX} {v : SY} (I : i_Rel k u v) (hk : k + 5 ≤ 2564) (v1 : Int32) (v2 : Int32) (v3 : Int32) : wpX_addMove (fun r u' => wpY_addMove (fun r' v' => r' = r ∧ i_Rel (k + 5) u' v') v v1 v2 v3) u v1 v2 v3 := by
  obtain ⟨N, L, M, Q, mv, fm, T, c, mi, bT, tg, bs, fo, A, B, C, kd, lf, fl, rt, cl, fi, ok, se, de, st, tr, rfl, rfl, R⟩ := I
  have rel : ∀ ok se tr, i_Rel (k + 5) (nI N, nI L, nI M, nI Q, nI mv, mi, bT, nI fm, tg, bs, fo) (nI N, nI L, nI M, nI Q, mi, nI mv, nI fm, A, B, C, kd, lf, fl, rt, cl, fi, ok, se, de, st, tr) := fun ok se tr => bb_mk R
  obtain ⟨h2, hN, hL, hM, hQ, hmv, hfm, hMo, hm⟩ := R
  have hX := hMo.1
  have hY := hMo.2.1
  have hB := bb_cn_le (bb_ldr c) N
  rcases hm with ⟨e, ef⟩ | ⟨e, hmi⟩
  · subst e
    unfold wpX_addMove
    dsimp only
    refine br_t rfl (bx_pre hN hL (fun h => ?_) (fun s a t hs ha ht e1 e2 e3 => ?_))
    · unfold wpY_addMove
      dsimp only
      exact br_t rfl (by_bm_o hN hL h (br_f (by decide) ⟨rfl, rel _ _ _⟩))
    · subst e1 e2 e3
      refine bx_mit hX hN hL (by omega) hs ht (fun q => br_f (by decide) ?_) (fun q => br_t rfl (pk_lt mv M (fun z => ?_) (fun z => ?_)))
      · unfold wpY_addMove
        dsimp only
        exact br_t rfl (by_bm_i hN hL hs ha ht (br_t rfl (by_find hY (by omega) (fun m hm _ _ _ => br_f (nI_pos (by omega)) ⟨rfl, rel _ _ _⟩) (fun z => absurd q z))))
      · unfold wpX_row
        dsimp only
        rw [bb_row, nI_clamp (n := a * 12 + s) (by omega)]
        refine ⟨vp_in_nI (by omega) (by decide), vp_in_nI (by omega) (by decide), nm_e (nm_r (nI_1 mv) ?_)⟩
        unfold wpY_addMove
        dsimp only
        refine br_t rfl (by_bm_i hN hL hs ha ht (br_t rfl (by_find hY (by omega) (fun m hm e1 e2 e3 => absurd (by_Tof hY hN hL hm hs (by omega) ht e1 e2 e3) q) (fun _ => br_t (by decide) (br_t (nI_lt z (by omega)) ?_)))))
        rw [nI_clamp (n := mv) (by omega)]
        have v1 := vp_in_nI (n := mv) (N := 32) (by omega) (by decide)
        exact ⟨v1, nm_e ⟨v1, nm_e ⟨v1, nm_e (nm_r (nI_1 mv) ⟨rfl, bb_mk (c := c) ⟨h2, hN, hL, hM, hQ, by omega, hfm, bb_mo_add hN hL hMo hs (by omega) ht q, Or.inl ⟨rfl, ef⟩⟩⟩)⟩⟩⟩
      · unfold wpY_addMove
        dsimp only
        exact br_t rfl (by_bm_i hN hL hs ha ht (br_t rfl (by_find hY (by omega) (fun m hm e1 e2 e3 => absurd (by_Tof hY hN hL hm hs (by omega) ht e1 e2 e3) q) (fun _ => br_t (by decide) (br_f (nI_nlt z (by omega)) ⟨rfl, rel _ _ _⟩)))))
  · subst e
    exact br_f (by decide) (br_f (by decide) ⟨rfl, rel _ _ _⟩)
theorem i_vc_removeMove {k : Nat} {u : SX} {v : SY} (I : i_Rel k u v) (hk : k + 5 ≤ 2564) (v1 : Int32) (v2 : Int32) (v3 : Int32) : wpX_removeMove (fun r u' => wpY_removeMove (fun r' v' => r' = r ∧ i_Rel (k + 5) u' v') v v1 v2 v3) u v1 v2 v3 := by
  obtain ⟨N, L, M, Q, mv, fm, T, c, mi, bT, tg, bs, fo, A, B, C, kd, lf, fl, rt, cl, fi, ok, se, de, st, tr, rfl, rfl, R⟩ := I
  have rel : ∀ ok se tr, i_Rel (k + 5) (nI N, nI L, nI M, nI Q, nI mv, mi, bT, nI fm, tg, bs, fo) (nI N, nI L, nI M, nI Q, mi, nI mv, nI fm, A, B, C, kd, lf, fl, rt, cl, fi, ok, se, de, st, tr) := fun ok se tr => bb_mk R
  obtain ⟨h2, hN, hL, hM, hQ, hmv, hfm, hMo, hm⟩ := R
  have hX := hMo.1
  have hY := hMo.2.1
  have hB := bb_cn_le (bb_ldr c) N
  rcases hm with ⟨e, ef⟩ | ⟨e, hmi⟩
  · subst e
    unfold wpX_removeMove
    dsimp only
    refine br_t rfl (bx_pre hN hL (fun h => ?_) (fun s a t hs ha ht e1 e2 e3 => ?_))
    · unfold wpY_removeMove
      dsimp only
      exact br_t rfl (by_bm_o hN hL h (br_f (by decide) ⟨rfl, rel _ _ _⟩))
    · subst e1 e2 e3
      refine bx_mit hX hN hL (by omega) hs ht (fun q => br_f (by decide) ?_) (fun q => br_t rfl ?_)
      · obtain ⟨m0, hm0, _⟩ := hY.2.1 _ _ _ q
        obtain ⟨w, rfl⟩ : ∃ w, mv = w + 1 := ⟨mv - 1, by omega⟩
        unfold wpX_row
        dsimp only
        rw [bb_row, nI_clamp (n := a * 12 + s) (by omega)]
        refine ⟨vp_in_nI (by omega) (by decide), vp_in_nI (by omega) (by decide), nm_e (nm_r (nI_pred w) ?_)⟩
        unfold wpY_removeMove
        dsimp only
        refine br_t rfl (by_bm_i hN hL hs ha ht (br_t rfl (by_find hY (by omega) (fun m hm e1 e2 e3 => br_t (nI_pos' (by omega)) (nm_r (nI_pred w) ?_)) (fun z => absurd q z))))
        rw [nI_clamp (n := m) (by omega), nI_clamp (n := w) (by omega)]
        have v1 := vp_in_nI (n := w) (N := 32) (by omega) (by decide)
        have v2 := vp_in_nI (n := m) (N := 32) (by omega) (by decide)
        exact ⟨v1, v2, nm_e ⟨v1, v2, nm_e ⟨v1, v2, nm_e ⟨rfl, bb_mk (c := c) ⟨h2, hN, hL, hM, hQ, by omega, hfm, bb_mo_del hN hL hMo hs (by omega) ht hm e1 e2 e3, Or.inl ⟨rfl, ef⟩⟩⟩⟩⟩⟩
      · unfold wpY_removeMove
        dsimp only
        exact br_t rfl (by_bm_i hN hL hs ha ht (br_t rfl (by_find hY (by omega) (fun m hm e1 e2 e3 => absurd (by_Tof hY hN hL hm hs (by omega) ht e1 e2 e3) q) (fun _ => br_f (by decide) ⟨rfl, rel _ _ _⟩))))
  · subst e
    exact br_f (by decide) (br_f (by decide) ⟨rfl, rel _ _ _⟩)
theorem i_vc_hasMove {k : Nat} {u : SX} {v : SY} (I : i_Rel k u v) (hk : k + 5 ≤ 2564) (v1 : Int32) (v2 : Int32) (v3 : Int32) : wpX_hasMove (fun r => wpY_hasMove (fun r' => r' = r ∧ i_Rel (k + 5) u v) v v1 v2 v3) u v1 v2 v3 := by
  obtain ⟨N, L, M, Q, mv, fm, T, c, mi, bT, tg, bs, fo, A, B, C, kd, lf, fl, rt, cl, fi, ok, se, de, st, tr, rfl, rfl, R⟩ := I
  have rel : ∀ ok se tr, i_Rel (k + 5) (nI N, nI L, nI M, nI Q, nI mv, mi, bT, nI fm, tg, bs, fo) (nI N, nI L, nI M, nI Q, mi, nI mv, nI fm, A, B, C, kd, lf, fl, rt, cl, fi, ok, se, de, st, tr) := fun ok se tr => bb_mk R
  obtain ⟨h2, hN, hL, hM, hQ, hmv, hfm, hMo, hm⟩ := R
  have hX := hMo.1
  have hY := hMo.2.1
  have hB := bb_cn_le (bb_ldr c) N
  unfold wpX_hasMove
  dsimp only
  refine bx_pre hN hL (fun h => ?_) (fun s a t hs ha ht e1 e2 e3 => ?_)
  · unfold wpY_hasMove
    dsimp only
    exact by_bm_o hN hL h (br_f (by decide) ⟨rfl, rel _ _ _⟩)
  · subst e1 e2 e3
    refine bx_mit hX hN hL (by omega) hs ht (fun q => br_f (by decide) ?_) (fun q => br_t rfl ?_)
    · unfold wpY_hasMove
      dsimp only
      exact by_bm_i hN hL hs ha ht (br_t rfl (by_find hY (by omega) (fun m hm _ _ _ => br_f (nI_pos (by omega)) ⟨rfl, rel _ _ _⟩) (fun z => absurd q z)))
    · unfold wpY_hasMove
      dsimp only
      exact by_bm_i hN hL hs ha ht (br_t rfl (by_find hY (by omega) (fun m hm e1 e2 e3 => absurd (by_Tof hY hN hL hm hs (by omega) ht e1 e2 e3) q) (fun _ => br_t (by decide) ⟨rfl, rel _ _ _⟩)))
theorem i_vc_moveCount {k : Nat} {u : SX} {v : SY} (I : i_Rel k u v) (hk : k + 5 ≤ 2564) : wpX_moveCount (fun r => wpY_moveCount (fun r' => r' = r ∧ i_Rel (k + 5) u v) v) u := by
  obtain ⟨N, L, M, Q, mv, fm, T, c, mi, bT, tg, bs, fo, A, B, C, kd, lf, fl, rt, cl, fi, ok, se, de, st, tr, rfl, rfl, R⟩ := I
  have rel : ∀ ok se tr, i_Rel (k + 5) (nI N, nI L, nI M, nI Q, nI mv, mi, bT, nI fm, tg, bs, fo) (nI N, nI L, nI M, nI Q, mi, nI mv, nI fm, A, B, C, kd, lf, fl, rt, cl, fi, ok, se, de, st, tr) := fun ok se tr => bb_mk R
  obtain ⟨h2, hN, hL, hM, hQ, hmv, hfm, hMo, hm⟩ := R
  have hX := hMo.1
  have hY := hMo.2.1
  have hB := bb_cn_le (bb_ldr c) N
  exact ⟨rfl, rel _ _ _⟩
theorem i_vc_minimise {k : Nat} {u : SX} {v : SY} (I : i_Rel k u v) (hk : k + 5 ≤ 2564) : wpX_minimise (fun r u' => wpY_minimise (fun r' v' => r' = r ∧ i_Rel (k + 5) u' v') v) u := by
  obtain ⟨N, L, M, Q, mv, fm, T, c, mi, bT, tg, bs, fo, A, B, C, kd, lf, fl, rt, cl, fi, ok, se, de, st, tr, rfl, rfl, R⟩ := I
  have rel : ∀ ok se tr, i_Rel (k + 5) (nI N, nI L, nI M, nI Q, nI mv, mi, bT, nI fm, tg, bs, fo) (nI N, nI L, nI M, nI Q, mi, nI mv, nI fm, A, B, C, kd, lf, fl, rt, cl, fi, ok, se, de, st, tr) := fun ok se tr => bb_mk R
  obtain ⟨h2, hN, hL, hM, hQ, hmv, hfm, hMo, hm⟩ := R
  have hX := hMo.1
  have hY := hMo.2.1
  have hB := bb_cn_le (bb_ldr c) N
  rcases hm with ⟨e, ef⟩ | ⟨e, hmi⟩
  · subst e ef
    obtain ⟨l, hl⟩ := bb_ldx N T
    refine bx_min hX h2 hN hL hl (fun g hc hg => by_min hY h2 hN hL (by omega) hl (fun cl' fi' ok' se' de' st' hcl => ⟨rfl, bb_mk (c := l) (fm := 0) ⟨h2, hN, hL, hM, hQ, hmv, Nat.zero_le _, hMo, Or.inr ⟨rfl, rfl, hc, hcl, hg, fun f hf => absurd hf (Nat.not_lt_zero _)⟩⟩⟩))
  · subst e
    exact br_f (by decide) (br_f (by decide) ⟨rfl, rel _ _ _⟩)
theorem i_vc_reopen {k : Nat} {u : SX} {v : SY} (I : i_Rel k u v) (hk : k + 5 ≤ 2564) : wpX_reopen (fun r u' => wpY_reopen (fun r' v' => r' = r ∧ i_Rel (k + 5) u' v') v) u := by
  obtain ⟨N, L, M, Q, mv, fm, T, c, mi, bT, tg, bs, fo, A, B, C, kd, lf, fl, rt, cl, fi, ok, se, de, st, tr, rfl, rfl, R⟩ := I
  have rel : ∀ ok se tr, i_Rel (k + 5) (nI N, nI L, nI M, nI Q, nI mv, mi, bT, nI fm, tg, bs, fo) (nI N, nI L, nI M, nI Q, mi, nI mv, nI fm, A, B, C, kd, lf, fl, rt, cl, fi, ok, se, de, st, tr) := fun ok se tr => bb_mk R
  obtain ⟨h2, hN, hL, hM, hQ, hmv, hfm, hMo, hm⟩ := R
  have hX := hMo.1
  have hY := hMo.2.1
  have hB := bb_cn_le (bb_ldr c) N
  rcases hm with ⟨e, ef⟩ | ⟨e, hmi⟩
  · subst e
    exact br_t rfl (br_t rfl ⟨rfl, rel _ _ _⟩)
  · subst e
    exact br_f (by decide) (br_f (by decide) ⟨rfl, bb_mk (c := c) (fm := 0) ⟨h2, hN, hL, hM, hQ, hmv, Nat.zero_le _, hMo, Or.inl ⟨rfl, rfl⟩⟩⟩)
theorem i_vc_blockCount {k : Nat} {u : SX} {v : SY} (I : i_Rel k u v) (hk : k + 5 ≤ 2564) : wpX_blockCount (fun r => wpY_blockCount (fun r' => r' = r ∧ i_Rel (k + 5) u v) v) u := by
  obtain ⟨N, L, M, Q, mv, fm, T, c, mi, bT, tg, bs, fo, A, B, C, kd, lf, fl, rt, cl, fi, ok, se, de, st, tr, rfl, rfl, R⟩ := I
  have rel : ∀ ok se tr, i_Rel (k + 5) (nI N, nI L, nI M, nI Q, nI mv, mi, bT, nI fm, tg, bs, fo) (nI N, nI L, nI M, nI Q, mi, nI mv, nI fm, A, B, C, kd, lf, fl, rt, cl, fi, ok, se, de, st, tr) := fun ok se tr => bb_mk R
  obtain ⟨h2, hN, hL, hM, hQ, hmv, hfm, hMo, hm⟩ := R
  have hX := hMo.1
  have hY := hMo.2.1
  have hB := bb_cn_le (bb_ldr c) N
  rcases hm with ⟨e, ef⟩ | ⟨e, hmi⟩
  · subst e
    exact br_t rfl (br_t rfl ⟨rfl, rel _ _ _⟩)
  subst e
  obtain ⟨rfl, hc, hcl, hg, hF⟩ := hmi
  have hC : by_C N c cl := fun v hv => ⟨hcl v hv, by have := (hc v hv).1; omega⟩
  have eB : ∀ i, i < bb_cn (bb_ldr c) N → bb_BS bs i = bb_Bn N c i := fun i hi => by
    funext s
    exact propext (hg i s hi)
  refine br_f (by decide) ?_
  unfold wpY_blockCount
  dsimp only
  exact br_f (by decide) (by_bc14 hN hC ⟨rfl, rel _ _ _⟩)
theorem i_vc_blockOf {k : Nat} {u : SX} {v : SY} (I : i_Rel k u v) (hk : k + 5 ≤ 2564) (v1 : Int32) : wpX_blockOf (fun r => wpY_blockOf (fun r' => r' = r ∧ i_Rel (k + 5) u v) v v1) u v1 := by
  obtain ⟨N, L, M, Q, mv, fm, T, c, mi, bT, tg, bs, fo, A, B, C, kd, lf, fl, rt, cl, fi, ok, se, de, st, tr, rfl, rfl, R⟩ := I
  have rel : ∀ ok se tr, i_Rel (k + 5) (nI N, nI L, nI M, nI Q, nI mv, mi, bT, nI fm, tg, bs, fo) (nI N, nI L, nI M, nI Q, mi, nI mv, nI fm, A, B, C, kd, lf, fl, rt, cl, fi, ok, se, de, st, tr) := fun ok se tr => bb_mk R
  obtain ⟨h2, hN, hL, hM, hQ, hmv, hfm, hMo, hm⟩ := R
  have hX := hMo.1
  have hY := hMo.2.1
  have hB := bb_cn_le (bb_ldr c) N
  rcases hm with ⟨e, ef⟩ | ⟨e, hmi⟩
  · subst e
    exact br_t rfl (br_t rfl ⟨rfl, rel _ _ _⟩)
  subst e
  obtain ⟨rfl, hc, hcl, hg, hF⟩ := hmi
  have hC : by_C N c cl := fun v hv => ⟨hcl v hv, by have := (hc v hv).1; omega⟩
  have eB : ∀ i, i < bb_cn (bb_ldr c) N → bb_BS bs i = bb_Bn N c i := fun i hi => by
    funext s
    exact propext (hg i s hi)
  have bw : ∀ s, s < N → ∀ post : Int32 → Prop, post (nI (bb_nb c s)) → wpX_blockWith post (nI N, nI L, nI M, nI Q, nI mv, 1, nI (bb_cn (bb_ldr c) N), nI fm, tg, bs, fo) (nI s) := by
    intro s hs post hp
    exact bx_bw (k := bb_nb c s) (by omega) (by omega) (bb_nb_lt hc hs) ((hg _ s (bb_nb_lt hc hs)).mpr ⟨hs, rfl⟩) (fun i hi q => ((hg i s hi).mp q).2.symm) hp
  unfold wpX_blockOf
  dsimp only
  refine br_f (by decide) ?_
  rcases bb_cs v1 N with ⟨s, hs, e1⟩ | hs
  · subst e1
    exact bx_st_i hN hs (br_f (by decide) (bw s hs _ (by_bo hN hC hc hs ⟨rfl, rel _ _ _⟩)))
  · refine bx_st_o hN hs (br_t rfl ?_)
    unfold wpY_blockOf
    dsimp only
    exact br_f (by decide) (by_ns_o hN hs (br_f (by decide) ⟨rfl, rel _ _ _⟩))
theorem i_vc_leader {k : Nat} {u : SX} {v : SY} (I : i_Rel k u v) (hk : k + 5 ≤ 2564) (v1 : Int32) : wpX_leader (fun r => wpY_leader (fun r' => r' = r ∧ i_Rel (k + 5) u v) v v1) u v1 := by
  obtain ⟨N, L, M, Q, mv, fm, T, c, mi, bT, tg, bs, fo, A, B, C, kd, lf, fl, rt, cl, fi, ok, se, de, st, tr, rfl, rfl, R⟩ := I
  have rel : ∀ ok se tr, i_Rel (k + 5) (nI N, nI L, nI M, nI Q, nI mv, mi, bT, nI fm, tg, bs, fo) (nI N, nI L, nI M, nI Q, mi, nI mv, nI fm, A, B, C, kd, lf, fl, rt, cl, fi, ok, se, de, st, tr) := fun ok se tr => bb_mk R
  obtain ⟨h2, hN, hL, hM, hQ, hmv, hfm, hMo, hm⟩ := R
  have hX := hMo.1
  have hY := hMo.2.1
  have hB := bb_cn_le (bb_ldr c) N
  rcases hm with ⟨e, ef⟩ | ⟨e, hmi⟩
  · subst e
    exact br_t rfl (br_t rfl ⟨rfl, rel _ _ _⟩)
  subst e
  obtain ⟨rfl, hc, hcl, hg, hF⟩ := hmi
  have hC : by_C N c cl := fun v hv => ⟨hcl v hv, by have := (hc v hv).1; omega⟩
  have eB : ∀ i, i < bb_cn (bb_ldr c) N → bb_BS bs i = bb_Bn N c i := fun i hi => by
    funext s
    exact propext (hg i s hi)
  unfold wpX_leader
  dsimp only
  refine br_f (by decide) ?_
  rcases bb_cs v1 (bb_cn (bb_ldr c) N) with ⟨b, hb, e1⟩ | hb
  · subst e1
    refine bx_bl_i (by omega) hb (br_f (by decide) ?_)
    rw [nI_clamp (n := b) (by omega)]
    obtain ⟨u, hu, eu, ku⟩ := bb_cn_ex N b hb
    have eu' : c u = u := of_decide_eq_true eu
    have nu : bb_nb c u = b := by
      show bb_cn _ (c u) = b
      rw [eu']; exact ku
    refine ⟨vp_in_nI (by omega) (by decide), bx_ls (s := u) (by omega) ((hg b u hb).mpr ⟨hu, nu⟩) (fun t ht q => ?_) ?_⟩
    · have q' := (hg b t hb).mp q
      have e3 := (bb_nb_eq hc q'.1 hu).mp (q'.2.trans nu.symm)
      have := (hc t q'.1).1
      omega
    · refine by_ld_i hN hC hc hb (fun w hw ew kw => ⟨?_, rel _ _ _⟩)
      rw [bb_cn_inj (p := bb_ldr c) eu (decide_eq_true ew) (ku.trans kw.symm)]
  · exact bx_bl_o (by omega) hb (br_t rfl (by_ld_o hN hC hc hb ⟨rfl, rel _ _ _⟩))
theorem i_vc_quotientMove {k : Nat} {u : SX} {v : SY} (I : i_Rel k u v) (hk : k + 5 ≤ 2564) (v1 : Int32) (v2 : Int32) (v3 : Int32) : wpX_quotientMove (fun r => wpY_quotientMove (fun r' v' => r' = r ∧ i_Rel (k + 5) u v') v v1 v2 v3) u v1 v2 v3 := by
  obtain ⟨N, L, M, Q, mv, fm, T, c, mi, bT, tg, bs, fo, A, B, C, kd, lf, fl, rt, cl, fi, ok, se, de, st, tr, rfl, rfl, R⟩ := I
  have rel : ∀ ok se tr, i_Rel (k + 5) (nI N, nI L, nI M, nI Q, nI mv, mi, bT, nI fm, tg, bs, fo) (nI N, nI L, nI M, nI Q, mi, nI mv, nI fm, A, B, C, kd, lf, fl, rt, cl, fi, ok, se, de, st, tr) := fun ok se tr => bb_mk R
  obtain ⟨h2, hN, hL, hM, hQ, hmv, hfm, hMo, hm⟩ := R
  have hX := hMo.1
  have hY := hMo.2.1
  have hB := bb_cn_le (bb_ldr c) N
  rcases hm with ⟨e, ef⟩ | ⟨e, hmi⟩
  · subst e
    exact br_t rfl (br_t rfl ⟨rfl, rel _ _ _⟩)
  subst e
  obtain ⟨rfl, hc, hcl, hg, hF⟩ := hmi
  have hC : by_C N c cl := fun v hv => ⟨hcl v hv, by have := (hc v hv).1; omega⟩
  have eB : ∀ i, i < bb_cn (bb_ldr c) N → bb_BS bs i = bb_Bn N c i := fun i hi => by
    funext s
    exact propext (hg i s hi)
  unfold wpX_quotientMove
  dsimp only
  refine br_f (by decide) (bx_preB (by omega) hL (fun h => by_qm_o hN hL hC hc h ⟨rfl, rel _ _ _⟩) (fun b a d hb ha hd e1 e2 e3 => ?_))
  subst e1 e2 e3
  have eQ : bb_Q T (bb_BS bs) b a d ↔ bb_Q T (bb_Bn N c) b a d := by
    unfold bb_Q
    rw [eB b hb, eB d hd]
  refine bx_bm hX hN hL (m := bb_cn (bb_ldr c) N) (by omega) hb hd (by omega) (fun s q => ((hg b s hb).mp q).1) (fun q => br_f (by decide) ?_) (fun q => br_t rfl ?_)
  · exact by_qm_i hY hN hL (by omega) hC hc hb (by omega) hd (fun _ ok se => ⟨rfl, rel _ _ _⟩) (fun z => absurd (eQ.mp q) z)
  · exact by_qm_i hY hN hL (by omega) hC hc hb (by omega) hd (fun z => absurd (eQ.mpr z) q) (fun _ ok se => ⟨rfl, rel _ _ _⟩)
theorem i_vc_quotientMoveCount {k : Nat} {u : SX} {v : SY} (I : i_Rel k u v) (hk : k + 5 ≤ 2564) : wpX_quotientMoveCount (fun r => wpY_quotientMoveCount (fun r' v' => r' = r ∧ i_Rel (k + 5) u v') v) u := by
  obtain ⟨N, L, M, Q, mv, fm, T, c, mi, bT, tg, bs, fo, A, B, C, kd, lf, fl, rt, cl, fi, ok, se, de, st, tr, rfl, rfl, R⟩ := I
  have rel : ∀ ok se tr, i_Rel (k + 5) (nI N, nI L, nI M, nI Q, nI mv, mi, bT, nI fm, tg, bs, fo) (nI N, nI L, nI M, nI Q, mi, nI mv, nI fm, A, B, C, kd, lf, fl, rt, cl, fi, ok, se, de, st, tr) := fun ok se tr => bb_mk R
  obtain ⟨h2, hN, hL, hM, hQ, hmv, hfm, hMo, hm⟩ := R
  have hX := hMo.1
  have hY := hMo.2.1
  have hB := bb_cn_le (bb_ldr c) N
  rcases hm with ⟨e, ef⟩ | ⟨e, hmi⟩
  · subst e
    exact br_t rfl (br_t rfl ⟨rfl, rel _ _ _⟩)
  subst e
  obtain ⟨rfl, hc, hcl, hg, hF⟩ := hmi
  have hC : by_C N c cl := fun v hv => ⟨hcl v hv, by have := (hc v hv).1; omega⟩
  have eB : ∀ i, i < bb_cn (bb_ldr c) N → bb_BS bs i = bb_Bn N c i := fun i hi => by
    funext s
    exact propext (hg i s hi)
  refine bx_qc hX hN hL (by omega) (fun b s hb q => ((hg b s hb).mp q).1) ?_
  have e : bb_sum (fun b => bb_sum (fun a => bb_sum (fun d => bb_ind (bb_Q T (bb_BS bs) b a d)) (bb_cn (bb_ldr c) N)) (L + 1)) (bb_cn (bb_ldr c) N) = bb_sum (fun b => bb_sum (fun a => bb_sum (fun d => bb_ind (bb_Q T (bb_Bn N c) b a d)) (bb_cn (bb_ldr c) N)) (L + 1)) (bb_cn (bb_ldr c) N) := by
    refine bb_sum_cg _ fun b hb => bb_sum_cg _ fun a _ => bb_sum_cg _ fun d hd => ?_
    have eQ : bb_Q T (bb_BS bs) b a d = bb_Q T (bb_Bn N c) b a d := by
      unfold bb_Q
      rw [eB b hb, eB d hd]
    rw [eQ]
  rw [e, ← bb_GQ N L T c]
  exact by_qc hY hN hL (by omega) hC hc (fun ok se => ⟨rfl, rel _ _ _⟩)
