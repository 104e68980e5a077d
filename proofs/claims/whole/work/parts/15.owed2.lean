section
variable {T : Nat → Nat → Nat → Prop} {N L fm : Nat} {xml xql xmt xmi xbT xft : Int32} {xtg xbs xfo : Nat → Int32} {c : Nat → Nat}
def bb_V (fm L : Nat) (p0 p1 p2 p3 : Int32) : Prop := ∃ kk, kk < 5 ∧ p0 = nI kk ∧ (kk ≠ 0 → ∃ l, l < fm ∧ p1 = nI l) ∧ ((kk = 2 ∨ kk = 3) → ∃ r, r < fm ∧ p3 = nI r) ∧ (kk = 3 → ∃ a, a < L + 1 ∧ p2 = nI a)
theorem bb_BS_up {fo : Nat → Int32} {r : Int32} {l : Nat} (hl : l < fm) : bb_BS (upd fo fm r) l = bb_BS fo l := by
  funext s
  unfold bb_BS
  rw [pk_un (by omega)]
theorem bx_sf {post : Int32 → Prop} {p0 p1 p2 p3 : Int32} (hT : bx_T N L T xtg) (hN : N ≤ 12) (hL : L ≤ 3) (hfm : fm ≤ 32) (hV : bb_V fm L p0 p1 p2 p3) (hF : ∀ f, f < fm → ∀ u, bt (xfo f) u = true → u < N)
    (hp : ∀ r, (∀ u, bt r u = true → u < N) → (∀ kd lf fl rt, bb_Fm N L T c (upd kd fm p0) (upd lf fm p1) (upd fl fm p2) (upd rt fm p3) (upd xfo fm r) fm) → post r) : wpX_statesOfForm post ((nI N), (nI L), xml, xql, xmt, xmi, xbT, xft, xtg, xbs, xfo) p0 p1 p2 p3 := by
  obtain ⟨kk, hk, e0, o1, o3, o2⟩ := hV
  have all : ∀ i, bt (((1 : Int32) <<< (nI N &&& 31)) - 1) i = true ↔ i < N := fun i => bb_allS (by omega) i
  unfold wpX_statesOfForm wpX_allStates
  dsimp only
  have hk' : kk = 0 ∨ kk = 1 ∨ kk = 2 ∨ kk = 3 ∨ kk = 4 := by omega
  rcases hk' with e | e | e | e | e
  · subst e e0
    refine br_t (by decide) (hp _ (fun u q => (all u).mp q) fun kd lf fl rt => Or.inl ⟨pk_us, fun u hu => ?_⟩)
    rw [pk_us]
    exact (all u).mpr hu
  · obtain ⟨l, hl, e1⟩ := o1 (by omega)
    subst e e0 e1
    rw [nI_clamp (n := l) (by omega)]
    refine br_f (by decide) (br_f (by decide) (br_t rfl ⟨vp_in_nI (by omega) (by decide), hp _ (fun u q => (all u).mp ((bb_diffS _ _ _).mp q).1) fun kd lf fl rt => Or.inr (Or.inr (Or.inl ⟨pk_us, l, hl, pk_us, fun u hu => ?_⟩))⟩))
    rw [pk_us, pk_un (by omega), bb_diffS]
    exact ⟨fun q => q.2, fun q => ⟨(all u).mpr hu, q⟩⟩
  · obtain ⟨l, hl, e1⟩ := o1 (by omega)
    obtain ⟨r, hr, e3⟩ := o3 (by omega)
    subst e e0 e1 e3
    rw [nI_clamp (n := l) (by omega), nI_clamp (n := r) (by omega)]
    refine br_f (by decide) (br_f (by decide) (br_f (by decide) (br_t rfl ⟨vp_in_nI (by omega) (by decide), vp_in_nI (by omega) (by decide), hp _ (fun u q => hF l hl u ((bb_andS _ _ _).mp q).1) fun kd lf fl rt => Or.inr (Or.inr (Or.inr (Or.inl ⟨pk_us, l, r, hl, hr, pk_us, pk_us, fun u hu => ?_⟩)))⟩)))
    rw [pk_us, pk_un (by omega), pk_un (by omega), bb_andS]
  · obtain ⟨l, hl, e1⟩ := o1 (by omega)
    obtain ⟨r, hr, e3⟩ := o3 (by omega)
    obtain ⟨a, ha, e2⟩ := o2 (by omega)
    subst e e0 e1 e2 e3
    rw [nI_clamp (n := l) (by omega), nI_clamp (n := r) (by omega)]
    refine br_f (by decide) (br_f (by decide) (br_f (by decide) (br_f (by decide) (br_t rfl ⟨vp_in_nI (by omega) (by decide), vp_in_nI (by omega) (by decide), bx_unt hT hN hL (by omega) (fun x hx => hp x (fun u q => ?_) fun kd lf fl rt => Or.inr (Or.inr (Or.inr (Or.inr (Or.inl ⟨pk_us, l, a, r, hl, by omega, hr, pk_us, pk_us, pk_us, fun u hu => ?_⟩)))))⟩))))
    · rcases (hx u).mp q with z | z
      · exact hF l hl u (bb_unt_F z)
      · exact hF r hr u z.2
    · rw [pk_us, bb_BS_up hl, bb_BS_up hr, pk_un (by omega)]
      exact hx u
  · obtain ⟨l, hl, e1⟩ := o1 (by omega)
    subst e e0 e1
    rw [nI_clamp (n := l) (by omega)]
    refine br_f (by decide) (br_f (by decide) (br_f (by decide) (br_f (by decide) (br_f (by decide) (br_t rfl ⟨vp_in_nI (by omega) (by decide), bx_div hT hN hL (hF l hl) (fun x hx => hp x (fun u q => ?_) fun kd lf fl rt => Or.inr (Or.inr (Or.inr (Or.inr (Or.inr ⟨pk_us, l, hl, pk_us, fun u hu => ?_⟩)))))⟩)))))
    · exact hF l hl u (bb_div_F ((hx u).mp q))
    · rw [pk_us, bb_BS_up hl]
      exact hx u
theorem bx_kf {post : Int32 → SX → Prop} {r : Int32} (h : fm < 32) (hp : post (nI fm) ((nI N), (nI L), xml, xql, xmt, xmi, xbT, nI (fm + 1), xtg, xbs, upd xfo fm r)) : wpX_keepFormula post ((nI N), (nI L), xml, xql, xmt, xmi, xbT, nI fm, xtg, xbs, xfo) r := by
  unfold wpX_keepFormula
  dsimp only
  rw [nI_clamp (n := fm) (by omega)]
  exact ⟨vp_in_nI h (by decide), nm_e (nm_r (nI_1 fm) hp)⟩
theorem bx_make {post : Int32 → SX → Prop} {p0 p1 p2 p3 : Int32} (hL : L ≤ 3) (hfm : fm ≤ 32) (hbad : ¬ bb_V fm L p0 p1 p2 p3 → post 101 ((nI N), (nI L), xml, xql, xmt, 1, xbT, nI fm, xtg, xbs, xfo)) (hok : bb_V fm L p0 p1 p2 p3 → wX_make_75 post p0 p1 p2 p3 (nI N) (nI L) xml xql xmt 1 xbT (nI fm) xtg xbs xfo) : wpX_make post ((nI N), (nI L), xml, xql, xmt, 1, xbT, nI fm, xtg, xbs, xfo) p0 p1 p2 p3 := by
  unfold wpX_make
  dsimp only
  refine br_f (by decide) ?_
  rcases bb_cs p0 (4 + 1) with ⟨kk, hk, e⟩ | hk
  · subst e
    have inj : ∀ j, j < 5 → nI kk = nI j → kk = j := fun j hj z => (nI_eq (by omega) (by omega)).mp z
    have vk : ∀ {P : Nat → Prop}, (∀ j, j < 5 → nI kk = nI j → P j) → P kk := fun h => h kk hk rfl
    have s59 : (kk ≠ 0 → ∃ l, l < fm ∧ p1 = nI l) → ((kk = 2 ∨ kk = 3) → ∃ r, r < fm ∧ p3 = nI r) → wX_make_59 post (nI kk) p1 p2 p3 (nI N) (nI L) xml xql xmt 1 xbT (nI fm) xtg xbs xfo := by
      intro o1 o3
      refine pk_eq kk 3 (fun e3 => ?_) (fun e3 => hok ⟨kk, hk, rfl, o1, o3, fun z => absurd z e3⟩)
      rcases bb_cs p2 (L + 1) with ⟨a, ha, e⟩ | ha
      · subst e
        exact bx_lb_i hL ha (br_f (by decide) (hok ⟨kk, hk, rfl, o1, o3, fun _ => ⟨a, ha, rfl⟩⟩))
      · refine bx_lb_o hL ha (br_t rfl (hbad fun z => ?_))
        obtain ⟨j, hj, ej, _, _, q⟩ := z
        rw [← inj j hj ej] at q
        obtain ⟨a, ha', e⟩ := q e3
        exact ha a ha' e
    have s47 : (kk ≠ 0 → ∃ l, l < fm ∧ p1 = nI l) → (kk = 2 ∨ kk = 3) → wX_make_47 post (nI kk) p1 p2 p3 (nI N) (nI L) xml xql xmt 1 xbT (nI fm) xtg xbs xfo := by
      intro o1 h23
      unfold wX_make_47
      rcases bb_cs p3 fm with ⟨r, hr, e⟩ | hr
      · refine ek_v (P := fun p3 => wpX_isFormula _ _ p3) e (bx_fm_i hfm hr (br_f (by decide) (s59 o1 fun _ => ⟨r, hr, e⟩)))
      · refine bx_fm_o hfm hr (br_t rfl (hbad fun z => ?_))
        obtain ⟨j, hj, ej, _, q, _⟩ := z
        rw [← inj j hj ej] at q
        obtain ⟨r, hr', e⟩ := q h23
        exact hr r hr' e
    have s37 : (kk ≠ 0 → ∃ l, l < fm ∧ p1 = nI l) → wX_make_37 post (nI kk) p1 p2 p3 (nI N) (nI L) xml xql xmt 1 xbT (nI fm) xtg xbs xfo := by
      intro o1
      exact pk_eq kk 2 (fun e => s47 o1 (Or.inl e)) (fun e => pk_eq kk 3 (fun e2 => s47 o1 (Or.inr e2)) (fun e2 => s59 o1 fun z => absurd z (by omega)))
    refine br_f (nI_pos (by omega)) (br_t (nI_le (b := 4) (by omega) (by decide)) (pk_eq kk 0 (fun e => s37 fun z => absurd e z) (fun e => ?_)))
    rcases bb_cs p1 fm with ⟨l, hl, e1⟩ | hl
    · refine ek_v (P := fun p1 => wpX_isFormula _ _ p1) e1 (bx_fm_i hfm hl (br_f (by decide) (s37 fun _ => ⟨l, hl, e1⟩)))
    · refine bx_fm_o hfm hl (br_t rfl (hbad fun z => ?_))
      obtain ⟨j, hj, ej, q, _, _⟩ := z
      rw [← inj j hj ej] at q
      obtain ⟨l, hl', e1⟩ := q e
      exact hl l hl' e1
  · have hb : ¬ bb_V fm L p0 p1 p2 p3 := by
      rintro ⟨kk, hk', e, _⟩
      exact hk kk hk' e
    rcases bb_ouL (by omega) hk with q | ⟨q, q2⟩
    · exact br_t q (hbad hb)
    · exact br_f q (br_f (Int32.not_le.mpr q2) (hbad hb))
end
section
variable {N L mv fm Q : Nat} {ymx ymq ymi yff : Int32} {yA yB yC ykd ylf yfl yrt ycl yfi yok yse yde yst ytr : Nat → Int32}
theorem by_note {post : Int32 → SY → Prop} {p0 p1 p2 p3 : Int32} (hfm : fm ≤ 32) (hQ : Q ≤ 32) (h0 : Q ≤ fm → post 104 ((nI N), (nI L), ymx, nI Q, ymi, (nI mv), nI fm, yA, yB, yC, ykd, ylf, yfl, yrt, ycl, yfi, yok, yse, yde, yst, ytr)) (h1 : fm < Q → post (nI fm) ((nI N), (nI L), ymx, nI Q, ymi, (nI mv), nI (fm + 1), yA, yB, yC, upd ykd fm p0, upd ylf fm p1, upd yfl fm p2, upd yrt fm p3, ycl, yfi, yok, yse, yde, yst, ytr)) : wpY_note post ((nI N), (nI L), ymx, nI Q, ymi, (nI mv), nI fm, yA, yB, yC, ykd, ylf, yfl, yrt, ycl, yfi, yok, yse, yde, yst, ytr) p0 p1 p2 p3 := by
  unfold wpY_note
  dsimp only
  rw [nI_clamp (n := fm) (by omega)]
  refine pk_lt fm Q (fun z => ?_) h0
  have v1 := vp_in_nI (n := fm) (N := 32) (by omega) (by decide)
  refine ⟨v1, nm_e ⟨v1, nm_e ⟨v1, nm_e ⟨v1, nm_e (nm_r (nI_1 fm) ?_)⟩⟩⟩⟩
  rw [nI_pred]
  exact h1 z
theorem by_make {post : Int32 → SY → Prop} {p0 p1 p2 p3 : Int32} (hL : L ≤ 3) (hfm : fm ≤ 32) (hbad : ¬ bb_V fm L p0 p1 p2 p3 → post 101 ((nI N), (nI L), ymx, ymq, 1, (nI mv), nI fm, yA, yB, yC, ykd, ylf, yfl, yrt, ycl, yfi, yok, yse, yde, yst, ytr)) (hok : bb_V fm L p0 p1 p2 p3 → wY_make_79 post p0 p1 p2 p3 (nI N) (nI L) ymx ymq 1 (nI mv) (nI fm) yA yB yC ykd ylf yfl yrt ycl yfi yok yse yde yst ytr) : wpY_make post ((nI N), (nI L), ymx, ymq, 1, (nI mv), nI fm, yA, yB, yC, ykd, ylf, yfl, yrt, ycl, yfi, yok, yse, yde, yst, ytr) p0 p1 p2 p3 := by
  unfold wpY_make
  dsimp only
  refine br_f (by decide) ?_
  rcases bb_cs p0 (4 + 1) with ⟨kk, hk, e⟩ | hk
  · subst e
    have inj : ∀ j, j < 5 → nI kk = nI j → kk = j := fun j hj z => (nI_eq (by omega) (by omega)).mp z
    have s59 : (kk ≠ 0 → ∃ l, l < fm ∧ p1 = nI l) → ((kk = 2 ∨ kk = 3) → ∃ r, r < fm ∧ p3 = nI r) → wY_make_59 post (nI kk) p1 p2 p3 (nI N) (nI L) ymx ymq 1 (nI mv) (nI fm) yA yB yC ykd ylf yfl yrt ycl yfi yok yse yde yst ytr := by
      intro o1 o3
      refine pk_eq kk 3 (fun e3 => ?_) (fun e3 => hok ⟨kk, hk, rfl, o1, o3, fun z => absurd z e3⟩)
      rcases bb_cs p2 (L + 1) with ⟨a, ha, e⟩ | ha
      · subst e
        exact br_f (nI_pos (by omega)) (br_t (nI_le (by omega) (by omega)) (hok ⟨kk, hk, rfl, o1, o3, fun _ => ⟨a, ha, rfl⟩⟩))
      · have hb : ¬ bb_V fm L (nI kk) p1 p2 p3 := by
          intro z
          obtain ⟨j, hj, ej, _, _, q⟩ := z
          rw [← inj j hj ej] at q
          obtain ⟨a, ha', e⟩ := q e3
          exact ha a ha' e
        rcases bb_ouL (by omega) ha with q | ⟨q, q2⟩
        · exact br_t q (hbad hb)
        · exact br_f q (br_f (Int32.not_le.mpr q2) (hbad hb))
    have s47 : (kk ≠ 0 → ∃ l, l < fm ∧ p1 = nI l) → (kk = 2 ∨ kk = 3) → wY_make_47 post (nI kk) p1 p2 p3 (nI N) (nI L) ymx ymq 1 (nI mv) (nI fm) yA yB yC ykd ylf yfl yrt ycl yfi yok yse yde yst ytr := by
      intro o1 h23
      unfold wY_make_47
      rcases bb_cs p3 fm with ⟨r, hr, e⟩ | hr
      · refine ek_v (P := fun p3 => wpY_noFormula _ _ p3) e (by_nf_i hfm hr (br_t rfl (s59 o1 fun _ => ⟨r, hr, e⟩)))
      · refine by_nf_o hfm hr (br_f (by decide) (hbad fun z => ?_))
        obtain ⟨j, hj, ej, _, q, _⟩ := z
        rw [← inj j hj ej] at q
        obtain ⟨r, hr', e⟩ := q h23
        exact hr r hr' e
    have s37 : (kk ≠ 0 → ∃ l, l < fm ∧ p1 = nI l) → wY_make_37 post (nI kk) p1 p2 p3 (nI N) (nI L) ymx ymq 1 (nI mv) (nI fm) yA yB yC ykd ylf yfl yrt ycl yfi yok yse yde yst ytr := by
      intro o1
      exact pk_eq kk 2 (fun e => s47 o1 (Or.inl e)) (fun e => pk_eq kk 3 (fun e2 => s47 o1 (Or.inr e2)) (fun e2 => s59 o1 fun z => absurd z (by omega)))
    refine br_f (nI_pos (by omega)) (br_t (nI_le (b := 4) (by omega) (by decide)) (pk_eq kk 0 (fun e => s37 fun z => absurd e z) (fun e => ?_)))
    rcases bb_cs p1 fm with ⟨l, hl, e1⟩ | hl
    · refine ek_v (P := fun p1 => wpY_noFormula _ _ p1) e1 (by_nf_i hfm hl (br_t rfl (s37 fun _ => ⟨l, hl, e1⟩)))
    · refine by_nf_o hfm hl (br_f (by decide) (hbad fun z => ?_))
      obtain ⟨j, hj, ej, q, _, _⟩ := z
      rw [← inj j hj ej] at q
      obtain ⟨l, hl', e1⟩ := q e
      exact hl l hl' e1
  · have hb : ¬ bb_V fm L p0 p1 p2 p3 := by
      rintro ⟨kk, hk', e, _⟩
      exact hk kk hk' e
    rcases bb_ouL (by omega) hk with q | ⟨q, q2⟩
    · exact br_t q (hbad hb)
    · exact br_f q (br_f (Int32.not_le.mpr q2) (hbad hb))
end
theorem bb_mi_add {N L fm : Nat} {bT : Int32} {bs fo kd lf fl rt cl : Nat → Int32} {T : Nat → Nat → Nat → Prop} {c : Nat → Nat} {p0 p1 p2 p3 r : Int32} (h : bb_Mi N L fm bT bs fo kd lf fl rt cl T c) (hr : ∀ u, bt r u = true → u < N)
    (hn : bb_Fm N L T c (upd kd fm p0) (upd lf fm p1) (upd fl fm p2) (upd rt fm p3) (upd fo fm r) fm) : bb_Mi N L (fm + 1) bT bs (upd fo fm r) (upd kd fm p0) (upd lf fm p1) (upd fl fm p2) (upd rt fm p3) cl T c := by
  obtain ⟨h1, h2, h3, h4, h5⟩ := h
  refine ⟨h1, h2, h3, h4, fun f hf => ?_⟩
  by_cases e : f = fm
  · subst e
    refine ⟨?_, hn⟩
    rw [pk_us]; exact hr
  · have q := h5 f (by omega)
    refine ⟨?_, bb_Fm_up (by omega) q.2⟩
    rw [pk_un e]; exact q.1
theorem i_vc_make {k : Nat} {u : SX} {v : SY} (I : i_Rel k u v) (hk : k + 5 ≤ 2564) (v1 : Int32) (v2 : Int32) (v3 : Int32) (v4 : Int32) : wpX_make (fun r u' => wpY_make (fun r' v' => r' = r ∧ i_Rel (k + 5) u' v') v v1 v2 v3 v4) u v1 v2 v3 v4 := by
  obtain ⟨N, L, M, Q, mv, fm, T, c, mi, bT, tg, bs, fo, A, B, C, kd, lf, fl, rt, cl, fi, ok, se, de, st, tr, rfl, rfl, R⟩ := I
  have rel : ∀ ok se tr, i_Rel (k + 5) (nI N, nI L, nI M, nI Q, nI mv, mi, bT, nI fm, tg, bs, fo) (nI N, nI L, nI M, nI Q, mi, nI mv, nI fm, A, B, C, kd, lf, fl, rt, cl, fi, ok, se, de, st, tr) := fun ok se tr => bb_mk R
  obtain ⟨h2, hN, hL, hM, hQ, hmv, hfm, hMo, hm⟩ := R
  have hX := hMo.1
  have hY := hMo.2.1
  have hB := bb_cn_le (bb_ldr c) N
  rcases hm with ⟨e, ef⟩ | ⟨e, hmi⟩
  · subst e
    exact br_t rfl (br_t rfl ⟨rfl, rel _ _ _⟩)
  subst e
  have hmi' := hmi
  obtain ⟨rfl, hc, hcl, hg, hF⟩ := hmi
  have hC : by_C N c cl := fun v hv => ⟨hcl v hv, by have := (hc v hv).1; omega⟩
  have eB : ∀ i, i < bb_cn (bb_ldr c) N → bb_BS bs i = bb_Bn N c i := fun i hi => by
    funext s
    exact propext (hg i s hi)
  refine bx_make hL (by omega) (fun h => by_make hL (by omega) (fun _ => ⟨rfl, rel _ _ _⟩) (fun z => absurd z h)) (fun h => ?_)
  refine pk_lt fm Q (fun z => bx_sf (c := c) hX hN hL (by omega) h (fun f hf => (hF f hf).1) (fun r hr hn => bx_kf (by omega) (by_make hL (by omega) (fun z => absurd h z) (fun _ => ?_)))) (fun z => by_make hL (by omega) (fun z => absurd h z) (fun _ => ?_))
  · unfold wY_make_79
    refine by_note (by omega) hQ (fun z2 => by omega) (fun _ => ⟨rfl, bb_mk (c := c) ⟨h2, hN, hL, hM, hQ, hmv, by omega, hMo, Or.inr ⟨rfl, bb_mi_add hmi' hr (hn kd lf fl rt)⟩⟩⟩)
  · unfold wY_make_79
    refine by_note (by omega) hQ (fun z2 => ⟨rfl, rel _ _ _⟩) (fun z2 => by omega)
theorem i_vc_tell {k : Nat} {u : SX} {v : SY} (I : i_Rel k u v) (hk : k + 5 ≤ 2564) (v1 : Int32) (v2 : Int32) : wpX_tell (fun r u' => wpY_tell (fun r' v' => r' = r ∧ i_Rel (k + 5) u' v') v v1 v2) u v1 v2 := by
  obtain ⟨N, L, M, Q, mv, fm, T, c, mi, bT, tg, bs, fo, A, B, C, kd, lf, fl, rt, cl, fi, ok, se, de, st, tr, rfl, rfl, R⟩ := I
  have rel : ∀ ok se tr, i_Rel (k + 5) (nI N, nI L, nI M, nI Q, nI mv, mi, bT, nI fm, tg, bs, fo) (nI N, nI L, nI M, nI Q, mi, nI mv, nI fm, A, B, C, kd, lf, fl, rt, cl, fi, ok, se, de, st, tr) := fun ok se tr => bb_mk R
  obtain ⟨h2, hN, hL, hM, hQ, hmv, hfm, hMo, hm⟩ := R
  have hX := hMo.1
  have hY := hMo.2.1
  have hB := bb_cn_le (bb_ldr c) N
  rcases hm with ⟨e, ef⟩ | ⟨e, hmi⟩
  · subst e
    exact br_t rfl (br_t rfl ⟨rfl, rel _ _ _⟩)
  subst e
  have hmi' := hmi
  obtain ⟨rfl, hc, hcl, hg, hF⟩ := hmi
  have hC : by_C N c cl := fun v hv => ⟨hcl v hv, by have := (hc v hv).1; omega⟩
  have eB : ∀ i, i < bb_cn (bb_ldr c) N → bb_BS bs i = bb_Bn N c i := fun i hi => by
    funext s
    exact propext (hg i s hi)
  have bw : ∀ s, s < N → ∀ post : Int32 → Prop, post (nI (bb_nb c s)) → wpX_blockWith post (nI N, nI L, nI M, nI Q, nI mv, 1, nI (bb_cn (bb_ldr c) N), nI fm, tg, bs, fo) (nI s) := by
    intro s hs post hp
    exact bx_bw (k := bb_nb c s) (by omega) (by omega) (bb_nb_lt hc hs) ((hg _ s (bb_nb_lt hc hs)).mpr ⟨hs, rfl⟩) (fun i hi q => ((hg i s hi).mp q).2.symm) hp
  unfold wpX_tell
  dsimp only
  refine br_f (by decide) ?_
  rcases bb_cs v1 N with ⟨s, hs, e1⟩ | hs
  · subst e1
    refine bx_st_i hN hs (br_f (by decide) ?_)
    rcases bb_cs v2 N with ⟨t, ht, e2⟩ | ht
    · subst e2
      have hns := bb_nb_lt hc hs
      have hnt := bb_nb_lt hc ht
      have hcs := (hC s hs).2
      have hct := (hC t ht).2
      have v1 := vp_in_nI (n := s) (N := 12) (by omega) (by decide)
      have v2 := vp_in_nI (n := t) (N := 12) (by omega) (by decide)
      refine bx_st_i hN ht (br_f (by decide) (bw s hs _ (bw t ht _ (pk_eq (bb_nb c s) (bb_nb c t) (fun e => ?_) (fun e => pk_lt fm Q (fun z => ?_) (fun z => ?_))))))
      · unfold wpY_tell
        dsimp only
        rw [nI_clamp (n := s) (by omega), nI_clamp (n := t) (by omega), (hC s hs).1, (hC t ht).1]
        have e' := (bb_nb_eq hc hs ht).mp e
        exact br_f (by decide) (by_ns_i hN hs (br_t rfl (by_ns_i hN ht (br_t rfl ⟨v1, v2, br_t (by rw [e']) ⟨rfl, rel _ _ _⟩⟩))))
      · rw [nI_clamp (n := bb_nb c s) (by omega)]
        refine ⟨vp_in_nI (by omega) (by decide), bx_kf (by omega) ?_⟩
        unfold wpY_tell
        dsimp only
        rw [nI_clamp (n := s) (by omega), nI_clamp (n := t) (by omega), (hC s hs).1, (hC t ht).1]
        have hne : ¬ nI (c s) = nI (c t) := fun q => e ((bb_nb_eq hc hs ht).mpr ((nI_eq (by omega) (by omega)).mp q))
        refine br_f (by decide) (by_ns_i hN hs (br_t rfl (by_ns_i hN ht (br_t rfl ⟨v1, v2, br_f hne (by_note (by omega) hQ (fun z2 => by omega) (fun _ => ⟨rfl, bb_mk (c := c) ⟨h2, hN, hL, hM, hQ, hmv, by omega, hMo, Or.inr ⟨rfl, bb_mi_add hmi' (fun u q => ((hg _ u hns).mp q).1) (Or.inr (Or.inl ⟨pk_us, s, hs, pk_us, fun u hu => ?_⟩))⟩⟩⟩))⟩))))
        rw [pk_us, hg _ u hns]
        exact ⟨fun q => (bb_nb_eq hc q.1 hs).mp q.2, fun q => ⟨hu, (bb_nb_eq hc hu hs).mpr q⟩⟩
      · unfold wpY_tell
        dsimp only
        rw [nI_clamp (n := s) (by omega), nI_clamp (n := t) (by omega), (hC s hs).1, (hC t ht).1]
        have hne : ¬ nI (c s) = nI (c t) := fun q => e ((bb_nb_eq hc hs ht).mpr ((nI_eq (by omega) (by omega)).mp q))
        exact br_f (by decide) (by_ns_i hN hs (br_t rfl (by_ns_i hN ht (br_t rfl ⟨v1, v2, br_f hne (by_note (by omega) hQ (fun z2 => ⟨rfl, rel _ _ _⟩) (fun z2 => by omega))⟩))))
    · refine bx_st_o hN ht (br_t rfl ?_)
      unfold wpY_tell
      dsimp only
      exact br_f (by decide) (by_ns_i hN hs (br_t rfl (by_ns_o hN ht (br_f (by decide) ⟨rfl, rel _ _ _⟩))))
  · refine bx_st_o hN hs (br_t rfl ?_)
    unfold wpY_tell
    dsimp only
    exact br_f (by decide) (by_ns_o hN hs (br_f (by decide) ⟨rfl, rel _ _ _⟩))
theorem i_vc_holds {k : Nat} {u : SX} {v : SY} (I : i_Rel k u v) (hk : k + 5 ≤ 2564) (v1 : Int32) (v2 : Int32) : wpX_holds (fun r => wpY_holds (fun r' v' => r' = r ∧ i_Rel (k + 5) u v') v v1 v2) u v1 v2 := by
  obtain ⟨N, L, M, Q, mv, fm, T, c, mi, bT, tg, bs, fo, A, B, C, kd, lf, fl, rt, cl, fi, ok, se, de, st, tr, rfl, rfl, R⟩ := I
  have rel : ∀ ok se tr, i_Rel (k + 5) (nI N, nI L, nI M, nI Q, nI mv, mi, bT, nI fm, tg, bs, fo) (nI N, nI L, nI M, nI Q, mi, nI mv, nI fm, A, B, C, kd, lf, fl, rt, cl, fi, ok, se, de, st, tr) := fun ok se tr => bb_mk R
  obtain ⟨h2, hN, hL, hM, hQ, hmv, hfm, hMo, hm⟩ := R
  have hX := hMo.1
  have hY := hMo.2.1
  have hB := bb_cn_le (bb_ldr c) N
  rcases hm with ⟨e, ef⟩ | ⟨e, hmi⟩
  · subst e
    exact br_t rfl (br_t rfl ⟨rfl, rel _ _ _⟩)
  subst e
  have hmi' := hmi
  obtain ⟨rfl, hc, hcl, hg, hF⟩ := hmi
  have hC : by_C N c cl := fun v hv => ⟨hcl v hv, by have := (hc v hv).1; omega⟩
  have eB : ∀ i, i < bb_cn (bb_ldr c) N → bb_BS bs i = bb_Bn N c i := fun i hi => by
    funext s
    exact propext (hg i s hi)
  unfold wpX_holds
  dsimp only
  refine br_f (by decide) ?_
  rcases bb_cs v1 fm with ⟨f, hf, e1⟩ | hf
  · subst e1
    refine bx_fm_i (by omega) hf (br_f (by decide) ?_)
    rcases bb_cs v2 N with ⟨s, hs, e2⟩ | hs
    · subst e2
      refine bx_st_i hN hs (br_f (by decide) ?_)
      rw [nI_clamp (n := f) (by omega)]
      refine ⟨vp_in_nI (by omega) (by decide), bx_con (by omega) (fun q => br_f (by decide) ?_) (fun q => br_t rfl ?_)⟩
      · exact by_holds hY hN hL (by omega) hC (by omega) hf hs (fun f hf => (hF f hf).2) (fun _ ok se tr => ⟨rfl, rel _ _ _⟩) (fun z => absurd q z)
      · exact by_holds hY hN hL (by omega) hC (by omega) hf hs (fun f hf => (hF f hf).2) (fun z => absurd z q) (fun _ ok se tr => ⟨rfl, rel _ _ _⟩)
    · refine bx_st_o hN hs (br_t rfl ?_)
      unfold wpY_holds
      dsimp only
      exact br_f (by decide) (by_nf_i (by omega) hf (br_t rfl (by_ns_o hN hs (br_f (by decide) ⟨rfl, rel _ _ _⟩))))
  · refine bx_fm_o (by omega) hf (br_t rfl ?_)
    unfold wpY_holds
    dsimp only
    exact br_f (by decide) (by_nf_o (by omega) hf (br_f (by decide) ⟨rfl, rel _ _ _⟩))
theorem i_vc_formulaCount {k : Nat} {u : SX} {v : SY} (I : i_Rel k u v) (hk : k + 5 ≤ 2564) : wpX_formulaCount (fun r => wpY_formulaCount (fun r' => r' = r ∧ i_Rel (k + 5) u v) v) u := by
  obtain ⟨N, L, M, Q, mv, fm, T, c, mi, bT, tg, bs, fo, A, B, C, kd, lf, fl, rt, cl, fi, ok, se, de, st, tr, rfl, rfl, R⟩ := I
  have rel : ∀ ok se tr, i_Rel (k + 5) (nI N, nI L, nI M, nI Q, nI mv, mi, bT, nI fm, tg, bs, fo) (nI N, nI L, nI M, nI Q, mi, nI mv, nI fm, A, B, C, kd, lf, fl, rt, cl, fi, ok, se, de, st, tr) := fun ok se tr => bb_mk R
  obtain ⟨h2, hN, hL, hM, hQ, hmv, hfm, hMo, hm⟩ := R
  have hX := hMo.1
  have hY := hMo.2.1
  have hB := bb_cn_le (bb_ldr c) N
  exact ⟨rfl, rel _ _ _⟩
