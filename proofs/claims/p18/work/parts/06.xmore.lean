section
variable {T : Nat → Nat → Nat → Prop} {N L fm : Nat} {xml xql xmt xmi xbT xft : Int32} {xtg xbs xfo : Nat → Int32} {c : Nat → Nat}
def bb_Fm (N L : Nat) (T : Nat → Nat → Nat → Prop) (c : Nat → Nat) (kd lf fl rt fo : Nat → Int32) (f : Nat) : Prop :=
  (kd f = nI 0 ∧ ∀ u, u < N → bt (fo f) u = true) ∨
  (kd f = nI 5 ∧ ∃ l, l < N ∧ lf f = nI l ∧ ∀ u, u < N → (bt (fo f) u = true ↔ c u = c l)) ∨
  (kd f = nI 1 ∧ ∃ l, l < f ∧ lf f = nI l ∧ ∀ u, u < N → (bt (fo f) u = true ↔ ¬ bt (fo l) u = true)) ∨
  (kd f = nI 2 ∧ ∃ l r, l < f ∧ r < f ∧ lf f = nI l ∧ rt f = nI r ∧ ∀ u, u < N → (bt (fo f) u = true ↔ bt (fo l) u = true ∧ bt (fo r) u = true)) ∨
  (kd f = nI 3 ∧ ∃ l a r, l < f ∧ a ≤ L ∧ r < f ∧ lf f = nI l ∧ fl f = nI a ∧ rt f = nI r ∧ ∀ u, u < N → (bt (fo f) u = true ↔ bb_Unt T (bb_BS fo l) a (bb_BS fo r) u ∨ (a = 0 ∧ bt (fo r) u = true))) ∨
  (kd f = nI 4 ∧ ∃ l, l < f ∧ lf f = nI l ∧ ∀ u, u < N → (bt (fo f) u = true ↔ bb_Div T (bb_BS fo l) u))
def bb_V (fm L : Nat) (p0 p1 p2 p3 : Int32) : Prop := ∃ kk, kk < 5 ∧ p0 = nI kk ∧ (kk ≠ 0 → ∃ l, l < fm ∧ p1 = nI l) ∧ ((kk = 2 ∨ kk = 3) → ∃ r, r < fm ∧ p3 = nI r) ∧ (kk = 3 → ∃ a, a < L + 1 ∧ p2 = nI a)
theorem bb_BS_up {fo : Nat → Int32} {r : Int32} {l : Nat} (hl : l < fm) : bb_BS (upd fo fm r) l = bb_BS fo l := by
  funext s
  unfold bb_BS
  rw [pk_un (by omega)]
theorem bx_sf {post : Int32 → Prop} {p0 p1 p2 p3 : Int32} (hT : bx_T N L T xtg) (hN : N ≤ 12) (hL : L ≤ 3) (hfm : fm ≤ 32) (hV : bb_V fm L p0 p1 p2 p3) (hF : ∀ f, f < fm → ∀ u, bt (xfo f) u = true → u < N)
    (hp : ∀ r, (∀ u, bt r u = true → u < N) → (∀ kd lf fl rt, bb_Fm N L T c (upd kd fm p0) (upd lf fm p1) (upd fl fm p2) (upd rt fm p3) (upd xfo fm r) fm) → post r) : wpX_statesOfForm post ((nI N), (nI L), xml, xql, xmt, xmi, xbT, xft, xtg, xbs, xfo) p0 p1 p2 p3 := by
  obtain ⟨kk, hk, e0, o1, o3, o2⟩ := hV
  have all : ∀ i, bt (((1 : Int32) <<< (nI N &&& 31)) - 1) i = true ↔ i < N := fun i => bb_allS (by omega) i
  unfold wpX_statesOfForm wpX_allStates
  dsimp only
  have hk' : kk = 0 ∨ kk = 1 ∨ kk = 2 ∨ kk = 3 ∨ kk = 4 := by omega
  rcases hk' with e | e | e | e | e
  · subst e e0
    refine br_t (by decide) (hp _ (fun u q => (all u).mp q) fun kd lf fl rt => Or.inl ⟨pk_us, fun u hu => ?_⟩)
    rw [pk_us]
    exact (all u).mpr hu
  · obtain ⟨l, hl, e1⟩ := o1 (by omega)
    subst e e0 e1
    rw [nI_clamp (n := l) (by omega)]
    refine br_f (by decide) (br_f (by decide) (br_t rfl ⟨vp_in_nI (by omega) (by decide), hp _ (fun u q => (all u).mp ((bb_diffS _ _ _).mp q).1) fun kd lf fl rt => Or.inr (Or.inr (Or.inl ⟨pk_us, l, hl, pk_us, fun u hu => ?_⟩))⟩))
    rw [pk_us, pk_un (by omega), bb_diffS]
    exact ⟨fun q => q.2, fun q => ⟨(all u).mpr hu, q⟩⟩
  · obtain ⟨l, hl, e1⟩ := o1 (by omega)
    obtain ⟨r, hr, e3⟩ := o3 (by omega)
    subst e e0 e1 e3
    rw [nI_clamp (n := l) (by omega), nI_clamp (n := r) (by omega)]
    refine br_f (by decide) (br_f (by decide) (br_f (by decide) (br_t rfl ⟨vp_in_nI (by omega) (by decide), vp_in_nI (by omega) (by decide), hp _ (fun u q => hF l hl u ((bb_andS _ _ _).mp q).1) fun kd lf fl rt => Or.inr (Or.inr (Or.inr (Or.inl ⟨pk_us, l, r, hl, hr, pk_us, pk_us, fun u hu => ?_⟩)))⟩)))
    rw [pk_us, pk_un (by omega), pk_un (by omega), bb_andS]
  · obtain ⟨l, hl, e1⟩ := o1 (by omega)
    obtain ⟨r, hr, e3⟩ := o3 (by omega)
    obtain ⟨a, ha, e2⟩ := o2 (by omega)
    subst e e0 e1 e2 e3
    rw [nI_clamp (n := l) (by omega), nI_clamp (n := r) (by omega)]
    refine br_f (by decide) (br_f (by decide) (br_f (by decide) (br_f (by decide) (br_t rfl ⟨vp_in_nI (by omega) (by decide), vp_in_nI (by omega) (by decide), bx_unt hT hN hL (by omega) (fun x hx => hp x (fun u q => ?_) fun kd lf fl rt => Or.inr (Or.inr (Or.inr (Or.inr (Or.inl ⟨pk_us, l, a, r, hl, by omega, hr, pk_us, pk_us, pk_us, fun u hu => ?_⟩)))))⟩))))
    · rcases (hx u).mp q with z | z
      · exact hF l hl u (bb_unt_F z)
      · exact hF r hr u z.2
    · rw [pk_us, bb_BS_up hl, bb_BS_up hr, pk_un (by omega)]
      exact hx u
  · obtain ⟨l, hl, e1⟩ := o1 (by omega)
    subst e e0 e1
    rw [nI_clamp (n := l) (by omega)]
    refine br_f (by decide) (br_f (by decide) (br_f (by decide) (br_f (by decide) (br_f (by decide) (br_t rfl ⟨vp_in_nI (by omega) (by decide), bx_div hT hN hL (hF l hl) (fun x hx => hp x (fun u q => ?_) fun kd lf fl rt => Or.inr (Or.inr (Or.inr (Or.inr (Or.inr ⟨pk_us, l, hl, pk_us, fun u hu => ?_⟩)))))⟩)))))
    · exact hF l hl u (bb_div_F ((hx u).mp q))
    · rw [pk_us, bb_BS_up hl]
      exact hx u
theorem bx_kf {post : Int32 → St2 → Prop} {r : Int32} (h : fm < 32) (hp : post (nI fm) ((nI N), (nI L), xml, xql, xmt, xmi, xbT, nI (fm + 1), xtg, xbs, upd xfo fm r)) : wpX_keepFormula post ((nI N), (nI L), xml, xql, xmt, xmi, xbT, nI fm, xtg, xbs, xfo) r := by
  unfold wpX_keepFormula
  dsimp only
  rw [nI_clamp (n := fm) (by omega)]
  exact ⟨vp_in_nI h (by decide), nm_e (nm_r (nI_1 fm) hp)⟩
theorem bx_make {post : Int32 → St2 → Prop} {p0 p1 p2 p3 : Int32} (hL : L ≤ 3) (hfm : fm ≤ 32) (hbad : ¬ bb_V fm L p0 p1 p2 p3 → post 101 ((nI N), (nI L), xml, xql, xmt, 1, xbT, nI fm, xtg, xbs, xfo)) (hok : bb_V fm L p0 p1 p2 p3 → wX_make_75 post p0 p1 p2 p3 (nI N) (nI L) xml xql xmt 1 xbT (nI fm) xtg xbs xfo) : wpX_make post ((nI N), (nI L), xml, xql, xmt, 1, xbT, nI fm, xtg, xbs, xfo) p0 p1 p2 p3 := by
  unfold wpX_make
  dsimp only
  refine br_f (by decide) ?_
  rcases bb_cs p0 (4 + 1) with ⟨kk, hk, e⟩ | hk
  · subst e
    have inj : ∀ j, j < 5 → nI kk = nI j → kk = j := fun j hj z => (nI_eq (by omega) (by omega)).mp z
    have vk : ∀ {P : Nat → Prop}, (∀ j, j < 5 → nI kk = nI j → P j) → P kk := fun h => h kk hk rfl
    have s59 : (kk ≠ 0 → ∃ l, l < fm ∧ p1 = nI l) → ((kk = 2 ∨ kk = 3) → ∃ r, r < fm ∧ p3 = nI r) → wX_make_59 post (nI kk) p1 p2 p3 (nI N) (nI L) xml xql xmt 1 xbT (nI fm) xtg xbs xfo := by
      intro o1 o3
      refine pk_eq kk 3 (fun e3 => ?_) (fun e3 => hok ⟨kk, hk, rfl, o1, o3, fun z => absurd z e3⟩)
      rcases bb_cs p2 (L + 1) with ⟨a, ha, e⟩ | ha
      · subst e
        exact bx_lb_i hL ha (br_f (by decide) (hok ⟨kk, hk, rfl, o1, o3, fun _ => ⟨a, ha, rfl⟩⟩))
      · refine bx_lb_o hL ha (br_t rfl (hbad fun z => ?_))
        obtain ⟨j, hj, ej, _, _, q⟩ := z
        rw [← inj j hj ej] at q
        obtain ⟨a, ha', e⟩ := q e3
        exact ha a ha' e
    have s47 : (kk ≠ 0 → ∃ l, l < fm ∧ p1 = nI l) → (kk = 2 ∨ kk = 3) → wX_make_47 post (nI kk) p1 p2 p3 (nI N) (nI L) xml xql xmt 1 xbT (nI fm) xtg xbs xfo := by
      intro o1 h23
      unfold wX_make_47
      rcases bb_cs p3 fm with ⟨r, hr, e⟩ | hr
      · refine ek_v (P := fun p3 => wpX_isFormula _ _ p3) e (bx_fm_i hfm hr (br_f (by decide) (s59 o1 fun _ => ⟨r, hr, e⟩)))
      · refine bx_fm_o hfm hr (br_t rfl (hbad fun z => ?_))
        obtain ⟨j, hj, ej, _, q, _⟩ := z
        rw [← inj j hj ej] at q
        obtain ⟨r, hr', e⟩ := q h23
        exact hr r hr' e
    have s37 : (kk ≠ 0 → ∃ l, l < fm ∧ p1 = nI l) → wX_make_37 post (nI kk) p1 p2 p3 (nI N) (nI L) xml xql xmt 1 xbT (nI fm) xtg xbs xfo := by
      intro o1
      exact pk_eq kk 2 (fun e => s47 o1 (Or.inl e)) (fun e => pk_eq kk 3 (fun e2 => s47 o1 (Or.inr e2)) (fun e2 => s59 o1 fun z => absurd z (by omega)))
    refine br_f (nI_pos (by omega)) (br_t (nI_le (b := 4) (by omega) (by decide)) (pk_eq kk 0 (fun e => s37 fun z => absurd e z) (fun e => ?_)))
    rcases bb_cs p1 fm with ⟨l, hl, e1⟩ | hl
    · refine ek_v (P := fun p1 => wpX_isFormula _ _ p1) e1 (bx_fm_i hfm hl (br_f (by decide) (s37 fun _ => ⟨l, hl, e1⟩)))
    · refine bx_fm_o hfm hl (br_t rfl (hbad fun z => ?_))
      obtain ⟨j, hj, ej, q, _, _⟩ := z
      rw [← inj j hj ej] at q
      obtain ⟨l, hl', e1⟩ := q e
      exact hl l hl' e1
  · have hb : ¬ bb_V fm L p0 p1 p2 p3 := by
      rintro ⟨kk, hk', e, _⟩
      exact hk kk hk' e
    rcases bb_ouL (by omega) hk with q | ⟨q, q2⟩
    · exact br_t q (hbad hb)
    · exact br_f q (br_f (Int32.not_le.mpr q2) (hbad hb))
end
