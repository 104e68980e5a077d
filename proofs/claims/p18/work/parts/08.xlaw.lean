section
variable {T : Nat → Nat → Nat → Prop} {N L fm Q : Nat} {xml xql xmt xmi xbT xft : Int32} {xtg xbs xfo : Nat → Int32} {c : Nat → Nat}
theorem bq_T_add {s a t : Nat} {tg : Nat → Int32} (hN : N ≤ 12) (h : bx_T N L T tg) (hs : s < N) (ha : a ≤ L) (ht : t < N) :
    bx_T N L (fun a' s' t' => T a' s' t' ∨ (a' = a ∧ s' = s ∧ t' = t)) (upd tg (a * 12 + s) (tg (a * 12 + s) ||| ((1 : Int32) <<< (nI t &&& 31)))) := by
  refine ⟨?_, ?_⟩
  · rintro a' s' t' (q | ⟨e1, e2, e3⟩)
    · exact h.1 _ _ _ q
    · exact ⟨by omega, by omega, by omega⟩
  · intro a' s' t' ha' hs'
    by_cases e : a' * 12 + s' = a * 12 + s
    · have e1 : a' = a := by omega
      have e2 : s' = s := by omega
      subst e1 e2
      rw [pk_us, bb_ins _ (by omega), h.2 _ _ _ ha' hs']
      exact ⟨fun z => z.elim Or.inl (fun z => Or.inr ⟨rfl, rfl, z⟩), fun z => z.elim Or.inl (fun z => Or.inr z.2.2)⟩
    · rw [pk_un e, h.2 _ _ _ ha' hs']
      exact ⟨Or.inl, fun z => z.elim id (fun z => absurd (by rw [z.1, z.2.1]) e)⟩
theorem bq_T_del {s a t : Nat} {tg : Nat → Int32} (hN : N ≤ 12) (h : bx_T N L T tg) (hs : s < N) (ha : a ≤ L) (ht : t < N) :
    bx_T N L (fun a' s' t' => T a' s' t' ∧ ¬ (a' = a ∧ s' = s ∧ t' = t)) (upd tg (a * 12 + s) (tg (a * 12 + s) &&& (((1 : Int32) <<< (nI t &&& 31)) ^^^ (-1)))) := by
  refine ⟨?_, ?_⟩
  · rintro a' s' t' q
    exact h.1 _ _ _ q.1
  · intro a' s' t' ha' hs'
    by_cases e : a' * 12 + s' = a * 12 + s
    · have z1 : a' = a := by omega
      have z2 : s' = s := by omega
      subst z1 z2
      rw [pk_us, bb_del _ (by omega), h.2 _ _ _ ha' hs']
      exact ⟨fun z => ⟨z.1, fun y => z.2 y.2.2⟩, fun z => ⟨z.1, fun y => z.2 ⟨rfl, rfl, y⟩⟩⟩
    · rw [pk_un e, h.2 _ _ _ ha' hs']
      exact ⟨fun z => ⟨z, fun y => e (by rw [y.1, y.2.1])⟩, fun z => z.1⟩
theorem bq_add {post : Int32 → St2 → Prop} {x a y : Nat} (hT : bx_T N L T xtg) (hN : N ≤ 12) (hL : L ≤ 3) (hx : x < N) (ha : a < L + 1) (hy : y < N)
    (hp : ∀ r T' tg' mt', bx_T N L T' tg' → post r ((nI N), (nI L), xml, xql, mt', 0, xbT, xft, tg', xbs, xfo)) : wpX_addMove post ((nI N), (nI L), xml, xql, xmt, 0, xbT, xft, xtg, xbs, xfo) (nI x) (nI a) (nI y) := by
  unfold wpX_addMove
  dsimp only
  refine br_t rfl (bx_st_i hN hx (br_f (by decide) (bx_lb_i hL ha (br_f (by decide) (bx_st_i hN hy (br_f (by decide) (bx_mit hT hN hL (by omega) hx hy (fun q => br_f (by decide) (hp 105 T xtg xmt hT)) (fun q => br_t rfl (br_c (fun z => ?_) (fun z => hp 104 T xtg xmt hT))))))))))
  unfold wpX_row
  dsimp only
  rw [bb_row, nI_clamp (n := a * 12 + x) (by omega)]
  exact ⟨vp_in_nI (by omega) (by decide), vp_in_nI (by omega) (by decide), nm_e (nm_e (hp 0 _ _ _ (bq_T_add hN hT hx (by omega) hy)))⟩
theorem bq_rem {post : Int32 → St2 → Prop} {x a y : Nat} (hT : bx_T N L T xtg) (hN : N ≤ 12) (hL : L ≤ 3) (hx : x < N) (ha : a < L + 1) (hy : y < N)
    (hp : ∀ r T' tg' mt', bx_T N L T' tg' → post r ((nI N), (nI L), xml, xql, mt', 0, xbT, xft, tg', xbs, xfo)) : wpX_removeMove post ((nI N), (nI L), xml, xql, xmt, 0, xbT, xft, xtg, xbs, xfo) (nI x) (nI a) (nI y) := by
  unfold wpX_removeMove
  dsimp only
  refine br_t rfl (bx_st_i hN hx (br_f (by decide) (bx_lb_i hL ha (br_f (by decide) (bx_st_i hN hy (br_f (by decide) (bx_mit hT hN hL (by omega) hx hy (fun q => br_f (by decide) ?_) (fun q => br_t rfl (hp 106 T xtg xmt hT)))))))))
  unfold wpX_row
  dsimp only
  rw [bb_row, nI_clamp (n := a * 12 + x) (by omega)]
  exact ⟨vp_in_nI (by omega) (by decide), vp_in_nI (by omega) (by decide), nm_e (nm_e (hp 0 _ _ _ (bq_T_del hN hT hx (by omega) hy)))⟩
theorem bq_hm {post : Int32 → Prop} {x a y : Nat} (hT : bx_T N L T xtg) (hN : N ≤ 12) (hL : L ≤ 3) (hx : x < N) (ha : a < L + 1) (hy : y < N) (h1 : T a x y → post 1) (h0 : ¬ T a x y → post 0) : wpX_hasMove post ((nI N), (nI L), xml, xql, xmt, xmi, xbT, xft, xtg, xbs, xfo) (nI x) (nI a) (nI y) := by
  unfold wpX_hasMove
  dsimp only
  exact bx_st_i hN hx (br_f (by decide) (bx_lb_i hL ha (br_f (by decide) (bx_st_i hN hy (br_f (by decide) (bx_mit hT hN hL (by omega) hx hy (fun q => br_f (by decide) (h1 q)) (fun q => br_t rfl (h0 q))))))))
theorem bq_succ {post : Int32 → Prop} {u a : Nat} (hT : bx_T N L T xtg) (hN : N ≤ 12) (hL : L ≤ 3) (hu : u < N) (ha : a < L + 1) (hp : ∀ r, (∀ v, bt r v = true ↔ T a u v) → post r) : wpL_succ post ((nI N), (nI L), xml, xql, xmt, xmi, xbT, xft, xtg, xbs, xfo) (nI u) (nI a) (nI N) := by
  unfold wpL_succ
  dsimp only
  refine loop_0 (fun n i (r : Int32) => wL_succ_6 post (nI u) (nI a) (nI N) (nI N) (nI L) xml xql xmt xmi xbT xft xtg xbs xfo n r (nI i)) (fun i r => ∀ v, bt r v = true ↔ v < i ∧ T a u v) N 0 ?_ ?_ ?_
  · intro v
    rw [b_0]
    exact ⟨fun q => absurd q (by decide), fun q => absurd q.1 (Nat.not_lt_zero _)⟩
  · intro n r h
    refine br_t (nI_le (Nat.le_refl _) (by omega)) (hp r fun v => ?_)
    rw [h v]
    exact ⟨fun q => q.2, fun q => ⟨(hT.1 _ _ _ q).2.2, q⟩⟩
  · intro n i r hi h ih
    refine br_f (nI_ge hi (by omega)) (bq_hm hT hN hL hu ha hi (fun q => br_t rfl (nm_e (nm_r (nI_1 i) (ih _ fun v => ?_)))) (fun q => br_f (by decide) (nm_r (nI_1 i) (ih _ fun v => ?_))))
    · rw [bb_ins _ (by omega), h v]
      constructor
      · rintro (z | z)
        · exact ⟨by omega, z.2⟩
        · subst z
          exact ⟨by omega, q⟩
      · intro z
        by_cases e : v = i
        · exact Or.inr e
        · exact Or.inl ⟨by omega, z.2⟩
    · rw [h v]
      refine ⟨fun z => ⟨by omega, z.2⟩, fun z => ⟨?_, z.2⟩⟩
      by_cases e : v = i
      · subst e
        exact absurd z.2 q
      · omega
def bq_Iv (N : Nat) (c : Nat → Nat) (P : Nat → Prop) : Prop := ∀ s t, s < N → t < N → c s = c t → P s → P t
def bq_Mi (N : Nat) (T : Nat → Nat → Nat → Prop) (c : Nat → Nat) (fm : Nat) (bs fo : Nat → Int32) : Prop :=
  bb_Sp N T c ∧ (∀ i s, i < bb_cn (bb_ldr c) N → (bt (bs i) s = true ↔ s < N ∧ bb_nb c s = i)) ∧ ∀ f, f < fm → (∀ u, bt (fo f) u = true → u < N) ∧ bq_Iv N c (bb_BS fo f)
theorem bq_bw {post : Int32 → Prop} {s : Nat} (hN : N ≤ 12) (hM : bq_Mi N T c fm xbs xfo) (hs : s < N) (hp : post (nI (bb_nb c s))) : wpX_blockWith post ((nI N), (nI L), xml, xql, xmt, xmi, nI (bb_cn (bb_ldr c) N), xft, xtg, xbs, xfo) (nI s) := by
  have hB := bb_cn_le (bb_ldr c) N
  have hc := hM.1.1
  exact bx_bw (k := bb_nb c s) (by omega) (by omega) (bb_nb_lt hc hs) ((hM.2.1 _ s (bb_nb_lt hc hs)).mpr ⟨hs, rfl⟩) (fun i hi q => ((hM.2.1 i s hi).mp q).2.symm) hp
theorem bq_bo {post : Int32 → Prop} {s : Nat} (hN : N ≤ 12) (hM : bq_Mi N T c fm xbs xfo) (hs : s < N) (hp : post (nI (bb_nb c s))) : wpX_blockOf post ((nI N), (nI L), xml, xql, xmt, 1, nI (bb_cn (bb_ldr c) N), xft, xtg, xbs, xfo) (nI s) := by
  unfold wpX_blockOf
  dsimp only
  exact br_f (by decide) (bx_st_i hN hs (br_f (by decide) (bq_bw hN hM hs hp)))
theorem bq_ho {post : Int32 → Prop} {f s : Nat} (hN : N ≤ 12) (hfm : fm ≤ 32) (hf : f < fm) (hs : s < N) (h1 : bt (xfo f) s = true → post 1) (h0 : ¬ bt (xfo f) s = true → post 0) : wpX_holds post ((nI N), (nI L), xml, xql, xmt, 1, xbT, nI fm, xtg, xbs, xfo) (nI f) (nI s) := by
  unfold wpX_holds
  dsimp only
  refine br_f (by decide) (bx_fm_i hfm hf (br_f (by decide) (bx_st_i hN hs (br_f (by decide) ?_))))
  rw [nI_clamp (n := f) (by omega)]
  exact ⟨vp_in_nI (by omega) (by decide), bx_con (by omega) (fun q => br_f (by decide) (h1 q)) (fun q => br_t rfl (h0 q))⟩
theorem bq_unt {F G : Nat → Prop} {u : Nat} (h : bb_Unt T F 0 G u) : G u ∨ bb_Unt T (fun v => F v ∧ ¬ G v) 0 G u := by
  refine bb_unt_ind (fun u => G u ∨ bb_Unt T (fun v => F v ∧ ¬ G v) 0 G u) h ?_ ?_
  · intro v t f m g
    by_cases e : G v
    · exact Or.inl e
    · exact Or.inr (bb_unt_b (F := fun v => F v ∧ ¬ G v) ⟨f, e⟩ m g)
  · intro v w f m _ ih
    by_cases e : G v
    · exact Or.inl e
    · rcases ih with ih | ih
      · exact Or.inr (bb_unt_b (F := fun v => F v ∧ ¬ G v) ⟨f, e⟩ m ih)
      · exact Or.inr (bb_unt_s (F := fun v => F v ∧ ¬ G v) ⟨f, e⟩ m ih)
theorem bq_IvU {F G : Nat → Prop} {a : Nat} (hb : ∀ a s t, T a s t → s < N ∧ t < N) (hS : bb_Sp N T c) (hF : bq_Iv N c F) (hG : bq_Iv N c G) : bq_Iv N c (fun u => bb_Unt T F a G u ∨ (a = 0 ∧ G u)) := by
  intro s t hs ht e h
  obtain ⟨R, hE, hSt, r⟩ := (hS.2 s t).mp ⟨hs, ht, e⟩
  have cl : ∀ P, bq_Iv N c P → ∀ x y, R x y → P x → P y := fun P hP x y q p => by
    have z := (hS.2 x y).mpr ⟨R, hE, hSt, q⟩
    exact hP x y z.1 z.2.1 z.2.2 p
  rcases h with h | h
  · by_cases ea : a = 0
    · subst ea
      rcases bq_unt h with g | u
      · exact Or.inr ⟨rfl, cl G hG _ _ r g⟩
      · have hK : ∀ x y, R x y → (F x ∧ ¬ G x) → (F y ∧ ¬ G y) := fun x y q p => ⟨cl F hF _ _ q p.1, fun z => p.2 (cl G hG _ _ (hE.2.1 _ _ q) z)⟩
        have u' := bb_cutU hb hE hSt hK (cl G hG) (fun _ x p q => p.2 q) u t r
        exact Or.inl (bb_unt_mono (fun x p => p.1) (fun x p => p) u')
    · exact Or.inl (bb_cutU hb hE hSt (cl F hF) (cl G hG) (fun z => absurd z ea) h t r)
  · exact Or.inr ⟨h.1, cl G hG _ _ r h.2⟩
theorem bq_IvD {F : Nat → Prop} (hb : ∀ a s t, T a s t → s < N ∧ t < N) (hS : bb_Sp N T c) (hF : bq_Iv N c F) : bq_Iv N c (fun u => bb_Div T F u) := by
  intro s t hs ht e h
  obtain ⟨R, hE, hSt, r⟩ := (hS.2 s t).mp ⟨hs, ht, e⟩
  refine bb_cutD hb hE hSt (fun x y q p => ?_) h r
  have z := (hS.2 x y).mpr ⟨R, hE, hSt, q⟩
  exact hF x y z.1 z.2.1 z.2.2 p
theorem bq_IvF {kd lf fl rt fo : Nat → Int32} {f : Nat} (hb : ∀ a s t, T a s t → s < N ∧ t < N) (hS : bb_Sp N T c) (hI : ∀ l, l < f → bq_Iv N c (bb_BS fo l)) (h : bb_Fm N L T c kd lf fl rt fo f) : bq_Iv N c (bb_BS fo f) := by
  rcases h with ⟨_, h⟩ | ⟨_, l, _, _, h⟩ | ⟨_, l, hl, _, h⟩ | ⟨_, l, r, hl, hr, _, _, h⟩ | ⟨_, l, a, r, hl, _, hr, _, _, _, h⟩ | ⟨_, l, hl, _, h⟩
  · intro s t hs ht e p
    exact h t ht
  · intro s t hs ht e p
    exact (h t ht).mpr (e ▸ (h s hs).mp p)
  · intro s t hs ht e p
    exact (h t ht).mpr fun z => (h s hs).mp p (hI l hl t s ht hs e.symm z)
  · intro s t hs ht e p
    have q := (h s hs).mp p
    exact (h t ht).mpr ⟨hI l hl s t hs ht e q.1, hI r hr s t hs ht e q.2⟩
  · intro s t hs ht e p
    exact (h t ht).mpr (bq_IvU hb hS (hI l hl) (hI r hr) s t hs ht e ((h s hs).mp p))
  · intro s t hs ht e p
    exact (h t ht).mpr (bq_IvD hb hS (hI l hl) s t hs ht e ((h s hs).mp p))
theorem bq_Mi_add {bs fo : Nat → Int32} {r : Int32} (h : bq_Mi N T c fm bs fo) (h1 : ∀ u, bt r u = true → u < N) (h2 : bq_Iv N c (bb_BS (upd fo fm r) fm)) : bq_Mi N T c (fm + 1) bs (upd fo fm r) := by
  refine ⟨h.1, h.2.1, fun f hf => ?_⟩
  by_cases e : f = fm
  · subst e
    refine ⟨?_, h2⟩
    rw [pk_us]; exact h1
  · have q := h.2.2 f (by omega)
    refine ⟨?_, ?_⟩
    · rw [pk_un e]; exact q.1
    · rw [bb_BS_up (by omega)]; exact q.2
theorem bq_make {post : Int32 → St2 → Prop} {p0 p1 p2 p3 : Int32} (hT : bx_T N L T xtg) (hN : N ≤ 12) (hL : L ≤ 3) (hQ : Q ≤ 32) (hfm : fm ≤ Q) (hM : bq_Mi N T c fm xbs xfo) (hV : bb_V fm L p0 p1 p2 p3)
    (hp : ∀ r fm' fo', fm ≤ fm' → fm' ≤ Q → (∀ f, f < fm → fo' f = xfo f) → bq_Mi N T c fm' xbs fo' → post r ((nI N), (nI L), xml, nI Q, xmt, 1, xbT, nI fm', xtg, xbs, fo')) : wpX_make post ((nI N), (nI L), xml, nI Q, xmt, 1, xbT, nI fm, xtg, xbs, xfo) p0 p1 p2 p3 := by
  have hb : ∀ a s t, T a s t → s < N ∧ t < N := fun a s t m => (hT.1 a s t m).2
  refine bx_make hL (by omega) (fun z => absurd hV z) (fun _ => ?_)
  refine pk_lt fm Q (fun z => bx_sf (c := c) hT hN hL (by omega) hV (fun f hf => (hM.2.2 f hf).1) (fun r hr hn => bx_kf (by omega) (hp _ (fm + 1) _ (by omega) (by omega) (fun f hf => pk_un (by omega)) (bq_Mi_add hM hr ?_)))) (fun z => hp _ fm xfo (Nat.le_refl _) hfm (fun _ _ => rfl) hM)
  refine bq_IvF hb hM.1 (fun l hl => ?_) (hn (fun _ => 0) (fun _ => 0) (fun _ => 0) (fun _ => 0))
  rw [bb_BS_up hl]
  exact (hM.2.2 l hl).2
theorem bq_tell {post : Int32 → St2 → Prop} {x y : Nat} (hN : N ≤ 12) (hQ : Q ≤ 32) (hfm : fm ≤ Q) (hM : bq_Mi N T c fm xbs xfo) (hx : x < N) (hy : y < N)
    (h0 : c x = c y → post 107 ((nI N), (nI L), xml, nI Q, xmt, 1, nI (bb_cn (bb_ldr c) N), nI fm, xtg, xbs, xfo)) (h2 : ¬ c x = c y → Q ≤ fm → post 104 ((nI N), (nI L), xml, nI Q, xmt, 1, nI (bb_cn (bb_ldr c) N), nI fm, xtg, xbs, xfo))
    (h1 : ¬ c x = c y → fm < Q → ∀ fo', (∀ f, f < fm → fo' f = xfo f) → (∀ s, s < N → (bt (fo' fm) s = true ↔ c s = c x)) → bq_Mi N T c (fm + 1) xbs fo' → post (nI fm) ((nI N), (nI L), xml, nI Q, xmt, 1, nI (bb_cn (bb_ldr c) N), nI (fm + 1), xtg, xbs, fo')) : wpX_tell post ((nI N), (nI L), xml, nI Q, xmt, 1, nI (bb_cn (bb_ldr c) N), nI fm, xtg, xbs, xfo) (nI x) (nI y) := by
  have hB := bb_cn_le (bb_ldr c) N
  have hc := hM.1.1
  have hnx := bb_nb_lt hc hx
  have hny := bb_nb_lt hc hy
  unfold wpX_tell
  dsimp only
  refine br_f (by decide) (bx_st_i hN hx (br_f (by decide) (bx_st_i hN hy (br_f (by decide) (bq_bw hN hM hx (bq_bw hN hM hy (pk_eq (bb_nb c x) (bb_nb c y) (fun e => h0 ((bb_nb_eq hc hx hy).mp e)) (fun e => pk_lt fm Q (fun z => ?_) (fun z => h2 (fun q => e ((bb_nb_eq hc hx hy).mpr q)) z)))))))))
  rw [nI_clamp (n := bb_nb c x) (by omega)]
  have key : ∀ s, s < N → (bt (upd xfo fm (xbs (bb_nb c x)) fm) s = true ↔ c s = c x) := by
    intro s hs
    rw [pk_us, hM.2.1 _ s hnx]
    exact ⟨fun q => (bb_nb_eq hc q.1 hx).mp q.2, fun q => ⟨hs, (bb_nb_eq hc hs hx).mpr q⟩⟩
  refine ⟨vp_in_nI (by omega) (by decide), bx_kf (by omega) (h1 (fun q => e ((bb_nb_eq hc hx hy).mpr q)) z _ (fun f hf => pk_un (by omega)) key (bq_Mi_add hM (fun u q => ((hM.2.1 _ u hnx).mp q).1) ?_))⟩
  intro s t hs ht e' p
  exact (key t ht).mpr (e'.symm.trans ((key s hs).mp p))
end
