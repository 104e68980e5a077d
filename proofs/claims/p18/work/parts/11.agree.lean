section
variable {T : Nat → Nat → Nat → Prop} {N L fm Q : Nat} {xml xql xmt xmi xbT xft : Int32} {xtg xbs xfo : Nat → Int32} {c : Nat → Nat}
def bq_tg (lo hi : Int64) (f : Nat) : Int32 := bq_cl (if f < 16 then lo else hi) (nI (f % 16))
def bq_Tg (N : Nat) (c : Nat → Nat) (fm : Nat) (fo : Nat → Int32) (lo hi : Int64) : Prop :=
  ∀ f, f < 32 → bq_tg lo hi f = 0 ∨ (f < fm ∧ ∃ k, k < N ∧ bq_tg lo hi f = nI (k + 1) ∧ ∀ s, s < N → (bt (fo f) s = true ↔ c s = k))
theorem bq_cls {post : Int32 → Prop} {p : Int64} {s : Nat} (hR : bq_R N p c) (hs : s < N) (hp : post (nI (c s))) : wpL_cls post () p (nI s) := by
  show post (bq_cl p (nI s))
  rw [(hR s hs).1]
  exact hp
theorem bq_a130 {post : Int32 → Prop} {J85 : Int32 → Prop} {p x4 x6 : Int64} {x8 x10 : Int32} {f : Nat} (hN : N ≤ 12) (hfm : fm ≤ 32) (hf : f < fm) (hM : bq_Mi N T c fm xbs xfo) (hR : bq_R N p c)
    (ht : x10 = 0 ∨ ∃ k, k < N ∧ x10 = nI (k + 1) ∧ ∀ s, s < N → (bt (xfo f) s = true ↔ c s = k)) (hJ : J85 (nI (f + 1))) : ∃ n, wL_agree_130 post J85 p (nI N) x4 x6 x8 (nI f) x10 (nI N) (nI L) xml xql xmt 1 xbT (nI fm) xtg xbs xfo n 0 := by
  refine loop_0 (fun n j (_ : Unit) => wL_agree_130 post J85 p (nI N) x4 x6 x8 (nI f) x10 (nI N) (nI L) xml xql xmt 1 xbT (nI fm) xtg xbs xfo n (nI j)) (fun _ _ => True) N () trivial ?_ ?_
  · intro n _ _
    exact br_t (nI_le (Nat.le_refl _) (by omega)) (nm_r (nI_1 f) hJ)
  · intro n s _ hs _ ih
    have nx := ih () trivial
    have cs := hR s hs
    have hcs := cs.2
    have hid := (hM.1.1 s hs).2
    have iv := (hM.2.2 f hf).2
    have fin : ∀ b : Int32, ((b = 1 ∧ bt (xfo f) s = true) ∨ (b = 0 ∧ ¬ bt (xfo f) s = true)) → wpL_cls (fun r_14 => ((r_14 = (x10 - 1) → (wL_agree_183 post J85 (wL_agree_130 post J85 p (nI N) x4 x6 x8 (nI f) x10 (nI N) (nI L) xml xql xmt 1 xbT (nI fm) xtg xbs xfo n) p (nI N) x4 x6 x8 (nI f) x10 (nI s) b 1 (nI N) (nI L) xml xql xmt 1 xbT (nI fm) xtg xbs xfo)) ∧ (¬ r_14 = (x10 - 1) → (wL_agree_183 post J85 (wL_agree_130 post J85 p (nI N) x4 x6 x8 (nI f) x10 (nI N) (nI L) xml xql xmt 1 xbT (nI fm) xtg xbs xfo n) p (nI N) x4 x6 x8 (nI f) x10 (nI s) b 0 (nI N) (nI L) xml xql xmt 1 xbT (nI fm) xtg xbs xfo)))) () p (nI s) := by
      intro b hb
      show (bq_cl p (nI s) = (x10 - 1) → _) ∧ (¬ bq_cl p (nI s) = (x10 - 1) → _)
      rw [cs.1]
      rcases ht with e | ⟨k, hk, e, h⟩
      · subst e
        exact br_c (fun _ => br_t (by decide) (nm_r (nI_1 s) nx)) (fun _ => br_t (by decide) (nm_r (nI_1 s) nx))
      · subst e
        rw [nI_pred]
        refine pk_eq (c s) k (fun e => br_f (nI_nle (by omega) (by omega)) (br_t ?_ (nm_r (nI_1 s) nx))) (fun e => br_f (nI_nle (by omega) (by omega)) (br_t ?_ (nm_r (nI_1 s) nx)))
        · rcases hb with z | z
          · exact z.1
          · exact absurd ((h s hs).mpr e) z.2
        · rcases hb with z | z
          · exact absurd ((h s hs).mp z.2) e
          · exact z.1
    refine br_f (nI_ge hs (by omega)) (bq_ho hN hfm hf hs (fun q => ?_) (fun q => ?_))
    · exact bq_cls hR hs (bq_ho hN hfm hf hcs (fun _ => br_t rfl (fin 1 (Or.inl ⟨rfl, q⟩))) (fun z => absurd (iv s (c s) hs hcs hid.symm q) z))
    · exact bq_cls hR hs (bq_ho hN hfm hf hcs (fun z => absurd (iv (c s) s hcs hs hid z) q) (fun _ => br_t rfl (fin 0 (Or.inr ⟨rfl, q⟩))))
theorem bq_agree {post : Int32 → Prop} {p lo hi : Int64} (hN : N ≤ 12) (hfm : fm ≤ 32) (hM : bq_Mi N T c fm xbs xfo) (hR : bq_R N p c) (hG : bq_Tg N c fm xfo lo hi) (hp : post 1) : wpL_agree post ((nI N), (nI L), xml, xql, xmt, 1, nI (bb_cn (bb_ldr c) N), nI fm, xtg, xbs, xfo) p (nI N) lo hi := by
  have hB := bb_cn_le (bb_ldr c) N
  have hc := hM.1.1
  unfold wpL_agree
  dsimp only
  refine loop_0 (fun n j (_ : Unit) => wL_agree_3 post p (nI N) lo hi (nI N) (nI L) xml xql xmt 1 (nI (bb_cn (bb_ldr c) N)) (nI fm) xtg xbs xfo n (nI j)) (fun _ _ => True) N () trivial ?_ ?_
  · intro n _ _
    refine br_t (nI_le (Nat.le_refl _) (by omega)) ?_
    show ∃ fu85 : Nat, wL_agree_85 post p (nI N) lo hi (nI fm) (nI N) (nI L) xml xql xmt 1 (nI (bb_cn (bb_ldr c) N)) (nI fm) xtg xbs xfo fu85 0
    refine loop_0 (fun n f (_ : Unit) => wL_agree_85 post p (nI N) lo hi (nI fm) (nI N) (nI L) xml xql xmt 1 (nI (bb_cn (bb_ldr c) N)) (nI fm) xtg xbs xfo n (nI f)) (fun _ _ => True) fm () trivial ?_ ?_
    · intro n _ _
      exact br_c (fun _ => hp) (fun _ => br_t (nI_le (Nat.le_refl _) (by omega)) hp)
    · intro n f _ hf _ ih
      have nx := ih () trivial
      refine br_f (nI_ge (b := 32) (by omega) (by decide)) (br_f (nI_ge hf (by omega)) ?_)
      have go : ∀ z : Int64, z = (if f < 16 then lo else hi) → wL_agree_113 post (wL_agree_85 post p (nI N) lo hi (nI fm) (nI N) (nI L) xml xql xmt 1 (nI (bb_cn (bb_ldr c) N)) (nI fm) xtg xbs xfo n) p (nI N) lo hi (nI fm) (nI f) z (nI N) (nI L) xml xql xmt 1 (nI (bb_cn (bb_ldr c) N)) (nI fm) xtg xbs xfo := by
        intro z ez
        refine ⟨by decide, ?_⟩
        have er : nI f - nI f / 16 * 16 = nI (f % 16) := pk_rem (d := 16) (by omega) (by omega) (by omega)
        show ∀ x10_7 : Int32, x10_7 = bq_cl z (nI f - nI f / 16 * 16) → _
        rw [er]
        refine nm_e (bq_a130 hN hfm hf hM hR ?_ nx)
        rcases hG f (by omega) with q | ⟨_, q⟩
        · refine Or.inl ?_
          rw [ez]; exact q
        · refine Or.inr ?_
          rw [ez]; exact q
      refine pk_le 16 f (fun z => go hi ?_) (fun z => go lo ?_)
      · rw [if_neg (by omega)]
      · rw [if_pos z]
  · intro n s _ hs _ ih
    have nx := ih () trivial
    refine br_f (nI_ge hs (by omega)) ?_
    refine loop_0 (fun n' t (_ : Unit) => wL_agree_12 post (wL_agree_3 post p (nI N) lo hi (nI N) (nI L) xml xql xmt 1 (nI (bb_cn (bb_ldr c) N)) (nI fm) xtg xbs xfo n) p (nI N) lo hi (nI s) (nI N) (nI L) xml xql xmt 1 (nI (bb_cn (bb_ldr c) N)) (nI fm) xtg xbs xfo n' (nI t)) (fun _ _ => True) s () trivial ?_ ?_
    · intro n' _ _
      exact br_t (nI_le (Nat.le_refl _) (by omega)) (nm_r (nI_1 s) nx)
    · intro n' t _ ht _ ih'
      have nx' := ih' () trivial
      have cs := hR s hs
      have ct := hR t (by omega)
      have hcs := cs.2
      have hct := ct.2
      have ns := bb_nb_lt hc hs
      have nt := bb_nb_lt hc (s := t) (by omega)
      have iff := bb_nb_eq hc hs (t := t) (by omega)
      refine br_f (nI_ge ht (by omega)) (bq_bo hN hM hs (bq_bo hN hM (by omega) (pk_eq (bb_nb c s) (bb_nb c t) (fun e => ?_) (fun e => ?_))))
      · show (bq_cl p (nI s) = bq_cl p (nI t) → _) ∧ (¬ bq_cl p (nI s) = bq_cl p (nI t) → _)
        rw [cs.1, ct.1]
        exact pk_eq (c s) (c t) (fun _ => br_t rfl (nm_r (nI_1 t) nx')) (fun z => absurd (iff.mp e) z)
      · show (bq_cl p (nI s) = bq_cl p (nI t) → _) ∧ (¬ bq_cl p (nI s) = bq_cl p (nI t) → _)
        rw [cs.1, ct.1]
        exact pk_eq (c s) (c t) (fun z => absurd (iff.mpr z) e) (fun _ => br_t rfl (nm_r (nI_1 t) nx'))
theorem bq_edit {post : St2 → Prop} {o x a y : Nat} (hT : bx_T N L T xtg) (hN : N ≤ 12) (hL : L ≤ 3) (ho : o < 16) (hx : x < N) (ha : a < L + 1) (hy : y < N)
    (hp : ∀ T' tg' mt', bx_T N L T' tg' → post ((nI N), (nI L), xml, xql, mt', 0, xbT, xft, tg', xbs, xfo)) : wpL_edit post ((nI N), (nI L), xml, xql, xmt, 0, xbT, xft, xtg, xbs, xfo) (nI o) (nI x) (nI a) (nI y) (nI N) (nI L) := by
  unfold wpL_edit
  dsimp only
  refine pk_le 10 o (fun _ => pk_le 12 o (fun _ => pk_le 14 o (fun _ => ?_) (fun _ => ?_)) (fun _ => ?_)) (fun _ => ?_)
  · refine loop_0 (fun n v (s : Int32 × (Nat → Int32)) => wL_edit_113 post (nI x) (nI a) (nI N) n (nI v) (nI N) (nI L) xml xql s.1 0 xbT xft s.2 xbs xfo) (fun _ s => ∃ T', bx_T N L T' s.2) N (xmt, xtg) ⟨T, hT⟩ ?_ ?_
    · rintro n ⟨mt, tg⟩ ⟨T', h⟩
      exact br_t (nI_le (Nat.le_refl _) (by omega)) (hp T' tg mt h)
    · rintro n v ⟨mt, tg⟩ hv ⟨T', h⟩ ih
      exact br_f (nI_ge hv (by omega)) (bq_rem h hN hL hx ha hv (fun r T'' tg' mt' h' => nm_r (nI_1 v) (ih (mt', tg') ⟨T'', h'⟩)))
  · refine loop_0 (fun n b (s : Int32 × (Nat → Int32)) => wL_edit_54 post (nI x) (nI y) (nI N) (nI L) n (nI b) (nI N) (nI L) xml xql s.1 0 xbT xft s.2 xbs xfo) (fun _ s => ∃ T', bx_T N L T' s.2) (L + 1) (xmt, xtg) ⟨T, hT⟩ ?_ ?_
    · rintro n ⟨mt, tg⟩ ⟨T', h⟩
      exact br_t (nI_lt (by omega) (by omega)) (hp T' tg mt h)
    · rintro n b ⟨mt, tg⟩ hb ⟨T', h⟩ ih
      refine br_f (nI_nlt (by omega) (by omega)) ?_
      refine loop_0 (fun n' v (s : Int32 × (Nat → Int32)) => wL_edit_64 post (wL_edit_54 post (nI x) (nI y) (nI N) (nI L) n) (nI x) (nI y) (nI N) (nI L) (nI b) n' (nI v) (nI N) (nI L) xml xql s.1 0 xbT xft s.2 xbs xfo) (fun _ s => ∃ T', bx_T N L T' s.2) N (mt, tg) ⟨T', h⟩ ?_ ?_
      · rintro n' ⟨mt, tg⟩ ⟨T', h⟩
        exact br_t (nI_le (Nat.le_refl _) (by omega)) (nm_r (nI_1 b) (ih (mt, tg) ⟨T', h⟩))
      · rintro n' v ⟨mt, tg⟩ hv ⟨T', h⟩ ih'
        exact br_f (nI_ge hv (by omega)) (bq_hm h hN hL hx hb hv (fun _ => br_t rfl (bq_add h hN hL hy hb hv (fun r T'' tg' mt' h' => nm_r (nI_1 v) (ih' (mt', tg') ⟨T'', h'⟩)))) (fun _ => br_f (by decide) (nm_r (nI_1 v) (ih' (mt, tg) ⟨T', h⟩))))
  · exact bq_add (a := 0) hT hN hL hx (by omega) hy (fun r T' tg' mt' h' => bq_add (a := 0) h' hN hL hy (by omega) hx (fun r T'' tg'' mt'' h'' => hp T'' tg'' mt'' h''))
  · exact bq_add hT hN hL hx ha hy (fun r T' tg' mt' h' => hp T' tg' mt' h')
theorem bq_pick {post : Int32 → Prop} {Ln k m : Nat} {xs : Nat → Int32} (hLn : Ln ≤ 260) (hk : k < 2 ^ 30) (hm : 0 < m) (hm2 : m < 2 ^ 30) (hp : ∀ j, j < m → post (nI j)) : wpL_pick post Ln xs () (nI k) (nI m) := by
  have fin : ∀ r : Int32, ¬ nI m = 0 ∧ post ((r &&& 2147483647) - (r &&& 2147483647) / nI m * nI m) := by
    intro r
    obtain ⟨j, hj, e⟩ := pk_andE r (m := 2147483647) 31 (by decide)
    rw [e, pk_rem (by omega) hm (by omega)]
    exact ⟨nI_ne0 hm (by omega), hp _ (Nat.mod_lt _ hm)⟩
  unfold wpL_pick wpL_cell
  refine pk_le Ln k (fun _ => fin 0) (fun z => ⟨vp_in_nI z (by omega), fin _⟩)
theorem bb_sp_to {c : Nat → Nat} (h : bb_Sp N T c) : bb_Ld N T c := by
  intro s t q
  have b := (h.2 s t).mpr q
  have h1 := h.1 s b.1
  have h2 := h.1 t b.2.1
  refine ⟨(h.2 s (c s)).mp ⟨b.1, by omega, h1.2.symm⟩, ?_⟩
  have := b.2.2
  omega
theorem bb_sp_ex (hb : ∀ a s t, T a s t → s < N ∧ t < N) (h0 : 0 < N) : ∃ c, bb_Sp N T c := by
  have h : ∀ r, ∃ c, bb_RI N T r c := by
    intro r
    induction r with
    | zero => exact ⟨fun _ => 0, bb_RI_0 h0 (fun _ _ => rfl)⟩
    | succ r ih =>
      obtain ⟨c, h⟩ := ih
      obtain ⟨c', hn⟩ := bb_nx_ex N T c
      exact ⟨c', bb_RI_s hb h hn⟩
  obtain ⟨c, h⟩ := h N
  exact ⟨c, h.1, bb_RI_N hb h⟩
theorem bq_Tg_add {fo fo' : Nat → Int32} {lo hi : Int64} {k : Nat} (hN : N ≤ 12) (h : bq_Tg N c fm fo lo hi) (hf : fm < 32) (hk : k < N) (h1 : ∀ f, f < fm → fo' f = fo f) (h2 : ∀ s, s < N → (bt (fo' fm) s = true ↔ c s = k)) :
    (fm < 16 → bq_Tg N c (fm + 1) fo' (lo ||| ((nI (k + 1)).toInt64 <<< ((4 * nI (fm % 16)).toInt64 &&& 63))) hi) ∧ (16 ≤ fm → bq_Tg N c (fm + 1) fo' lo (hi ||| ((nI (k + 1)).toInt64 <<< ((4 * nI (fm % 16)).toInt64 &&& 63)))) := by
  have z : bq_tg lo hi fm = 0 := by
    rcases h fm hf with q | q
    · exact q
    · omega
  have old : ∀ f, f < 32 → f ≠ fm → bq_tg lo hi f = 0 ∨ (f < fm + 1 ∧ ∃ k, k < N ∧ bq_tg lo hi f = nI (k + 1) ∧ ∀ s, s < N → (bt (fo' f) s = true ↔ c s = k)) := by
    intro f hf' ne
    rcases h f hf' with q | ⟨q1, k, q2, q3, q4⟩
    · exact Or.inl q
    · refine Or.inr ⟨by omega, k, q2, q3, ?_⟩
      rw [h1 f q1]; exact q4
  unfold bq_tg at z
  constructor
  · intro l
    rw [if_pos l] at z
    intro f hf'
    unfold bq_tg
    by_cases lf : f < 16
    · rw [if_pos lf, bq_put (by omega) (by omega) (by omega) z]
      by_cases e : f = fm
      · subst e
        rw [if_pos rfl]
        exact Or.inr ⟨by omega, k, hk, rfl, h2⟩
      · rw [if_neg (by omega)]
        have q := old f hf' e
        unfold bq_tg at q
        rw [if_pos lf] at q
        exact q
    · rw [if_neg lf]
      have q := old f hf' (by omega)
      unfold bq_tg at q
      rw [if_neg lf] at q
      exact q
  · intro l
    rw [if_neg (by omega)] at z
    intro f hf'
    unfold bq_tg
    by_cases lf : f < 16
    · rw [if_pos lf]
      have q := old f hf' (by omega)
      unfold bq_tg at q
      rw [if_pos lf] at q
      exact q
    · rw [if_neg lf, bq_put (by omega) (by omega) (by omega) z]
      by_cases e : f = fm
      · subst e
        rw [if_pos rfl]
        exact Or.inr ⟨by omega, k, hk, rfl, h2⟩
      · rw [if_neg (by omega)]
        have q := old f hf' e
        unfold bq_tg at q
        rw [if_neg lf] at q
        exact q
end
