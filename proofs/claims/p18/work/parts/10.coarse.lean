section
variable {T : Nat → Nat → Nat → Prop} {N L : Nat} {xml xql xmt xmi xbT xft : Int32} {xtg xbs xfo : Nat → Int32} {c c' : Nat → Nat}
theorem bq_SG_a {s a k : Nat} (ha : a ≤ 3) (hk : k < 12) : bq_SG N T c s (12 * a + k) ↔ bq_D N T c s a k := by
  constructor
  · rintro (⟨a', k', h1, h2, e, d⟩ | ⟨e, _⟩)
    · have e1 : a' = a := by omega
      have e2 : k' = k := by omega
      subst e1 e2
      exact d
    · omega
  · intro d
    exact Or.inl ⟨a, k, ha, hk, rfl, d⟩
theorem bq_SG_d {s : Nat} : bq_SG N T c s 48 ↔ bb_Div T (bb_K N c (c s)) s := by
  constructor
  · rintro (⟨a', k', h1, h2, e, d⟩ | ⟨_, d⟩)
    · omega
    · exact d
  · intro d
    exact Or.inr ⟨rfl, d⟩
theorem bq_sigeq {g g' : Int64} {s t : Nat} (hb : ∀ a s t, T a s t → a ≤ L ∧ s < N ∧ t < N) (hN : N ≤ 12) (hL : L ≤ 3) (hC : ∀ v, v < N → c v < N) (hg : ∀ i, i < 64 → (bl g i = true ↔ bq_SG N T c s i)) (hg' : ∀ i, i < 64 → (bl g' i = true ↔ bq_SG N T c t i)) (e : c s = c t) : g = g' ↔ bb_Al N T c s t := by
  constructor
  · intro eg
    have key : ∀ i, i < 64 → (bq_SG N T c s i ↔ bq_SG N T c t i) := fun i hi => by
      rw [← hg i hi, ← hg' i hi, eg]
    refine ⟨e, ?_, fun a k hk => ?_⟩
    · rw [← bq_SG_d, ← bq_SG_d]
      exact key 48 (by omega)
    · by_cases hr : a ≤ 3 ∧ k < 12
      · have q := key (12 * a + k) (by omega)
        rw [bq_SG_a hr.1 hr.2, bq_SG_a hr.1 hr.2] at q
        have hk' : a = 0 → k ≠ c t := by rw [← e]; exact hk
        exact ⟨fun u => (q.mp ⟨hk, u⟩).2, fun u => (q.mpr ⟨hk', u⟩).2⟩
      · have no : ∀ F x, ¬ bb_Unt T F a (bb_K N c k) x := by
          intro F x u
          refine u (fun _ => False) ?_ (fun _ _ _ _ z => z)
          intro v t _ m q
          have b := hb _ _ _ m
          have ct := hC t q.1
          have := q.2
          omega
        exact ⟨fun u => absurd u (no _ _), fun u => absurd u (no _ _)⟩
  · intro al
    refine bq_ext fun i hi => Bool.eq_iff_iff.mpr ?_
    rw [hg i hi, hg' i hi]
    constructor
    · rintro (⟨a, k, h1, h2, ei, d1, d2⟩ | ⟨ei, d⟩)
      · exact Or.inl ⟨a, k, h1, h2, ei, by rw [← e]; exact d1, (al.2.2 a k d1).mp d2⟩
      · exact Or.inr ⟨ei, al.2.1.mp d⟩
    · rintro (⟨a, k, h1, h2, ei, d1, d2⟩ | ⟨ei, d⟩)
      · rw [← e] at d1
        exact Or.inl ⟨a, k, h1, h2, ei, d1, (al.2.2 a k d1).mpr d2⟩
      · exact Or.inr ⟨ei, al.2.1.mpr d⟩
theorem bb_nx_ex (N : Nat) (T : Nat → Nat → Nat → Prop) (c : Nat → Nat) : ∃ c', bb_Nx N T c c' := by
  have h : ∀ s, ∃ k, k ≤ s ∧ bb_Al N T c s k ∧ ∀ t, t < k → ¬ bb_Al N T c s t := by
    intro s
    obtain ⟨k, hk, hl⟩ := pk_least (fun t => bb_Al N T c s t) ⟨s, bb_al_r c s⟩
    exact ⟨k, Nat.le_of_not_lt fun z => hl s z (bb_al_r c s), hk, hl⟩
  exact ⟨fun s => Classical.choose (h s), fun s _ => Classical.choose_spec (h s)⟩
def bq_CI (N : Nat) (c' : Nat → Nat) (P : Nat → Prop) (r : Int64) (d : Int32) : Prop :=
  (∀ v, bt d v = true ↔ v < N ∧ P v) ∧ ∀ v, v < N → (P v → bq_cl r (nI v) = nI (c' v)) ∧ (¬ P v → bq_cl r (nI v) = 0)
theorem bq_CI_cg {P P' : Nat → Prop} {r : Int64} {d : Int32} (e : ∀ v, v < N → (P v ↔ P' v)) (h : bq_CI N c' P r d) : bq_CI N c' P' r d := by
  refine ⟨fun v => ?_, fun v hv => ⟨fun q => (h.2 v hv).1 ((e v hv).mpr q), fun q => (h.2 v hv).2 fun z => q ((e v hv).mp z)⟩⟩
  rw [h.1 v]
  exact ⟨fun q => ⟨q.1, (e v q.1).mp q.2⟩, fun q => ⟨q.1, (e v q.1).mpr q.2⟩⟩
theorem bq_c55 {post : Int64 → Prop} {J5 : Int64 → Int32 → Prop} {J20 : Int64 → Int32 → Int32 → Prop} {p g r : Int64} {x5 d : Int32} {s : Nat} (hT : bx_T N L T xtg) (hN : N ≤ 12) (hL : L ≤ 3) (hR : bq_R N p c) (hn : bb_Nx N T c c') (hs : s < N) (es : c' s = s)
    (hg : ∀ i, i < 64 → (bl g i = true ↔ bq_SG N T c s i)) (h0 : bq_CI N c' (fun v => c' v < s) r d) (hJ : ∀ r d, bq_CI N c' (fun v => c' v < s + 1) r d → J20 r d (nI (s + 1))) :
    ∃ n, wL_coarsest_55 post J5 J20 (nI N) (nI L) p x5 (nI s) g (nI N) (nI L) xml xql xmt xmi xbT xft xtg xbs xfo n r d (nI s) := by
  refine pk_loop (fun n t (z : Int64 × Int32) => wL_coarsest_55 post J5 J20 (nI N) (nI L) p x5 (nI s) g (nI N) (nI L) xml xql xmt xmi xbT xft xtg xbs xfo n z.1 z.2 (nI t)) (fun t z => s ≤ t ∧ bq_CI N c' (fun v => c' v < s ∨ (c' v = s ∧ v < t)) z.1 z.2) N s (r, d) (by omega) ?_ ?_ ?_
  · refine ⟨Nat.le_refl _, bq_CI_cg (fun v hv => ?_) h0⟩
    have := (hn v hv).1
    exact ⟨Or.inl, fun z => z.elim id (fun z => by omega)⟩
  · rintro n ⟨r, d⟩ ⟨_, h⟩
    dsimp only at h ⊢
    refine br_t (nI_le (Nat.le_refl _) (by omega)) (nm_r (nI_1 s) (hJ r d (bq_CI_cg (fun v hv => ?_) h)))
    constructor
    · rintro (z | z) <;> omega
    · intro z
      by_cases e : c' v = s
      · exact Or.inr ⟨e, hv⟩
      · exact Or.inl (by omega)
  · rintro n t ⟨r, d⟩ ht ⟨hst, h⟩ ih
    dsimp only at h ⊢
    have skip : c' t ≠ s → wL_coarsest_55 post J5 J20 (nI N) (nI L) p x5 (nI s) g (nI N) (nI L) xml xql xmt xmi xbT xft xtg xbs xfo n r d (nI (t + 1)) := by
      intro ne
      refine ih (r, d) ⟨by omega, bq_CI_cg (fun v hv => ?_) h⟩
      constructor
      · rintro (z | z)
        · exact Or.inl z
        · exact Or.inr ⟨z.1, by omega⟩
      · rintro (z | z)
        · exact Or.inl z
        · refine Or.inr ⟨z.1, ?_⟩
          have : v ≠ t := fun e => ne (e ▸ z.1)
          omega
    have ct := hR t ht
    have cs := hR s hs
    have hct := ct.2
    have hcs := cs.2
    refine br_f (nI_ge ht (by omega)) (ek_if (bq_con1 d (by omega)) (fun q => nm_r (nI_1 t) (skip ?_)) (fun q => ?_))
    · rcases ((h.1 t).mp q).2 with z | z <;> omega
    · have np : ¬ (c' t < s ∨ (c' t = s ∧ t < t)) := fun z => q ((h.1 t).mpr ⟨ht, z⟩)
      have add : c' t = s → wL_coarsest_112 post J5 J20 (wL_coarsest_55 post J5 J20 (nI N) (nI L) p x5 (nI s) g (nI N) (nI L) xml xql xmt xmi xbT xft xtg xbs xfo n) (nI N) (nI L) p x5 r d (nI s) g (nI t) (nI N) (nI L) xml xql xmt xmi xbT xft xtg xbs xfo := by
        intro e
        refine nm_e (nm_e (nm_r (nI_1 t) (ih (_, _) ⟨by omega, fun v => ?_, fun v hv => ?_⟩)))
        · dsimp only
          rw [bb_ins _ (by omega), h.1 v]
          constructor
          · rintro (⟨z1, z2 | z2⟩ | z)
            · exact ⟨z1, Or.inl z2⟩
            · exact ⟨z1, Or.inr ⟨z2.1, by omega⟩⟩
            · subst z
              exact ⟨ht, Or.inr ⟨e, by omega⟩⟩
          · rintro ⟨z1, z2 | z2⟩
            · exact Or.inl ⟨z1, Or.inl z2⟩
            · by_cases e' : v = t
              · exact Or.inr e'
              · exact Or.inl ⟨z1, Or.inr ⟨z2.1, by omega⟩⟩
        · dsimp only
          rw [bq_put (by omega) (by omega) (by omega) ((h.2 t ht).2 np)]
          by_cases e' : v = t
          · subst e'
            rw [if_pos rfl]
            exact ⟨fun _ => by rw [e], fun z => absurd (Or.inr ⟨e, by omega⟩) z⟩
          · rw [if_neg e']
            refine ⟨fun z => (h.2 v hv).1 ?_, fun z => (h.2 v hv).2 fun y => z ?_⟩
            · rcases z with z | z
              · exact Or.inl z
              · exact Or.inr ⟨z.1, by omega⟩
            · rcases y with y | y
              · exact Or.inl y
              · exact Or.inr ⟨y.1, by omega⟩
      show (bq_cl p (nI t) = bq_cl p (nI s) → _) ∧ (¬ bq_cl p (nI t) = bq_cl p (nI s) → _)
      rw [ct.1, cs.1]
      refine pk_eq (c t) (c s) (fun e => pk_eq t s (fun e2 => add (by rw [e2]; exact es)) (fun e2 => bq_sig hT hN hL hR ht (fun g' hg' => ?_))) (fun e => nm_r (nI_1 t) (skip fun z => e ?_))
      · have al := bq_sigeq hT.1 hN hL (fun v hv => (hR v hv).2) hg' hg e
        refine br_c (fun z => add ?_) (fun z => nm_r (nI_1 t) (skip fun y => z (al.mpr ?_)))
        · rw [(bb_nx_eq hn ht hs).mpr (al.mp z)]; exact es
        · exact (bb_nx_eq hn ht hs).mp (y.trans es.symm)
      · exact ((bb_nx_eq hn ht hs).mp (z.trans es.symm)).1
theorem bq_c20 {post : Int64 → Prop} {J5 : Int64 → Int32 → Prop} {p : Int64} {i : Nat} (hT : bx_T N L T xtg) (hN : N ≤ 12) (hL : L ≤ 3) (hR : bq_R N p c) (hn : bb_Nx N T c c')
    (h1 : bq_R N p c' → post p) (h2 : ∀ r, bq_R N r c' → J5 r (nI (i + 1))) : ∃ n, wL_coarsest_20 post J5 (nI N) (nI L) p (nI i) (nI N) (nI L) xml xql xmt xmi xbT xft xtg xbs xfo n 0 0 0 := by
  refine loop_0 (fun n s (z : Int64 × Int32) => wL_coarsest_20 post J5 (nI N) (nI L) p (nI i) (nI N) (nI L) xml xql xmt xmi xbT xft xtg xbs xfo n z.1 z.2 (nI s)) (fun s z => bq_CI N c' (fun v => c' v < s) z.1 z.2) N (0, 0) ?_ ?_ ?_
  · refine ⟨fun v => ?_, fun v hv => ⟨fun z => absurd z (Nat.not_lt_zero _), fun _ => bq_cl0 (by omega)⟩⟩
    dsimp only
    rw [b_0]
    exact ⟨fun q => absurd q (by decide), fun q => absurd q.2 (Nat.not_lt_zero _)⟩
  · rintro n ⟨r, d⟩ h
    dsimp only at h ⊢
    have hr : bq_R N r c' := fun v hv => by
      have := (hn v hv).1
      exact ⟨(h.2 v hv).1 (by omega), by omega⟩
    refine br_t (nI_le (Nat.le_refl _) (by omega)) (br_c (fun e => h1 ?_) (fun e => nm_r (nI_1 i) (h2 r hr)))
    rw [← e]; exact hr
  · rintro n s ⟨r, d⟩ hs h ih
    dsimp only at h ⊢
    refine br_f (nI_ge hs (by omega)) (ek_if (bq_con1 d (by omega)) (fun q => nm_r (nI_1 s) (ih (r, d) (bq_CI_cg (fun v hv => ?_) h))) (fun q => bq_sig hT hN hL hR hs (fun g hg => bq_c55 hT hN hL hR hn hs ?_ hg h (fun r d h' => ih (r, d) h'))))
    · have z := ((h.1 s).mp q).2
      refine ⟨fun y => by omega, fun y => ?_⟩
      have : c' v ≠ s := fun e => by
        have y2 := bb_nx_id hn hv
        rw [e] at y2
        omega
      omega
    · have z : ¬ c' s < s := fun z => q ((h.1 s).mpr ⟨hs, z⟩)
      have := (hn s hs).1
      omega
theorem bb_RI_w {r : Nat} (h : bb_RI N T r c) (hr : N ≤ r) : bb_RI N T N c :=
  ⟨h.1, h.2.1, h.2.2.elim Or.inl (fun z => Or.inr (by omega))⟩
theorem bq_coa {post : Int64 → Prop} (hT : bx_T N L T xtg) (h2 : 2 ≤ N) (hN : N ≤ 12) (hL : L ≤ 3) (hp : ∀ p c, bb_Sp N T c → bq_R N p c → post p) : wpL_coarsest post ((nI N), (nI L), xml, xql, xmt, xmi, xbT, xft, xtg, xbs, xfo) (nI N) (nI L) := by
  have hb : ∀ a s t, T a s t → s < N ∧ t < N := fun a s t m => (hT.1 a s t m).2
  unfold wpL_coarsest
  dsimp only
  refine loop_0 (fun n i (p : Int64) => wL_coarsest_5 post (nI N) (nI L) (nI N) (nI L) xml xql xmt xmi xbT xft xtg xbs xfo n p (nI i)) (fun i p => ∃ c, bq_R N p c ∧ bb_RI N T i c) (N + 1) 0 ?_ ?_ ?_
  · exact ⟨fun _ => 0, fun s hs => ⟨bq_cl0 (by omega), by show 0 < N; omega⟩, bb_RI_0 (by omega) (fun _ _ => rfl)⟩
  · rintro n p ⟨c, hR, h⟩
    have hw := bb_RI_w h (by omega)
    exact br_t (nI_lt (by omega) (by omega)) (hp p c ⟨hw.1, bb_RI_N hb hw⟩ hR)
  · rintro n i p hi ⟨c, hR, h⟩ ih
    obtain ⟨c', hn⟩ := bb_nx_ex N T c
    refine br_f (nI_nlt (by omega) (by omega)) (bq_c20 hT hN hL hR hn (fun q => ?_) (fun r hr => ih r ⟨c', hr, bb_RI_s hb h hn⟩))
    have e : ∀ v, v < N → c' v = c v := by
      intro v hv
      have a := q v hv
      have b := hR v hv
      have a2 := a.2
      have b2 := b.2
      exact (nI_eq (by omega) (by omega)).mp (a.1.symm.trans b.1)
    have hw : bb_RI N T N c := ⟨h.1, h.2.1, Or.inl fun s t hs ht z => (bb_nx_eq hn hs ht).mp (by rw [e s hs, e t ht]; exact z)⟩
    exact hp p c ⟨hw.1, bb_RI_N hb hw⟩ hR
end
