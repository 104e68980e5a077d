section
variable {T : Nat → Nat → Nat → Prop} {N L : Nat} {xml xql xmt xmi xbT xft : Int32} {xtg xbs xfo : Nat → Int32} {c : Nat → Nat}
theorem bb_WI_c {F : Nat → Prop} {u i v : Nat} {p : Nat → Bool} (h : bb_WI N T F u i p) (hc : bb_WC T F p) (hv : v < N) : p v = true ↔ bb_Rch T F u v :=
  ⟨h.1 v hv, fun q => q (fun v => p v = true) h.2.1 hc⟩
theorem bb_LI_c {F : Nat → Prop} {i s : Nat} {p : Nat → Bool} (hT : ∀ a s t, T a s t → s < N ∧ t < N) (h : bb_LI N T F i p) (hc : bb_LC N T p) (hs : s < N) : p s = true ↔ bb_Div T F s := by
  refine ⟨fun q => ⟨fun s => s < N ∧ p s = true, ⟨hs, q⟩, fun v r => ⟨h.1 v r.1 r.2, ?_⟩⟩, h.2.1 s hs⟩
  obtain ⟨w, m, pw⟩ := hc v r.1 r.2
  exact ⟨w, m, (hT _ _ _ m).2, pw⟩
theorem bb_div_rch {F : Nat → Prop} {s : Nat} : bb_Div T (fun v => bb_Rch T F s v) s ↔ bb_Div T F s := by
  constructor
  · intro ⟨S, h1, h2⟩
    exact ⟨S, h1, fun v q => ⟨bb_rch_F (h2 v q).1, (h2 v q).2⟩⟩
  · intro h
    refine ⟨fun v => bb_Rch T F s v ∧ bb_Div T F v, ⟨bb_rch_0 (bb_div_F h), h⟩, ?_⟩
    rintro v ⟨r, d⟩
    obtain ⟨w, m, d'⟩ := bb_div_s d
    exact ⟨r, w, m, bb_rch_s r m (bb_div_F d'), d'⟩
def bq_R (N : Nat) (p : Int64) (c : Nat → Nat) : Prop := ∀ s, s < N → bq_cl p (nI s) = nI (c s) ∧ c s < N
def bq_D (N : Nat) (T : Nat → Nat → Nat → Prop) (c : Nat → Nat) (s a k : Nat) : Prop := (a = 0 → k ≠ c s) ∧ bb_Unt T (bb_K N c (c s)) a (bb_K N c k) s
def bq_SG (N : Nat) (T : Nat → Nat → Nat → Prop) (c : Nat → Nat) (s i : Nat) : Prop :=
  (∃ a k, a ≤ 3 ∧ k < 12 ∧ i = 12 * a + k ∧ bq_D N T c s a k) ∨ (i = 48 ∧ bb_Div T (bb_K N c (c s)) s)
theorem bq_s336 {post : Int64 → Prop} {s : Nat} {g : Int64} {live : Int32} {P : Prop} (hN : N ≤ 12) (hs : s < N) (hl : bt live s = true ↔ P) (hp : ∀ g', (∀ i, i < 64 → (bl g' i = true ↔ bl g i = true ∨ (i = 48 ∧ P))) → post g') : wL_sig_336 post (nI s) g live (nI N) (nI L) xml xql xmt xmi xbT xft xtg xbs xfo := by
  refine ek_if (bq_con1 live (by omega)) (fun q => hp _ fun i hi => ?_) (fun q => hp _ fun i hi => ?_)
  · rw [bq_or, bq_l48 i hi, Bool.or_eq_true, decide_eq_true_eq]
    exact ⟨fun z => z.elim Or.inl (fun z => Or.inr ⟨z, hl.mp q⟩), fun z => z.elim Or.inl (fun z => Or.inr z.1)⟩
  · exact ⟨Or.inl, fun z => z.elim id (fun z => absurd (hl.mpr z.2) q)⟩
theorem bq_s266 {post : Int64 → Prop} {J252 : Int32 → Int32 → Prop} {s i : Nat} {g : Int64} {live : Int32} (hT : bx_T N L T xtg) (hN : N ≤ 12) (hL : L ≤ 3) (hl : ∀ v, bt live v = true → v < N)
    (h1 : bb_LC N T (bt live) → wL_sig_336 post (nI s) g live (nI N) (nI L) xml xql xmt xmi xbT xft xtg xbs xfo) (h2 : ∀ next, (∀ v, bt next v = true ↔ bt live v = true ∧ ∃ w, T 0 v w ∧ bt live w = true) → J252 next (nI (i + 1))) : ∃ n, wL_sig_266 post J252 (nI s) (nI N) g live (nI i) (nI N) (nI L) xml xql xmt xmi xbT xft xtg xbs xfo n live 0 := by
  refine loop_0 (fun n j (r : Int32) => wL_sig_266 post J252 (nI s) (nI N) g live (nI i) (nI N) (nI L) xml xql xmt xmi xbT xft xtg xbs xfo n r (nI j)) (fun j r => ∀ v, bt r v = true ↔ bt live v = true ∧ (v < j → ∃ w, T 0 v w ∧ bt live w = true)) N live ?_ ?_ ?_
  · intro v
    exact ⟨fun q => ⟨q, fun z => absurd z (Nat.not_lt_zero _)⟩, fun q => q.1⟩
  · intro n r h
    refine br_t (nI_le (Nat.le_refl _) (by omega)) (br_c (fun e => h1 ?_) (fun e => nm_r (nI_1 i) (h2 r fun v => ?_)))
    · subst e
      intro v hv q
      exact ((h v).mp q).2 hv
    · rw [h v]
      exact ⟨fun q => ⟨q.1, q.2 (hl v q.1)⟩, fun q => ⟨q.1, fun _ => q.2⟩⟩
  · intro n j r hj h ih
    refine br_f (nI_ge hj (by omega)) (ek_if (bq_con1 live (by omega)) (fun q => bq_succ (a := 0) hT hN hL hj (by omega) (fun m hm => br_c (fun z => nm_e (nm_r (nI_1 j) (ih _ fun v => ?_))) (fun z => nm_r (nI_1 j) (ih _ fun v => ?_)))) (fun q => nm_r (nI_1 j) (ih _ fun v => ?_)))
    · rw [bb_del _ (by omega), h v]
      constructor
      · intro y
        exact ⟨y.1.1, fun w => y.1.2 (by omega)⟩
      · intro y
        refine ⟨⟨y.1, fun w => y.2 (by omega)⟩, fun e => ?_⟩
        subst e
        obtain ⟨w, mw, lw⟩ := y.2 (by omega)
        exact (bb_z _).mp z w ((bb_andS _ _ _).mpr ⟨(hm w).mpr mw, lw⟩)
    · rw [h v]
      refine ⟨fun y => ⟨y.1, fun w => ?_⟩, fun y => ⟨y.1, fun w => y.2 (by omega)⟩⟩
      by_cases e : v = j
      · subst e
        obtain ⟨w, b⟩ := (bb_nz _).mp z
        rw [bb_andS] at b
        exact ⟨w, (hm w).mp b.1, b.2⟩
      · exact y.2 (by omega)
    · rw [h v]
      refine ⟨fun y => ⟨y.1, fun w => ?_⟩, fun y => ⟨y.1, fun w => y.2 (by omega)⟩⟩
      by_cases e : v = j
      · subst e
        exact absurd y.1 q
      · exact y.2 (by omega)
theorem bq_s252 {post : Int64 → Prop} {F : Nat → Prop} {s : Nat} {g : Int64} {reach : Int32} (hT : bx_T N L T xtg) (hN : N ≤ 12) (hL : L ≤ 3) (hs : s < N) (hF : ∀ v, F v → v < N) (hr : ∀ v, bt reach v = true ↔ bb_Rch T F s v)
    (hp : ∀ g', (∀ i, i < 64 → (bl g' i = true ↔ bl g i = true ∨ (i = 48 ∧ bb_Div T F s))) → post g') : ∃ n, wL_sig_252 post (nI s) (nI N) g (nI N) (nI L) xml xql xmt xmi xbT xft xtg xbs xfo n reach 0 := by
  have hb : ∀ a s t, T a s t → s < N ∧ t < N := fun a s t m => (hT.1 a s t m).2
  have fin : ∀ live, (bt live s = true ↔ bb_Div T (fun v => bb_Rch T F s v) s) → wL_sig_336 post (nI s) g live (nI N) (nI L) xml xql xmt xmi xbT xft xtg xbs xfo := by
    intro live q
    exact bq_s336 hN hs (q.trans bb_div_rch) hp
  refine loop_0 (fun n i (r : Int32) => wL_sig_252 post (nI s) (nI N) g (nI N) (nI L) xml xql xmt xmi xbT xft xtg xbs xfo n r (nI i)) (fun i r => (∀ v, bt r v = true → v < N) ∧ bb_LI N T (fun v => bb_Rch T F s v) i (bt r)) N reach ?_ ?_ ?_
  · exact ⟨fun v q => hF v (bb_rch_F ((hr v).mp q)), fun v _ q => (hr v).mp q, fun v _ d => (hr v).mpr (bb_div_F d), Or.inr (bb_cn_le _ _)⟩
  · intro n r ⟨_, h⟩
    exact br_t (nI_le (Nat.le_refl _) (by omega)) (fin r (bb_LI_N hb h hs))
  · intro n i r hi ⟨hl, h⟩ ih
    refine br_f (nI_ge hi (by omega)) (bq_s266 hT hN hL hl (fun lc => fin r (bb_LI_c hb h lc hs)) (fun next hn => ih next ⟨fun v q => hl v ((hn v).mp q).1, ?_⟩))
    refine bb_LI_s hb h (fun v _ q => ((hn v).mp q).1) (fun v hv d => ?_) (fun v _ q => ((hn v).mp q).2) (fun lc v hv q => (hn v).mpr ⟨q, lc v hv q⟩)
    obtain ⟨w, m, d'⟩ := bb_div_s d
    exact (hn v).mpr ⟨h.2.1 v hv d, w, m, h.2.1 w (hb _ _ _ m).2 d'⟩
theorem bq_12 (a k : Nat) : 12 * nI a + nI k = nI (12 * a + k) := by
  show nI 12 * nI a + nI k = _
  rw [pk_mul, nI_add]
theorem bq_s190 {post : Int64 → Prop} {J131 J154 : Int64 → Int32 → Prop} {p g : Int64} {x3 x5 x6 x7 x10 m : Int32} {a : Nat} (hN : N ≤ 12) (ha : a ≤ 3) (hR : bq_R N p c) (hm : ∀ v, bt m v = true → v < N)
    (hJ : ∀ g', (∀ i, i < 64 → (bl g' i = true ↔ bl g i = true ∨ ∃ v, bt m v = true ∧ i = 12 * a + c v)) → J154 g' (nI (a + 1))) : ∃ n, wL_sig_190 post J131 J154 p x3 (nI N) x5 x6 x7 x10 (nI a) m (nI N) (nI L) xml xql xmt xmi xbT xft xtg xbs xfo n g 0 := by
  refine loop_0 (fun n j (r : Int64) => wL_sig_190 post J131 J154 p x3 (nI N) x5 x6 x7 x10 (nI a) m (nI N) (nI L) xml xql xmt xmi xbT xft xtg xbs xfo n r (nI j)) (fun j r => ∀ i, i < 64 → (bl r i = true ↔ bl g i = true ∨ ∃ v, v < j ∧ bt m v = true ∧ i = 12 * a + c v)) N g ?_ ?_ ?_
  · intro i _
    exact ⟨Or.inl, fun q => q.elim id (fun ⟨v, h, _⟩ => absurd h (Nat.not_lt_zero _))⟩
  · intro n r h
    refine br_t (nI_le (Nat.le_refl _) (by omega)) (nm_r (nI_1 a) (hJ r fun i hi => ?_))
    rw [h i hi]
    constructor
    · rintro (q | ⟨v, _, q⟩)
      · exact Or.inl q
      · exact Or.inr ⟨v, q⟩
    · rintro (q | ⟨v, q⟩)
      · exact Or.inl q
      · exact Or.inr ⟨v, hm v q.1, q⟩
  · intro n j r hj h ih
    have cj := hR j hj
    have hcj := cj.2
    refine br_f (nI_ge hj (by omega)) (ek_if (bq_con1 m (by omega)) (fun q => ?_) (fun q => nm_r (nI_1 j) (ih _ fun i hi => ?_)))
    · show ∀ x8_27 : Int64, x8_27 = r ||| ((1 : Int64) <<< (((12 * nI a) + bq_cl p (nI j)).toInt64 &&& 63)) → _
      rw [cj.1, bq_12]
      refine nm_e (nm_r (nI_1 j) (ih _ fun i hi => ?_))
      rw [bq_or, bq_bit (by omega) hi, Bool.or_eq_true, decide_eq_true_eq, h i hi]
      constructor
      · rintro ((z | ⟨v, z1, z2⟩) | z)
        · exact Or.inl z
        · exact Or.inr ⟨v, by omega, z2⟩
        · exact Or.inr ⟨j, by omega, q, z⟩
      · rintro (z | ⟨v, z1, z2⟩)
        · exact Or.inl (Or.inl z)
        · by_cases e : v = j
          · subst e
            exact Or.inr z2.2
          · exact Or.inl (Or.inr ⟨v, by omega, z2⟩)
    · rw [h i hi]
      constructor
      · rintro (z | ⟨v, z1, z2⟩)
        · exact Or.inl z
        · exact Or.inr ⟨v, by omega, z2⟩
      · rintro (z | ⟨v, z1, z2⟩)
        · exact Or.inl z
        · by_cases e : v = j
          · subst e
            exact absurd z2.1 q
          · exact Or.inr ⟨v, by omega, z2⟩
theorem bq_s154 {post : Int64 → Prop} {J131 : Int64 → Int32 → Prop} {p g : Int64} {x3 x7 own : Int32} {u : Nat} (hT : bx_T N L T xtg) (hN : N ≤ 12) (hL : L ≤ 3) (hR : bq_R N p c) (hu : u < N)
    (hJ : ∀ g', (∀ i, i < 64 → (bl g' i = true ↔ bl g i = true ∨ ∃ a v, T a u v ∧ (a = 0 → ¬ bt own v = true) ∧ i = 12 * a + c v)) → J131 g' (nI (u + 1))) : ∃ n, wL_sig_154 post J131 p x3 (nI N) (nI L) own x7 (nI u) (nI N) (nI L) xml xql xmt xmi xbT xft xtg xbs xfo n g 0 := by
  refine loop_0 (fun n j (r : Int64) => wL_sig_154 post J131 p x3 (nI N) (nI L) own x7 (nI u) (nI N) (nI L) xml xql xmt xmi xbT xft xtg xbs xfo n r (nI j)) (fun j r => ∀ i, i < 64 → (bl r i = true ↔ bl g i = true ∨ ∃ a v, a < j ∧ T a u v ∧ (a = 0 → ¬ bt own v = true) ∧ i = 12 * a + c v)) (L + 1) g ?_ ?_ ?_
  · intro i _
    exact ⟨Or.inl, fun q => q.elim id (fun ⟨a, v, h, _⟩ => absurd h (Nat.not_lt_zero _))⟩
  · intro n r h
    refine br_t (nI_lt (by omega) (by omega)) (nm_r (nI_1 u) (hJ r fun i hi => ?_))
    rw [h i hi]
    constructor
    · rintro (q | ⟨a, v, _, q⟩)
      · exact Or.inl q
      · exact Or.inr ⟨a, v, q⟩
    · rintro (q | ⟨a, v, q⟩)
      · exact Or.inl q
      · have := (hT.1 _ _ _ q.1).1
        exact Or.inr ⟨a, v, by omega, q⟩
  · intro n j r hj h ih
    have go : ∀ m : Int32, (∀ v, bt m v = true ↔ T j u v ∧ (j = 0 → ¬ bt own v = true)) → ∃ n', wL_sig_190 post J131 (wL_sig_154 post J131 p x3 (nI N) (nI L) own x7 (nI u) (nI N) (nI L) xml xql xmt xmi xbT xft xtg xbs xfo n) p x3 (nI N) (nI L) own x7 (nI u) (nI j) m (nI N) (nI L) xml xql xmt xmi xbT xft xtg xbs xfo n' r 0 := by
      intro m hm
      refine bq_s190 hN (by omega) hR (fun v q => (hT.1 _ _ _ ((hm v).mp q).1).2.2) (fun g' hg => ih g' fun i hi => ?_)
      rw [hg i hi, h i hi]
      constructor
      · rintro ((z | ⟨a, v, z1, z2⟩) | ⟨v, z1, z2⟩)
        · exact Or.inl z
        · exact Or.inr ⟨a, v, by omega, z2⟩
        · have y := (hm v).mp z1
          exact Or.inr ⟨j, v, by omega, y.1, y.2, z2⟩
      · rintro (z | ⟨a, v, z1, z2, z3, z4⟩)
        · exact Or.inl (Or.inl z)
        · by_cases e : a = j
          · subst e
            exact Or.inr ⟨v, (hm v).mpr ⟨z2, z3⟩, z4⟩
          · exact Or.inl (Or.inr ⟨a, v, by omega, z2, z3, z4⟩)
    refine br_f (nI_nlt (by omega) (by omega)) (bq_succ hT hN hL hu hj (fun m hm => pk_eq j 0 (fun e => nm_e (go _ fun v => ?_)) (fun e => go m fun v => ?_)))
    · rw [bb_diffS, hm v]
      exact ⟨fun q => ⟨q.1, fun _ => q.2⟩, fun q => ⟨q.1, q.2 e⟩⟩
    · rw [hm v]
      exact ⟨fun q => ⟨q, fun z => absurd z e⟩, fun q => q.1⟩
theorem bq_s131 {post : Int64 → Prop} {p : Int64} {reach own : Int32} {s : Nat} (hT : bx_T N L T xtg) (hN : N ≤ 12) (hL : L ≤ 3) (hR : bq_R N p c) (hs : s < N) (ho : ∀ v, bt own v = true ↔ bb_K N c (c s) v) (hr : ∀ v, bt reach v = true ↔ bb_Rch T (bb_K N c (c s)) s v)
    (hp : ∀ g, (∀ i, i < 64 → (bl g i = true ↔ bq_SG N T c s i)) → post g) : ∃ n, wL_sig_131 post p (nI s) (nI N) (nI L) own reach (nI N) (nI L) xml xql xmt xmi xbT xft xtg xbs xfo n 0 0 := by
  refine loop_0 (fun n j (r : Int64) => wL_sig_131 post p (nI s) (nI N) (nI L) own reach (nI N) (nI L) xml xql xmt xmi xbT xft xtg xbs xfo n r (nI j)) (fun j r => ∀ i, i < 64 → (bl r i = true ↔ ∃ u a v, u < j ∧ bb_Rch T (bb_K N c (c s)) s u ∧ T a u v ∧ (a = 0 → ¬ bt own v = true) ∧ i = 12 * a + c v)) N 0 ?_ ?_ ?_
  · intro i _
    rw [bq_0]
    exact ⟨fun q => absurd q (by decide), fun ⟨u, a, v, h, _⟩ => absurd h (Nat.not_lt_zero _)⟩
  · intro n r h
    refine br_t (nI_le (Nat.le_refl _) (by omega)) (bq_s252 hT hN hL hs (fun v q => q.1) hr (fun g' hg => hp g' fun i hi => ?_))
    rw [hg i hi, h i hi]
    constructor
    · rintro (⟨u, a, v, hu, ru, m, z, e⟩ | z)
      · have b := hT.1 _ _ _ m
        have cv := (hR v b.2.2).2
        refine Or.inl ⟨a, c v, by omega, by omega, e, fun e0 e1 => z e0 ((ho v).mpr ⟨b.2.2, e1⟩), bb_rch_unt.mpr ⟨u, v, ru, m, b.2.2, rfl⟩⟩
      · exact Or.inr z
    · rintro (⟨a, k, ha, hk, e, z, un⟩ | z)
      · obtain ⟨u, v, ru, m, kv⟩ := bb_rch_unt.mp un
        have b := hT.1 _ _ _ m
        refine Or.inl ⟨u, a, v, b.2.1, ru, m, fun e0 q => z e0 (kv.2.symm.trans ((ho v).mp q).2), ?_⟩
        rw [kv.2]; exact e
      · exact Or.inr z
  · intro n j r hj h ih
    refine br_f (nI_ge hj (by omega)) (ek_if (bb_con reach (by omega)) (fun q => nm_r (nI_1 j) (ih r fun i hi => ?_)) (fun q => bq_s154 hT hN hL hR hj (fun g' hg => ih g' fun i hi => ?_)))
    · rw [h i hi]
      constructor
      · rintro ⟨u, a, v, hu, z⟩
        exact ⟨u, a, v, by omega, z⟩
      · rintro ⟨u, a, v, hu, z⟩
        by_cases e : u = j
        · subst e
          exact absurd ((hr u).mpr z.1) q
        · exact ⟨u, a, v, by omega, z⟩
    · have q' := (hr j).mp (Classical.byContradiction q)
      rw [hg i hi, h i hi]
      constructor
      · rintro (⟨u, a, v, hu, z⟩ | ⟨a, v, z⟩)
        · exact ⟨u, a, v, by omega, z⟩
        · exact ⟨j, a, v, by omega, q', z⟩
      · rintro ⟨u, a, v, hu, z⟩
        by_cases e : u = j
        · subst e
          exact Or.inr ⟨a, v, z.2⟩
        · exact Or.inl ⟨u, a, v, by omega, z⟩
theorem bq_s50 {post : Int64 → Prop} {p : Int64} {own : Int32} {s : Nat} (hT : bx_T N L T xtg) (hN : N ≤ 12) (hL : L ≤ 3) (hR : bq_R N p c) (hs : s < N) (ho : ∀ v, bt own v = true ↔ bb_K N c (c s) v)
    (hp : ∀ g, (∀ i, i < 64 → (bl g i = true ↔ bq_SG N T c s i)) → post g) : ∃ n, wL_sig_50 post p (nI s) (nI N) (nI L) own (nI N) (nI L) xml xql xmt xmi xbT xft xtg xbs xfo n ((1 : Int32) <<< (nI s &&& 31)) 0 := by
  have hb : ∀ a s t, T a s t → s < N ∧ t < N := fun a s t m => (hT.1 a s t m).2
  refine loop_0 (fun n j (r : Int32) => wL_sig_50 post p (nI s) (nI N) (nI L) own (nI N) (nI L) xml xql xmt xmi xbT xft xtg xbs xfo n r (nI j)) (fun j r => (∀ v, bt r v = true → v < N) ∧ bb_WI N T (bb_K N c (c s)) s j (bt r)) N _ ?_ ?_ ?_
  · have key : ∀ v, bt ((1 : Int32) <<< (nI s &&& 31)) v = true ↔ v = s := by
      intro v
      rw [bb_shl (by omega), decide_eq_true_eq]
    refine ⟨fun v q => ?_, fun v _ q => ?_, fun _ => (key s).mpr rfl, Or.inr (Nat.zero_le _)⟩
    · rw [(key v).mp q]; exact hs
    · rw [(key v).mp q]
      exact bb_rch_0 ⟨hs, rfl⟩
  · intro n r ⟨h1, h2⟩
    refine br_t (nI_le (Nat.le_refl _) (by omega)) (bq_s131 hT hN hL hR hs ho (fun v => ?_) hp)
    exact ⟨fun q => (bb_WI_N h2 (h1 v q)).mp q, fun q => (bb_WI_N h2 (bb_rch_F q).1).mpr q⟩
  · intro n j r hj ⟨h1, h2⟩ ih
    refine br_f (nI_ge hj (by omega)) ?_
    refine loop_0 (fun n' j' (r' : Int32) => wL_sig_64 post (wL_sig_50 post p (nI s) (nI N) (nI L) own (nI N) (nI L) xml xql xmt xmi xbT xft xtg xbs xfo n) p (nI s) (nI N) (nI L) own r (nI j) (nI N) (nI L) xml xql xmt xmi xbT xft xtg xbs xfo n' r' (nI j')) (fun j' r' => ∀ v, bt r' v = true ↔ bt r v = true ∨ (bb_K N c (c s) v ∧ ∃ u, u < j' ∧ bt r u = true ∧ T 0 u v)) N r ?_ ?_ ?_
    · intro v
      exact ⟨Or.inl, fun q => q.elim id (fun ⟨_, u, h, _⟩ => absurd h (Nat.not_lt_zero _))⟩
    · intro n' r' h
      have h' : ∀ x w, bt r x = true → T 0 x w → bb_K N c (c s) w → bt r' w = true := fun x w px m f => (h w).mpr (Or.inr ⟨f, x, h1 x px, px, m⟩)
      refine br_t (nI_le (Nat.le_refl _) (by omega)) (br_c (fun e => bq_s131 hT hN hL hR hs ho (fun v => ?_) hp) (fun e => nm_r (nI_1 j) (ih r' ⟨fun v q => ?_, ?_⟩)))
      · have wc : bb_WC T (bb_K N c (c s)) (bt r) := by
          intro x w px m f
          rw [e] at h'
          exact h' x w px m f
        exact ⟨fun q => (bb_WI_c h2 wc (h1 v q)).mp q, fun q => (bb_WI_c h2 wc (bb_rch_F q).1).mpr q⟩
      · rcases (h v).mp q with z | z
        · exact h1 v z
        · exact z.1.1
      · refine bb_WI_s hb hs h2 (fun v _ q => (h v).mpr (Or.inl q)) (fun v hv q => ?_) h' (fun wc v hv q => ?_)
        · rcases (h v).mp q with z | ⟨f, u, hu, z, m⟩
          · exact h2.1 v hv z
          · exact bb_rch_s (h2.1 u hu z) m f
        · rcases (h v).mp q with z | ⟨f, u, hu, z, m⟩
          · exact z
          · exact wc u v z m f
    · intro n' j' r' hj' h ih'
      refine br_f (nI_ge hj' (by omega)) (ek_if (bq_con1 r (by omega)) (fun q => bq_succ (a := 0) hT hN hL hj' (by omega) (fun m hm => nm_e (nm_r (nI_1 j') (ih' _ fun v => ?_)))) (fun q => nm_r (nI_1 j') (ih' _ fun v => ?_)))
      · rw [bb_orS, bb_andS, hm v, ho v, h v]
        constructor
        · rintro ((z | ⟨f, u, hu, z⟩) | ⟨z1, z2⟩)
          · exact Or.inl z
          · exact Or.inr ⟨f, u, by omega, z⟩
          · exact Or.inr ⟨z2, j', by omega, q, z1⟩
        · rintro (z | ⟨f, u, hu, z⟩)
          · exact Or.inl (Or.inl z)
          · by_cases e : u = j'
            · subst e
              exact Or.inr ⟨z.2, f⟩
            · exact Or.inl (Or.inr ⟨f, u, by omega, z⟩)
      · rw [h v]
        constructor
        · rintro (z | ⟨f, u, hu, z⟩)
          · exact Or.inl z
          · exact Or.inr ⟨f, u, by omega, z⟩
        · rintro (z | ⟨f, u, hu, z⟩)
          · exact Or.inl z
          · by_cases e : u = j'
            · subst e
              exact absurd z.1 q
            · exact Or.inr ⟨f, u, by omega, z⟩
theorem bq_sig {post : Int64 → Prop} {p : Int64} {s : Nat} (hT : bx_T N L T xtg) (hN : N ≤ 12) (hL : L ≤ 3) (hR : bq_R N p c) (hs : s < N)
    (hp : ∀ g, (∀ i, i < 64 → (bl g i = true ↔ bq_SG N T c s i)) → post g) : wpL_sig post ((nI N), (nI L), xml, xql, xmt, xmi, xbT, xft, xtg, xbs, xfo) p (nI s) (nI N) (nI L) := by
  unfold wpL_sig
  dsimp only
  refine loop_0 (fun n j (r : Int32) => wL_sig_6 post p (nI s) (nI N) (nI L) (nI N) (nI L) xml xql xmt xmi xbT xft xtg xbs xfo n r (nI j)) (fun j r => ∀ v, bt r v = true ↔ v < j ∧ c v = c s) N 0 ?_ ?_ ?_
  · intro v
    rw [b_0]
    exact ⟨fun q => absurd q (by decide), fun q => absurd q.1 (Nat.not_lt_zero _)⟩
  · intro n r h
    exact br_t (nI_le (Nat.le_refl _) (by omega)) (nm_e (bq_s50 hT hN hL hR hs h hp))
  · intro n j r hj h ih
    have cj := hR j hj
    have cs := hR s hs
    have hcj := cj.2
    have hcs := cs.2
    refine br_f (nI_ge hj (by omega)) ?_
    show (bq_cl p (nI j) = bq_cl p (nI s) → _) ∧ (¬ bq_cl p (nI j) = bq_cl p (nI s) → _)
    rw [cj.1, cs.1]
    refine pk_eq (c j) (c s) (fun e => nm_e (nm_r (nI_1 j) (ih _ fun v => ?_))) (fun e => nm_r (nI_1 j) (ih _ fun v => ?_))
    · rw [bb_ins _ (by omega), h v]
      constructor
      · rintro (z | z)
        · exact ⟨by omega, z.2⟩
        · subst z
          exact ⟨by omega, e⟩
      · intro z
        by_cases e' : v = j
        · exact Or.inr e'
        · exact Or.inl ⟨by omega, z.2⟩
    · rw [h v]
      refine ⟨fun z => ⟨by omega, z.2⟩, fun z => ⟨?_, z.2⟩⟩
      by_cases e' : v = j
      · subst e'
        exact absurd z.2 e
      · omega
end
