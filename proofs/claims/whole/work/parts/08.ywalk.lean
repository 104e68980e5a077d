section
variable {T : Nat → Nat → Nat → Prop} {N L mv : Nat} {ymx ymq ymi yff : Int32} {yA yB yC ykd ylf yfl yrt ycl yfi yok yse yde yst ytr : Nat → Int32}
def by_WJ (N : Nat) (T : Nat → Nat → Nat → Prop) (F : Nat → Prop) (u : Nat) (A B C se0 : Nat → Int32) (i : Nat) (se : Nat → Int32) : Prop :=
  (∀ v, v < N → bb_p se0 v = true → bb_p se v = true) ∧ (∀ v, v < N → bb_p se v = true → bb_Rch T F u v) ∧
  (∀ j x w, j < i → A j = nI x → B j = nI 0 → C j = nI w → x < N → w < N → bb_p se0 x = true → F w → bb_p se w = true) ∧
  (bb_WC T F (bb_p se0) → ∀ v, v < N → bb_p se v = true → bb_p se0 v = true)
theorem by_WJ_k {F : Nat → Prop} {u i x a w : Nat} {A B C se0 se : Nat → Int32} (hN : N ≤ 12) (h : by_WJ N T F u A B C se0 i se) (eA : A i = nI x) (eB : B i = nI a) (eC : C i = nI w) (hx : x < N) (hw : w < N) (ha : a ≤ 3)
    (hn : a = 0 → bb_p se x = true → F w → False) : by_WJ N T F u A B C se0 (i + 1) se := by
  refine ⟨h.1, h.2.1, ?_, h.2.2.2⟩
  intro j x' w' hj e1 e2 e3 hx' hw' p f
  by_cases e : j = i
  · subst e
    rw [eA] at e1
    rw [eB] at e2
    rw [eC] at e3
    rw [nI_eq (by omega) (by omega)] at e1 e2 e3
    subst e1 e2 e3
    exact (hn rfl (h.1 _ hx p) f).elim
  · exact h.2.2.1 j x' w' (by omega) e1 e2 e3 hx' hw' p f
theorem by_WJ_a {F : Nat → Prop} {u i x w : Nat} {A B C se0 se : Nat → Int32} (hN : N ≤ 12) (h : by_WJ N T F u A B C se0 i se) (eC : C i = nI w) (hx : x < N) (hw : w < N) (hT : T 0 x w)
    (hp : bb_p se x = true) (hf : F w) : by_WJ N T F u A B C se0 (i + 1) (upd se w 1) := by
  have key : ∀ v, bb_p (upd se w 1) v = true ↔ v = w ∨ bb_p se v = true := by
    intro v
    rw [bb_p_t, bb_p_t]
    by_cases e : v = w
    · rw [e, pk_us]
      exact ⟨fun _ => Or.inl rfl, fun _ => by decide⟩
    · rw [pk_un e]
      exact ⟨Or.inr, fun z => z.resolve_left e⟩
  refine ⟨fun v hv p => (key v).mpr (Or.inr (h.1 v hv p)), ?_, ?_, ?_⟩
  · intro v hv p
    rcases (key v).mp p with e | p
    · rw [e]
      exact bb_rch_s (h.2.1 x hx hp) hT hf
    · exact h.2.1 v hv p
  · intro j x' w' hj e1 e2 e3 hx' hw' p f
    by_cases e : j = i
    · subst e
      rw [eC, nI_eq (by omega) (by omega)] at e3
      exact (key w').mpr (Or.inl e3.symm)
    · exact (key w').mpr (Or.inr (h.2.2.1 j x' w' (by omega) e1 e2 e3 hx' hw' p f))
  · intro c v hv p
    rcases (key v).mp p with e | p
    · rw [e]
      exact c x w (h.2.2.2 c x hx hp) hT hf
    · exact h.2.2.2 c v hv p
theorem by_w53 {post : SY → Prop} {J43 : Int32 → (Nat → Int32) → (Nat → Int32) → (Nat → Int32) → (Nat → Int32) → (Nat → Int32) → (Nat → Int32) → (Nat → Int32) → (Nat → Int32) → (Nat → Int32) → (Nat → Int32) → (Nat → Int32) → (Nat → Int32) → (Nat → Int32) → (Nat → Int32) → Prop}
    {F : Nat → Prop} {u r : Nat} (hT : by_T N L T mv yA yB yC) (hN : N ≤ 12) (hL : L ≤ 3) (hv : mv ≤ 32) (hu : u < N) (hF : ∀ v, v < N → bb_z1 (yok v) (F v)) (h0 : bb_WI N T F u r (bb_p yse))
    (hJ : ∀ se, bb_WI N T F u (r + 1) (bb_p se) → J43 (nI (r + 1)) yA yB yC ykd ylf yfl yrt ycl yfi yok se yde yst ytr) : ∃ n, wY_walk_53 post J43 (nI r) (nI N) (nI L) ymx ymq ymi (nI mv) yff n 0 yA yB yC ykd ylf yfl yrt ycl yfi yok yse yde yst ytr := by
  refine loop_0 (fun n i (s : Nat → Int32) => wY_walk_53 post J43 (nI r) (nI N) (nI L) ymx ymq ymi (nI mv) yff n (nI i) yA yB yC ykd ylf yfl yrt ycl yfi yok s yde yst ytr) (fun i s => by_WJ N T F u yA yB yC yse i s) mv yse ?_ ?_ ?_
  · exact ⟨fun v _ p => p, h0.1, fun j x w hj => absurd hj (Nat.not_lt_zero _), fun _ v _ p => p⟩
  · intro n s h
    refine br_t (nI_le (Nat.le_refl _) (by omega)) (nm_r (nI_1 r) (hJ s ?_))
    refine bb_WI_s (fun a s t m => (hT.2.2 a s t m).2) hu h0 h.1 h.2.1 ?_ h.2.2.2
    intro x w p m f
    obtain ⟨j, hj, e1, e2, e3⟩ := hT.2.1 _ _ _ m
    have b := hT.2.2 _ _ _ m
    exact h.2.2.1 j x w hj e1 e2 e3 b.2.1 b.2.2 p f
  · intro n i s hi h ih
    refine br_f (nI_ge hi (by omega)) ?_
    obtain ⟨x, a, w, eA, eB, eC, m⟩ := hT.1 i hi
    have b := hT.2.2 _ _ _ m
    rw [nI_clamp (n := i) (by omega), eA, eB, eC, nI_clamp (n := x) (by omega), nI_clamp (n := w) (by omega)]
    have v1 := vp_in_nI (n := i) (N := 32) (by omega) (by decide)
    have v2 := vp_in_nI (n := x) (N := 12) (by omega) (by decide)
    have v3 := vp_in_nI (n := w) (N := 12) (by omega) (by decide)
    refine ⟨v1, pk_eq a 0 (fun e0 => ⟨v1, v2, br_c (fun z => nm_r (nI_1 i) (ih s ?_)) (fun z => ⟨v1, v3, br_c (fun z2 => nm_r (nI_1 i) (ih s ?_)) (fun z2 => ⟨v1, v3, nm_r (congrArg (upd s w) bb_n1) (nm_r (nI_1 i) (ih _ ?_))⟩)⟩)⟩) (fun e0 => nm_r (nI_1 i) (ih s ?_))⟩
    · exact by_WJ_k hN h eA eB eC b.2.1 b.2.2 (by omega) (fun _ p _ => (bb_p_t.mp p) z)
    · exact by_WJ_k hN h eA eB eC b.2.1 b.2.2 (by omega) (fun _ _ f => (bb_z1_f (hF w b.2.2)).mp z2 f)
    · subst e0
      exact by_WJ_a hN h eC b.2.1 b.2.2 m (bb_p_t.mpr z) ((bb_z1_t (hF w b.2.2)).mp z2)
    · exact by_WJ_k hN h eA eB eC b.2.1 b.2.2 (by omega) (fun e _ _ => e0 e)
theorem by_walk {post : SY → Prop} {F : Nat → Prop} {u : Nat} (hT : by_T N L T mv yA yB yC) (hN : N ≤ 12) (hL : L ≤ 3) (hv : mv ≤ 32) (hu : u < N) (hF : ∀ v, v < N → bb_z1 (yok v) (F v))
    (hp : ∀ se, (∀ v, v < N → (¬ se v = 0 ↔ bb_Rch T F u v)) → post ((nI N), (nI L), ymx, ymq, ymi, (nI mv), yff, yA, yB, yC, ykd, ylf, yfl, yrt, ycl, yfi, yok, se, yde, yst, ytr)) : wpY_walk post ((nI N), (nI L), ymx, ymq, ymi, (nI mv), yff, yA, yB, yC, ykd, ylf, yfl, yrt, ycl, yfi, yok, yse, yde, yst, ytr) (nI u) := by
  unfold wpY_walk
  dsimp only
  refine loop_0 (fun n i (s : Nat → Int32) => wY_walk_2 post (nI u) (nI N) (nI L) ymx ymq ymi (nI mv) yff n (nI i) yA yB yC ykd ylf yfl yrt ycl yfi yok s yde yst ytr) (fun i s => ∀ v, v < i → (¬ s v = 0 ↔ v = u ∧ F v)) N yse (fun v h => absurd h (Nat.not_lt_zero _)) ?_ ?_
  · intro n s h
    refine br_t (nI_le (Nat.le_refl _) (by omega)) ?_
    refine loop_0 (fun n i (s : Nat → Int32) => wY_walk_43 post (nI N) (nI L) ymx ymq ymi (nI mv) yff n (nI i) yA yB yC ykd ylf yfl yrt ycl yfi yok s yde yst ytr) (fun i s => bb_WI N T F u i (bb_p s)) N s ?_ ?_ ?_
    · refine ⟨fun v hv p => ?_, fun f => bb_p_t.mpr ((h u hu).mpr ⟨rfl, f⟩), Or.inr (Nat.zero_le _)⟩
      obtain ⟨e, f⟩ := (h v hv).mp (bb_p_t.mp p)
      rw [e] at f ⊢
      exact bb_rch_0 f
    · intro n s h
      refine br_t (nI_le (Nat.le_refl _) (by omega)) (hp s fun v hv => ?_)
      rw [← bb_p_t]
      exact bb_WI_N h hv
    · intro n i s hi h ih
      exact br_f (nI_ge hi (by omega)) (by_w53 hT hN hL hv hu hF h (fun se q => ih se q))
  · intro n i s hi h ih
    refine br_f (nI_ge hi (by omega)) ?_
    rw [nI_clamp (n := i) (by omega)]
    have v3 := vp_in_nI (n := i) (N := 12) (by omega) (by decide)
    have nx : ∀ x : Int32, (¬ x = 0 ↔ i = u ∧ F i) → ∀ v, v < i + 1 → (¬ upd s i x v = 0 ↔ v = u ∧ F v) := by
      intro x hx v hv
      by_cases e : v = i
      · rw [e, pk_us]; exact hx
      · rw [pk_un e]; exact h v (by omega)
    refine pk_eq i u (fun e => ⟨v3, br_c (fun z => ⟨v3, nm_r (congrArg (upd s i) bb_n0) (nm_r (nI_1 i) (ih _ (nx 0 ?_)))⟩) (fun z => ⟨v3, nm_r (congrArg (upd s i) bb_n1) (nm_r (nI_1 i) (ih _ (nx 1 ?_)))⟩)⟩) (fun e => ⟨v3, nm_r (congrArg (upd s i) bb_n0) (nm_r (nI_1 i) (ih _ (nx 0 ?_)))⟩)
    · exact ⟨fun q => absurd rfl q, fun q => absurd q.2 ((bb_z1_f (hF i hi)).mp z)⟩
    · exact ⟨fun _ => ⟨e, (bb_z1_t (hF i hi)).mp z⟩, fun _ => by decide⟩
    · exact ⟨fun q => absurd rfl q, fun q => absurd q.1 e⟩
def by_LJ (N : Nat) (T : Nat → Nat → Nat → Prop) (F : Nat → Prop) (se0 : Nat → Int32) (u : Nat) (se : Nat → Int32) : Prop :=
  (∀ s, s < N → se s = 0 ∨ se s = 1) ∧ (∀ s, s < N → bb_p se s = true → bb_p se0 s = true) ∧ (∀ s, s < N → bb_Div T F s → bb_p se s = true) ∧
  (∀ s, s < u → s < N → bb_p se s = true → ∃ w, T 0 s w ∧ bb_p se0 w = true) ∧ (∀ s, u ≤ s → s < N → bb_p se s = bb_p se0 s) ∧ (bb_LC N T (bb_p se0) → ∀ s, s < N → bb_p se0 s = true → bb_p se s = true)
theorem by_LJ_s {F : Nat → Prop} {se0 se : Nat → Int32} {u : Nat} {x : Int32} (hb : ∀ a s t, T a s t → s < N ∧ t < N) (h : by_LJ N T F se0 u se) (hu : u < N) (h01 : x = 0 ∨ x = 1) (hx : ¬ x = 0 ↔ (¬ se u = 0 ∧ ∃ w, T 0 u w ∧ ¬ se w = 0)) : by_LJ N T F se0 (u + 1) (upd se u x) := by
  obtain ⟨h1, h2, h3, h4, h5, h6⟩ := h
  have ku : bb_p (upd se u x) u = true ↔ (bb_p se u = true ∧ ∃ w, T 0 u w ∧ bb_p se w = true) := by
    rw [bb_p_t, pk_us, hx, bb_p_t]
    exact ⟨fun q => ⟨q.1, by obtain ⟨w, m, p⟩ := q.2; exact ⟨w, m, bb_p_t.mpr p⟩⟩, fun q => ⟨q.1, by obtain ⟨w, m, p⟩ := q.2; exact ⟨w, m, bb_p_t.mp p⟩⟩⟩
  have kn : ∀ s, s ≠ u → bb_p (upd se u x) s = bb_p se s := by
    intro s e
    unfold bb_p
    rw [pk_un e]
  refine ⟨?_, ?_, ?_, ?_, ?_, ?_⟩
  · intro s hs
    by_cases e : s = u
    · rw [e, pk_us]; exact h01
    · rw [pk_un e]; exact h1 s hs
  · intro s hs p
    by_cases e : s = u
    · subst e
      exact h2 s hs (ku.mp p).1
    · rw [kn s e] at p
      exact h2 s hs p
  · intro s hs d
    by_cases e : s = u
    · subst e
      obtain ⟨w, m, d'⟩ := bb_div_s d
      exact ku.mpr ⟨h3 s hs d, w, m, h3 w (hb _ _ _ m).2 d'⟩
    · rw [kn s e]
      exact h3 s hs d
  · intro s hs hs2 p
    by_cases e : s = u
    · subst e
      obtain ⟨w, m, p'⟩ := (ku.mp p).2
      exact ⟨w, m, h2 w (hb _ _ _ m).2 p'⟩
    · rw [kn s e] at p
      exact h4 s (by omega) hs2 p
  · intro s hs hs2
    rw [kn s (by omega)]
    exact h5 s (by omega) hs2
  · intro c s hs p
    by_cases e : s = u
    · subst e
      obtain ⟨w, m, p'⟩ := c s hs p
      exact ku.mpr ⟨h6 c s hs p, w, m, h6 c w (hb _ _ _ m).2 p'⟩
    · rw [kn s e]
      exact h6 c s hs p
theorem by_l53 {post : SY → Prop} {J30 J40 : Int32 → (Nat → Int32) → (Nat → Int32) → (Nat → Int32) → (Nat → Int32) → (Nat → Int32) → (Nat → Int32) → (Nat → Int32) → (Nat → Int32) → (Nat → Int32) → (Nat → Int32) → (Nat → Int32) → (Nat → Int32) → (Nat → Int32) → (Nat → Int32) → Prop}
    {x1 : Int32} {u : Nat} (hT : by_T N L T mv yA yB yC) (hN : N ≤ 12) (hL : L ≤ 3) (hv : mv ≤ 32) (hu : u < N)
    (hJ : ∀ x : Int32, (x = 0 ∨ x = 1) → (¬ x = 0 ↔ (¬ yse u = 0 ∧ ∃ w, T 0 u w ∧ ¬ yse w = 0)) → J40 (nI (u + 1)) yA yB yC ykd ylf yfl yrt ycl yfi yok (upd yse u x) yde yst ytr) : ∃ n, wY_linger_53 post J30 J40 x1 (nI u) (nI N) (nI L) ymx ymq ymi (nI mv) yff yA yB yC ykd ylf yfl yrt ycl yfi yok yse yde yst ytr n 0 0 := by
  refine loop_0 (fun n i (s : Int32) => wY_linger_53 post J30 J40 x1 (nI u) (nI N) (nI L) ymx ymq ymi (nI mv) yff yA yB yC ykd ylf yfl yrt ycl yfi yok yse yde yst ytr n s (nI i)) (fun i s => ¬ s = 0 ↔ ∃ j w, j < i ∧ yA j = nI u ∧ yB j = nI 0 ∧ yC j = nI w ∧ w < N ∧ ¬ yse w = 0) mv 0 ?_ ?_ ?_
  · refine ⟨fun q => absurd rfl q, fun q => ?_⟩
    obtain ⟨j, w, hj, _⟩ := q
    omega
  · intro n s h
    have h' : ¬ s = 0 ↔ ∃ w, T 0 u w ∧ ¬ yse w = 0 := by
      rw [h]
      constructor
      · rintro ⟨j, w, hj, e1, e2, e3, hw, z⟩
        obtain ⟨x', a', w', f1, f2, f3, m⟩ := hT.1 j hj
        have b := hT.2.2 _ _ _ m
        rw [e1, nI_eq (by omega) (by omega)] at f1
        rw [e2, nI_eq (by omega) (by omega)] at f2
        rw [e3, nI_eq (by omega) (by omega)] at f3
        subst f1 f2 f3
        exact ⟨w, m, z⟩
      · rintro ⟨w, m, z⟩
        obtain ⟨j, hj, e1, e2, e3⟩ := hT.2.1 _ _ _ m
        exact ⟨j, w, hj, e1, e2, e3, (hT.2.2 _ _ _ m).2.2, z⟩
    have v3 := vp_in_nI (n := u) (N := 12) (by omega) (by decide)
    refine br_t (nI_le (Nat.le_refl _) (by omega)) ?_
    rw [nI_clamp (n := u) (by omega)]
    refine ⟨v3, br_c (fun z => ⟨v3, nm_r (congrArg (upd yse u) bb_n0) (nm_r (nI_1 u) (hJ 0 (Or.inl rfl) ?_))⟩) (fun z => br_c (fun z2 => ⟨v3, nm_r (congrArg (upd yse u) bb_n0) (nm_r (nI_1 u) (hJ 0 (Or.inl rfl) ?_))⟩) (fun z2 => ⟨v3, nm_r (congrArg (upd yse u) bb_n1) (nm_r (nI_1 u) (hJ 1 (Or.inr rfl) ?_))⟩))⟩
    · exact ⟨fun q => absurd rfl q, fun q => absurd z q.1⟩
    · exact ⟨fun q => absurd rfl q, fun q => absurd z2 (h'.mpr q.2)⟩
    · exact ⟨fun _ => ⟨z, h'.mp z2⟩, fun _ => by decide⟩
  · intro n i s hi h ih
    refine br_f (nI_ge hi (by omega)) ?_
    obtain ⟨x, a, w, eA, eB, eC, m⟩ := hT.1 i hi
    have b := hT.2.2 _ _ _ m
    rw [nI_clamp (n := i) (by omega), eA, eB, eC, nI_clamp (n := w) (by omega)]
    have v1 := vp_in_nI (n := i) (N := 32) (by omega) (by decide)
    have v3 := vp_in_nI (n := w) (N := 12) (by omega) (by decide)
    have keep : (a = 0 → x = u → ¬ yse w = 0 → False) → (¬ s = 0 ↔ ∃ j w, j < i + 1 ∧ yA j = nI u ∧ yB j = nI 0 ∧ yC j = nI w ∧ w < N ∧ ¬ yse w = 0) := by
      intro hn
      rw [h]
      constructor
      · rintro ⟨j, w', hj, q⟩
        exact ⟨j, w', by omega, q⟩
      · rintro ⟨j, w', hj, q⟩
        by_cases e : j = i
        · subst e
          rw [eA, eB, eC, nI_eq (by omega) (by omega), nI_eq (by omega) (by omega)] at q
          have e3 := q.2.2.1
          have hw' := q.2.2.2.1
          rw [nI_eq (by omega) (by omega)] at e3
          subst e3
          exact (hn q.2.1 q.1 q.2.2.2.2).elim
        · exact ⟨j, w', by omega, q⟩
    refine ⟨v1, pk_eq a 0 (fun e0 => ⟨v1, pk_eq x u (fun e1 => ⟨v1, v3, br_c (fun z => nm_r (nI_1 i) (ih s (keep fun _ _ q => q z))) (fun z => nm_r (nI_1 i) (ih 1 ?_))⟩) (fun e1 => nm_r (nI_1 i) (ih s (keep fun _ q _ => e1 q)))⟩) (fun e0 => nm_r (nI_1 i) (ih s (keep fun q _ _ => e0 q)))⟩
    subst e0 e1
    exact ⟨fun _ => ⟨i, w, by omega, eA, eB, eC, b.2.2, z⟩, fun _ => by decide⟩
theorem by_ling {post : SY → Prop} {F : Nat → Prop} (hT : by_T N L T mv yA yB yC) (hN : N ≤ 12) (hL : L ≤ 3) (hv : mv ≤ 32) (hF : ∀ v, v < N → bb_z1 (yok v) (F v))
    (hp : ∀ se, (∀ v, v < N → bb_z1 (se v) (bb_Div T F v)) → post ((nI N), (nI L), ymx, ymq, ymi, (nI mv), yff, yA, yB, yC, ykd, ylf, yfl, yrt, ycl, yfi, yok, se, yde, yst, ytr)) : wpY_linger post ((nI N), (nI L), ymx, ymq, ymi, (nI mv), yff, yA, yB, yC, ykd, ylf, yfl, yrt, ycl, yfi, yok, yse, yde, yst, ytr) := by
  have hb : ∀ a s t, T a s t → s < N ∧ t < N := fun a s t m => (hT.2.2 a s t m).2
  unfold wpY_linger
  dsimp only
  refine loop_0 (fun n i (s : Nat → Int32) => wY_linger_2 post (nI N) (nI L) ymx ymq ymi (nI mv) yff n (nI i) yA yB yC ykd ylf yfl yrt ycl yfi yok s yde yst ytr) (fun i s => ∀ v, v < i → bb_z1 (s v) (F v)) N yse (fun v h => absurd h (Nat.not_lt_zero _)) ?_ ?_
  · intro n s h
    refine br_t (nI_le (Nat.le_refl _) (by omega)) ?_
    refine loop_0 (fun n i (s : Nat → Int32) => wY_linger_30 post (nI N) (nI L) ymx ymq ymi (nI mv) yff n (nI i) yA yB yC ykd ylf yfl yrt ycl yfi yok s yde yst ytr) (fun i s => (∀ v, v < N → s v = 0 ∨ s v = 1) ∧ bb_LI N T F i (bb_p s)) N s ?_ ?_ ?_
    · refine ⟨fun v hv => ?_, fun v hv p => ?_, fun v hv d => ?_, Or.inr (bb_cn_le _ _)⟩
      · rcases h v hv with q | q
        · exact Or.inr q.1
        · exact Or.inl q.1
      · exact (bb_z1_t (h v hv)).mp (bb_p_t.mp p)
      · exact bb_p_t.mpr ((bb_z1_t (h v hv)).mpr (bb_div_F d))
    · intro n s ⟨h01, h⟩
      refine br_t (nI_le (Nat.le_refl _) (by omega)) (hp s fun v hv => ?_)
      have q := bb_LI_N hb h hv
      rw [bb_p_t] at q
      rcases h01 v hv with e | e
      · exact Or.inr ⟨e, fun d => q.mpr d e⟩
      · exact Or.inl ⟨e, q.mp (by rw [e]; decide)⟩
    · intro n i s hi ⟨h01, h⟩ ih
      refine br_f (nI_ge hi (by omega)) ?_
      refine loop_0 (fun m j (s' : Nat → Int32) => wY_linger_40 post (wY_linger_30 post (nI N) (nI L) ymx ymq ymi (nI mv) yff n) (nI i) (nI N) (nI L) ymx ymq ymi (nI mv) yff m (nI j) yA yB yC ykd ylf yfl yrt ycl yfi yok s' yde yst ytr) (fun j s' => by_LJ N T F s j s') N s ?_ ?_ ?_
      · exact ⟨h01, fun _ _ p => p, h.2.1, fun s hs => absurd hs (Nat.not_lt_zero _), fun _ _ _ => rfl, fun _ _ _ p => p⟩
      · intro m s' h'
        obtain ⟨h1, h2, h3, h4, h5, h6⟩ := h'
        exact br_t (nI_le (Nat.le_refl _) (by omega)) (nm_r (nI_1 i) (ih s' ⟨h1, bb_LI_s hb h h2 h3 (fun s hs p => h4 s hs hs p) h6⟩))
      · intro m j s' hj h' ih'
        exact br_f (nI_ge hj (by omega)) (by_l53 hT hN hL hv hj (fun x h01 hx => ih' _ (by_LJ_s hb h' hj h01 hx)))
  · intro n i s hi h ih
    refine br_f (nI_ge hi (by omega)) ?_
    rw [nI_clamp (n := i) (by omega)]
    have v3 := vp_in_nI (n := i) (N := 12) (by omega) (by decide)
    refine ⟨v3, v3, nm_r (congrArg (upd s i) (bb_z1_n (hF i hi))) (nm_r (nI_1 i) (ih _ ?_))⟩
    intro v hv
    by_cases e : v = i
    · rw [e, pk_us]; exact hF i hi
    · rw [pk_un e]; exact h v (by omega)
theorem by_al {post : SY → Prop} {x : Int32} (hN : N ≤ 12) (hp : ∀ ok, (∀ v, v < N → bb_z1 (ok v) (ycl v = x)) → post ((nI N), (nI L), ymx, ymq, ymi, (nI mv), yff, yA, yB, yC, ykd, ylf, yfl, yrt, ycl, yfi, ok, yse, yde, yst, ytr)) : wpY_allowClass post ((nI N), (nI L), ymx, ymq, ymi, (nI mv), yff, yA, yB, yC, ykd, ylf, yfl, yrt, ycl, yfi, yok, yse, yde, yst, ytr) x := by
  unfold wpY_allowClass
  dsimp only
  refine loop_0 (fun n i (s : Nat → Int32) => wY_allowClass_2 post x (nI N) (nI L) ymx ymq ymi (nI mv) yff n (nI i) yA yB yC ykd ylf yfl yrt ycl yfi s yse yde yst ytr) (fun i s => ∀ v, v < i → bb_z1 (s v) (ycl v = x)) N yok (fun v h => absurd h (Nat.not_lt_zero _)) ?_ ?_
  · intro n s h
    exact br_t (nI_le (Nat.le_refl _) (by omega)) (hp s h)
  · intro n i s hi h ih
    refine br_f (nI_ge hi (by omega)) ?_
    rw [nI_clamp (n := i) (by omega)]
    have v3 := vp_in_nI (n := i) (N := 12) (by omega) (by decide)
    have nx : ∀ y : Int32, bb_z1 y (ycl i = x) → ∀ v, v < i + 1 → bb_z1 (upd s i y v) (ycl v = x) := by
      intro y hy v hv
      by_cases e : v = i
      · rw [e, pk_us]; exact hy
      · rw [pk_un e]; exact h v (by omega)
    exact ⟨v3, br_c (fun z => ⟨v3, nm_r (congrArg (upd s i) bb_n1) (nm_r (nI_1 i) (ih _ (nx 1 (Or.inl ⟨rfl, z⟩))))⟩) (fun z => ⟨v3, nm_r (congrArg (upd s i) bb_n0) (nm_r (nI_1 i) (ih _ (nx 0 (Or.inr ⟨rfl, z⟩))))⟩)⟩
end
