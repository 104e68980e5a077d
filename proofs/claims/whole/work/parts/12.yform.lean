section
variable {T : Nat → Nat → Nat → Prop} {N L mv : Nat} {ymx ymq ymi yff : Int32} {yA yB yC ykd ylf yfl yrt ycl yfi yok yse yde yst ytr xfo : Nat → Int32} {c : Nat → Nat}
def bb_Fm (N L : Nat) (T : Nat → Nat → Nat → Prop) (c : Nat → Nat) (kd lf fl rt fo : Nat → Int32) (f : Nat) : Prop :=
  (kd f = nI 0 ∧ ∀ u, u < N → bt (fo f) u = true) ∨
  (kd f = nI 5 ∧ ∃ l, l < N ∧ lf f = nI l ∧ ∀ u, u < N → (bt (fo f) u = true ↔ c u = c l)) ∨
  (kd f = nI 1 ∧ ∃ l, l < f ∧ lf f = nI l ∧ ∀ u, u < N → (bt (fo f) u = true ↔ ¬ bt (fo l) u = true)) ∨
  (kd f = nI 2 ∧ ∃ l r, l < f ∧ r < f ∧ lf f = nI l ∧ rt f = nI r ∧ ∀ u, u < N → (bt (fo f) u = true ↔ bt (fo l) u = true ∧ bt (fo r) u = true)) ∨
  (kd f = nI 3 ∧ ∃ l a r, l < f ∧ a ≤ L ∧ r < f ∧ lf f = nI l ∧ fl f = nI a ∧ rt f = nI r ∧ ∀ u, u < N → (bt (fo f) u = true ↔ bb_Unt T (bb_BS fo l) a (bb_BS fo r) u ∨ (a = 0 ∧ bt (fo r) u = true))) ∨
  (kd f = nI 4 ∧ ∃ l, l < f ∧ lf f = nI l ∧ ∀ u, u < N → (bt (fo f) u = true ↔ bb_Div T (bb_BS fo l) u))
def bb_Tr (N : Nat) (tr fo : Nat → Int32) (f : Nat) : Prop := ∀ f' v, f' < f → v < N → bb_z1 (tr (f' * 12 + v)) (bt (fo f') v = true)
theorem bb_z1_w {x : Int32} {P : Prop} (h : bb_z1 x P) : narrow .boolean (.int x) = .int x := by
  rcases h with ⟨e, _⟩ | ⟨e, _⟩ <;> rw [e] <;> rfl
theorem by_e211 {post : Int32 → SY → Prop} {P : Nat → Prop} {f r a : Nat} (hT : by_T N L T mv yA yB yC) (hN : N ≤ 12) (hL : L ≤ 3) (hv : mv ≤ 32) (hf : f < 32) (hr : r < f) (ha : a ≤ L) (efl : yfl f = nI a) (htr : bb_Tr N ytr xfo f) (hse : ∀ v, v < N → (¬ yse v = 0 ↔ P v))
    (h1 : (∃ s t, P s ∧ T a s t ∧ bt (xfo r) t = true) → post 1 ((nI N), (nI L), ymx, ymq, ymi, (nI mv), yff, yA, yB, yC, ykd, ylf, yfl, yrt, ycl, yfi, yok, yse, yde, yst, ytr)) (h0 : ¬ (∃ s t, P s ∧ T a s t ∧ bt (xfo r) t = true) → post 0 ((nI N), (nI L), ymx, ymq, ymi, (nI mv), yff, yA, yB, yC, ykd, ylf, yfl, yrt, ycl, yfi, yok, yse, yde, yst, ytr)) : ∃ n, wY_evaluate_211 post (nI f) (nI r) (nI N) (nI L) ymx ymq ymi (nI mv) yff yA yB yC ykd ylf yfl yrt ycl yfi yok yse yde yst ytr n 0 := by
  refine loop_0 (fun n i (_ : Unit) => wY_evaluate_211 post (nI f) (nI r) (nI N) (nI L) ymx ymq ymi (nI mv) yff yA yB yC ykd ylf yfl yrt ycl yfi yok yse yde yst ytr n (nI i)) (fun i _ => ∀ j s t, j < i → yA j = nI s → yB j = nI a → yC j = nI t → s < N → t < N → P s → bt (xfo r) t = true → False) mv () (fun j s t h => absurd h (Nat.not_lt_zero _)) ?_ ?_
  · intro n _ h
    refine br_t (nI_le (Nat.le_refl _) (by omega)) (h0 ?_)
    rintro ⟨s, t, p, m, b⟩
    obtain ⟨j, hj, e1, e2, e3⟩ := hT.2.1 _ _ _ m
    have bd := hT.2.2 _ _ _ m
    exact h j s t hj e1 e2 e3 bd.2.1 bd.2.2 p b
  · intro n i _ hi h ih
    refine br_f (nI_ge hi (by omega)) ?_
    obtain ⟨x, b, y, eA, eB, eC, m⟩ := hT.1 i hi
    have bd := hT.2.2 _ _ _ m
    rw [nI_clamp (n := i) (by omega), nI_clamp (n := f) (by omega), eA, eB, eC, efl, nI_clamp (n := x) (by omega), bb_row, nI_clamp (n := r * 12 + y) (by omega)]
    have v1 := vp_in_nI (n := i) (N := 32) (by omega) (by decide)
    have v2 := vp_in_nI (n := x) (N := 12) (by omega) (by decide)
    have v3 := vp_in_nI (n := r * 12 + y) (N := 384) (by omega) (by decide)
    have v4 := vp_in_nI (n := f) (N := 32) (by omega) (by decide)
    have zt := htr r y hr bd.2.2
    have nx : (P x → b = a → bt (xfo r) y = true → False) → wY_evaluate_211 post (nI f) (nI r) (nI N) (nI L) ymx ymq ymi (nI mv) yff yA yB yC ykd ylf yfl yrt ycl yfi yok yse yde yst ytr n (nI (i + 1)) := by
      intro q
      refine ih () fun j s t hj e1 e2 e3 hs ht e4 e5 => ?_
      by_cases e : j = i
      · subst e
        rw [eA, nI_eq (by omega) (by omega)] at e1
        rw [eB, nI_eq (by omega) (by omega)] at e2
        rw [eC, nI_eq (by omega) (by omega)] at e3
        subst e1 e2 e3
        exact q e4 rfl e5
      · exact h j s t (by omega) e1 e2 e3 hs ht e4 e5
    refine ⟨v1, v2, br_c (fun z1 => nm_r (nI_1 i) (nx fun p _ _ => ((hse x bd.2.1).mpr p) z1)) (fun z1 => ⟨v1, v4, pk_eq b a (fun z2 => ⟨v1, v3, br_c (fun z3 => nm_r (nI_1 i) (nx fun _ _ q => (bb_z1_f zt).mp z3 q)) (fun z3 => h1 ?_)⟩) (fun z2 => nm_r (nI_1 i) (nx fun _ q _ => z2 q))⟩)⟩
    subst z2
    exact ⟨x, y, (hse x bd.2.1).mp z1, m, (bb_z1_t zt).mp z3⟩
theorem by_e126 {post : Int32 → SY → Prop} {x1 x2 x3 x5 : Int32} {f l : Nat} (hN : N ≤ 12) (hf : f < 32) (hl : l < f) (htr : bb_Tr N ytr xfo f)
    (hx : ∀ ok n, (∀ v, v < N → bb_z1 (ok v) (bb_BS xfo l v)) → wY_evaluate_126 post x1 x2 x3 (nI l) x5 (nI N) (nI L) ymx ymq ymi (nI mv) yff (n + 1) (nI N) yA yB yC ykd ylf yfl yrt ycl yfi ok yse yde yst ytr) : ∃ n, wY_evaluate_126 post x1 x2 x3 (nI l) x5 (nI N) (nI L) ymx ymq ymi (nI mv) yff n 0 yA yB yC ykd ylf yfl yrt ycl yfi yok yse yde yst ytr := by
  refine loop_0 (fun n i (ok : Nat → Int32) => wY_evaluate_126 post x1 x2 x3 (nI l) x5 (nI N) (nI L) ymx ymq ymi (nI mv) yff n (nI i) yA yB yC ykd ylf yfl yrt ycl yfi ok yse yde yst ytr) (fun i ok => ∀ v, v < i → bb_z1 (ok v) (bb_BS xfo l v)) N yok (fun v h => absurd h (Nat.not_lt_zero _)) ?_ ?_
  · intro n ok h
    exact hx ok n h
  · intro n i ok hi h ih
    refine br_f (nI_ge hi (by omega)) ?_
    rw [bb_row, nI_clamp (n := l * 12 + i) (by omega), nI_clamp (n := i) (by omega)]
    have zt := htr l i hl hi
    refine ⟨vp_in_nI (by omega) (by decide), vp_in_nI (by omega) (by decide), nm_r (congrArg (upd ok i) (bb_z1_n zt)) (nm_r (nI_1 i) (ih _ fun v hv => ?_))⟩
    by_cases e : v = i
    · rw [e, pk_us]; exact zt
    · rw [pk_un e]; exact h v (by omega)
theorem by_ev {post : Int32 → SY → Prop} {f u : Nat} (hT : by_T N L T mv yA yB yC) (hN : N ≤ 12) (hL : L ≤ 3) (hv : mv ≤ 32) (hC : by_C N c ycl) (hf : f < 32) (hu : u < N) (hFm : bb_Fm N L T c ykd ylf yfl yrt xfo f) (htr : bb_Tr N ytr xfo f)
    (hp : ∀ r ok se, bb_z1 r (bt (xfo f) u = true) → post r ((nI N), (nI L), ymx, ymq, ymi, (nI mv), yff, yA, yB, yC, ykd, ylf, yfl, yrt, ycl, yfi, ok, se, yde, yst, ytr)) : wpY_evaluate post ((nI N), (nI L), ymx, ymq, ymi, (nI mv), yff, yA, yB, yC, ykd, ylf, yfl, yrt, ycl, yfi, yok, yse, yde, yst, ytr) (nI f) (nI u) := by
  unfold wpY_evaluate
  dsimp only
  rw [nI_clamp (n := f) (by omega)]
  have v1 := vp_in_nI (n := f) (N := 32) (by omega) (by decide)
  have v2 := vp_in_nI (n := u) (N := 12) (by omega) (by decide)
  rcases hFm with ⟨ek, h⟩ | ⟨ek, l, hl, el, h⟩ | ⟨ek, l, hl, el, h⟩ | ⟨ek, l, r, hl, hr, el, er, h⟩ | ⟨ek, l, a, r, hl, ha, hr, el, ea, er, h⟩ | ⟨ek, l, hl, el, h⟩
  · exact ⟨v1, nm_r ek ⟨v1, nm_e ⟨v1, nm_e (br_t rfl (hp 1 yok yse (Or.inl ⟨rfl, h u hu⟩)))⟩⟩⟩
  · refine ⟨v1, nm_r ek ⟨v1, nm_r el ⟨v1, nm_e (br_f (by decide) (br_t rfl ?_))⟩⟩⟩
    have cu := hC u hu
    have cl' := hC l hl
    have hcu := cu.2
    have hcl := cl'.2
    rw [nI_clamp (n := u) (by omega), nI_clamp (n := l) (by omega), cu.1, cl'.1]
    exact ⟨v2, vp_in_nI (by omega) (by decide), pk_eq (c u) (c l) (fun e => hp 1 yok yse (Or.inl ⟨rfl, (h u hu).mpr e⟩)) (fun e => hp 0 yok yse (Or.inr ⟨rfl, fun z => e ((h u hu).mp z)⟩))⟩
  · refine ⟨v1, nm_r ek ⟨v1, nm_r el ⟨v1, nm_e (br_f (by decide) (br_f (by decide) (br_t rfl ?_)))⟩⟩⟩
    rw [bb_row, nI_clamp (n := l * 12 + u) (by omega)]
    have zt := htr l u hl hu
    exact ⟨vp_in_nI (by omega) (by decide), br_c (fun z => hp 1 yok yse (Or.inl ⟨rfl, (h u hu).mpr ((bb_z1_f zt).mp z)⟩)) (fun z => hp 0 yok yse (Or.inr ⟨rfl, fun q => (h u hu).mp q ((bb_z1_t zt).mp z)⟩))⟩
  · refine ⟨v1, nm_r ek ⟨v1, nm_r el ⟨v1, nm_r er (br_f (by decide) (br_f (by decide) (br_f (by decide) (br_t rfl ?_))))⟩⟩⟩
    rw [bb_row, bb_row, nI_clamp (n := l * 12 + u) (by omega), nI_clamp (n := r * 12 + u) (by omega)]
    have zl := htr l u hl hu
    have zr := htr r u hr hu
    exact ⟨vp_in_nI (by omega) (by decide), br_c (fun z => hp 0 yok yse (Or.inr ⟨rfl, fun q => (bb_z1_f zl).mp z ((h u hu).mp q).1⟩)) (fun z => ⟨vp_in_nI (by omega) (by decide), br_c (fun z2 => hp 0 yok yse (Or.inr ⟨rfl, fun q => (bb_z1_f zr).mp z2 ((h u hu).mp q).2⟩)) (fun z2 => hp 1 yok yse (Or.inl ⟨rfl, (h u hu).mpr ⟨(bb_z1_t zl).mp z, (bb_z1_t zr).mp z2⟩⟩))⟩)⟩
  · refine ⟨v1, nm_r ek ⟨v1, nm_r el ⟨v1, nm_r er (br_f (by decide) (br_f (by decide) (br_f (by decide) (br_f (by decide) (by_e126 hN hf hl htr (fun ok n hok => ?_))))))⟩⟩⟩
    refine br_t (nI_le (Nat.le_refl _) (by omega)) (br_f (by decide) ?_)
    have go : (a = 0 → ¬ bt (xfo r) u = true) → wY_evaluate_203 post (nI f) (nI u) (nI r) (nI N) (nI L) ymx ymq ymi (nI mv) yff yA yB yC ykd ylf yfl yrt ycl yfi ok yse yde yst ytr := by
      intro h0
      unfold wY_evaluate_203
      refine by_walk hT hN hL hv hu hok (fun se hse => by_e211 hT hN hL hv hf hr ha ea htr hse (fun q => hp 1 ok se (Or.inl ⟨rfl, (h u hu).mpr (Or.inl (bb_rch_unt.mpr q))⟩)) (fun q => hp 0 ok se (Or.inr ⟨rfl, fun z => ?_⟩)))
      rcases (h u hu).mp z with z | z
      · exact q (bb_rch_unt.mp z)
      · exact h0 z.1 z.2
    rw [nI_clamp (n := f) (by omega), ea, bb_row, nI_clamp (n := r * 12 + u) (by omega)]
    have zr := htr r u hr hu
    exact ⟨v1, pk_eq a 0 (fun e => ⟨vp_in_nI (by omega) (by decide), br_c (fun z => go fun _ => (bb_z1_f zr).mp z) (fun z => hp 1 ok yse (Or.inl ⟨rfl, (h u hu).mpr (Or.inr ⟨e, (bb_z1_t zr).mp z⟩)⟩))⟩) (fun e => go fun z => absurd z e)⟩
  · refine ⟨v1, nm_r ek ⟨v1, nm_r el ⟨v1, nm_e (br_f (by decide) (br_f (by decide) (br_f (by decide) (br_f (by decide) (by_e126 hN hf hl htr (fun ok n hok => ?_))))))⟩⟩⟩
    refine br_t (nI_le (Nat.le_refl _) (by omega)) (br_t rfl (by_ling hT hN hL hv hok (fun se hse => ?_)))
    rw [nI_clamp (n := u) (by omega)]
    exact ⟨v2, bb_z1_w (hse u hu), hp (se u) ok se (bb_z1_c (hse u hu) (h u hu).symm)⟩
theorem by_h39 {post : Int32 → SY → Prop} {J31 : Int32 → Int32 → Int32 → Int32 → Int32 → Int32 → Int32 → Int32 → (Nat → Int32) → (Nat → Int32) → (Nat → Int32) → (Nat → Int32) → (Nat → Int32) → (Nat → Int32) → (Nat → Int32) → (Nat → Int32) → (Nat → Int32) → (Nat → Int32) → (Nat → Int32) → (Nat → Int32) → (Nat → Int32) → (Nat → Int32) → Prop}
    {x1 x2 : Int32} {f : Nat} (hT : by_T N L T mv yA yB yC) (hN : N ≤ 12) (hL : L ≤ 3) (hv : mv ≤ 32) (hC : by_C N c ycl) (hf : f < 32) (hFm : bb_Fm N L T c ykd ylf yfl yrt xfo f) (htr : bb_Tr N ytr xfo f)
    (hJ : ∀ ok se tr, bb_Tr N tr xfo (f + 1) → J31 (nI (f + 1)) (nI N) (nI L) ymx ymq ymi (nI mv) yff yA yB yC ykd ylf yfl yrt ycl yfi ok se yde yst tr) : ∃ n, wY_holds_39 post J31 x1 x2 (nI f) n 0 (nI N) (nI L) ymx ymq ymi (nI mv) yff yA yB yC ykd ylf yfl yrt ycl yfi yok yse yde yst ytr := by
  refine loop_0 (fun n i (s : (Nat → Int32) × (Nat → Int32) × (Nat → Int32)) => wY_holds_39 post J31 x1 x2 (nI f) n (nI i) (nI N) (nI L) ymx ymq ymi (nI mv) yff yA yB yC ykd ylf yfl yrt ycl yfi s.1 s.2.1 yde yst s.2.2) (fun i s => bb_Tr N s.2.2 xfo f ∧ ∀ v, v < i → bb_z1 (s.2.2 (f * 12 + v)) (bt (xfo f) v = true)) N (yok, yse, ytr) ⟨htr, fun v h => absurd h (Nat.not_lt_zero _)⟩ ?_ ?_
  · rintro n ⟨ok, se, tr⟩ ⟨h1, h2⟩
    dsimp only at h1 h2 ⊢
    refine br_t (nI_le (Nat.le_refl _) (by omega)) (nm_r (nI_1 f) (hJ ok se tr fun f' v hf' hv' => ?_))
    by_cases e : f' = f
    · rw [e]; exact h2 v hv'
    · exact h1 f' v (by omega) hv'
  · rintro n i ⟨ok, se, tr⟩ hi ⟨h1, h2⟩ ih
    dsimp only at h1 h2 ⊢
    refine br_f (nI_ge hi (by omega)) (by_ev hT hN hL hv hC hf hi hFm h1 (fun r ok' se' hr => ?_))
    rw [bb_row, nI_clamp (n := f * 12 + i) (by omega)]
    refine ⟨vp_in_nI (by omega) (by decide), nm_r (congrArg (upd tr _) (bb_z1_n hr)) (nm_r (nI_1 i) (ih (ok', se', upd tr (f * 12 + i) r) ⟨fun f' v hf' hv' => ?_, fun v hv' => ?_⟩))⟩
    · dsimp only
      rw [pk_un (by omega)]
      exact h1 f' v hf' hv'
    · dsimp only
      by_cases e : v = i
      · rw [e, pk_us]; exact hr
      · rw [pk_un (by omega)]; exact h2 v (by omega)
theorem by_holds {post : Int32 → SY → Prop} {g u fm : Nat} (hT : by_T N L T mv yA yB yC) (hN : N ≤ 12) (hL : L ≤ 3) (hv : mv ≤ 32) (hC : by_C N c ycl) (hfm : fm ≤ 32) (hg : g < fm) (hu : u < N) (hFm : ∀ f, f < fm → bb_Fm N L T c ykd ylf yfl yrt xfo f)
    (h1 : bt (xfo g) u = true → ∀ ok se tr, post 1 ((nI N), (nI L), ymx, ymq, 1, (nI mv), nI fm, yA, yB, yC, ykd, ylf, yfl, yrt, ycl, yfi, ok, se, yde, yst, tr)) (h0 : ¬ bt (xfo g) u = true → ∀ ok se tr, post 0 ((nI N), (nI L), ymx, ymq, 1, (nI mv), nI fm, yA, yB, yC, ykd, ylf, yfl, yrt, ycl, yfi, ok, se, yde, yst, tr)) : wpY_holds post ((nI N), (nI L), ymx, ymq, 1, (nI mv), nI fm, yA, yB, yC, ykd, ylf, yfl, yrt, ycl, yfi, yok, yse, yde, yst, ytr) (nI g) (nI u) := by
  unfold wpY_holds
  dsimp only
  refine br_f (by decide) (by_nf_i hfm hg (br_t rfl (by_ns_i hN hu (br_t rfl ?_))))
  refine loop_0 (fun n i (s : (Nat → Int32) × (Nat → Int32) × (Nat → Int32)) => wY_holds_31 post (nI g) (nI u) n (nI i) (nI N) (nI L) ymx ymq 1 (nI mv) (nI fm) yA yB yC ykd ylf yfl yrt ycl yfi s.1 s.2.1 yde yst s.2.2) (fun i s => bb_Tr N s.2.2 xfo i) (g + 1) (yok, yse, ytr) (fun f' v h => absurd h (Nat.not_lt_zero _)) ?_ ?_
  · rintro n ⟨ok, se, tr⟩ h
    dsimp only at h ⊢
    refine br_t (nI_lt (by omega) (by omega)) ?_
    rw [bb_row, nI_clamp (n := g * 12 + u) (by omega)]
    have zt := h g u (by omega) hu
    exact ⟨vp_in_nI (by omega) (by decide), br_c (fun z => h0 ((bb_z1_f zt).mp z) ok se tr) (fun z => h1 ((bb_z1_t zt).mp z) ok se tr)⟩
  · rintro n i ⟨ok, se, tr⟩ hi h ih
    dsimp only at h ⊢
    exact br_f (nI_nlt (by omega) (by omega)) (by_h39 hT hN hL hv hC (by omega) (hFm i (by omega)) h (fun ok' se' tr' q => ih (ok', se', tr') q))
end
