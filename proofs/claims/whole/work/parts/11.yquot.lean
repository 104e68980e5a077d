section
variable {T : Nat → Nat → Nat → Prop} {N L mv : Nat} {ymx ymq ymi yff : Int32} {yA yB yC ykd ylf yfl yrt ycl yfi yok yse yde yst ytr : Nat → Int32} {c : Nat → Nat}
theorem by_bo {post : Int32 → Prop} {s : Nat} (hN : N ≤ 12) (hC : by_C N c ycl) (hc : ∀ s, s < N → c s ≤ s ∧ c (c s) = c s) (hs : s < N) (hp : post (nI (bb_nb c s))) : wpY_blockOf post ((nI N), (nI L), ymx, ymq, 1, (nI mv), yff, yA, yB, yC, ykd, ylf, yfl, yrt, ycl, yfi, yok, yse, yde, yst, ytr) (nI s) := by
  unfold wpY_blockOf
  dsimp only
  refine br_f (by decide) (by_ns_i hN hs (br_t rfl ?_))
  have h1 := hc s hs
  refine loop_0 (fun n i (r : Nat) => wY_blockOf_25 post (nI s) (nI N) (nI L) ymx ymq 1 (nI mv) yff yA yB yC ykd ylf yfl yrt ycl yfi yok yse yde yst ytr n (nI r) (nI i)) (fun i r => r = bb_cn (bb_ldr c) i) (c s) 0 rfl ?_ ?_
  · intro n r h
    subst h
    dsimp only [wY_blockOf_25]
    rw [nI_clamp (n := s) (by omega), (hC s hs).1]
    exact ⟨vp_in_nI (by omega) (by decide), br_t (nI_le (Nat.le_refl _) (by omega)) hp⟩
  · intro n i r hi h ih
    dsimp only [wY_blockOf_25]
    have ci := hC i (by omega)
    have hci := ci.2
    rw [nI_clamp (n := s) (by omega), (hC s hs).1, nI_clamp (n := i) (by omega), ci.1]
    refine ⟨vp_in_nI (by omega) (by decide), br_f (nI_ge hi (by omega)) ⟨vp_in_nI (by omega) (by decide), pk_eq (c i) i (fun e => nm_r (nI_1 r) (nm_r (nI_1 i) (ih (r + 1) ?_))) (fun e => nm_r (nI_1 i) (ih r ?_))⟩⟩
    · rw [bb_cn_t (decide_eq_true e), h]
    · rw [bb_cn_f (fun z => e (of_decide_eq_true z)), h]
theorem by_ld {post : Int32 → Prop} {p : Int32} (hN : N ≤ 12) (hC : by_C N c ycl) (hc : ∀ s, s < N → c s ≤ s ∧ c (c s) = c s)
    (h1 : ∀ u, u < N → c u = u → p = nI (bb_cn (bb_ldr c) u) → post (nI u)) (h0 : (∀ u, u < N → c u = u → p ≠ nI (bb_cn (bb_ldr c) u)) → post 101) : wpY_leader post ((nI N), (nI L), ymx, ymq, 1, (nI mv), yff, yA, yB, yC, ykd, ylf, yfl, yrt, ycl, yfi, yok, yse, yde, yst, ytr) p := by
  unfold wpY_leader
  dsimp only
  refine br_f (by decide) ?_
  refine loop_0 (fun n i (_ : Unit) => wY_leader_12 post p (nI N) (nI L) ymx ymq 1 (nI mv) yff yA yB yC ykd ylf yfl yrt ycl yfi yok yse yde yst ytr n (nI i)) (fun i _ => ∀ u, u < i → c u = u → p ≠ nI (bb_cn (bb_ldr c) u)) N () (fun u h => absurd h (Nat.not_lt_zero _)) ?_ ?_
  · intro n _ h
    exact br_t (nI_le (Nat.le_refl _) (by omega)) (h0 h)
  · intro n i _ hi h ih
    refine br_f (nI_ge hi (by omega)) ?_
    have ci := hC i hi
    have hci := ci.2
    rw [nI_clamp (n := i) (by omega), ci.1]
    have nx : (c i = i → p ≠ nI (bb_cn (bb_ldr c) i)) → wY_leader_12 post p (nI N) (nI L) ymx ymq 1 (nI mv) yff yA yB yC ykd ylf yfl yrt ycl yfi yok yse yde yst ytr n (nI (i + 1)) := by
      intro q
      refine ih () fun u hu => ?_
      by_cases e : u = i
      · rw [e]; exact q
      · exact h u (by omega)
    refine ⟨vp_in_nI (by omega) (by decide), pk_eq (c i) i (fun e => by_bo hN hC hc hi ?_) (fun e => nm_r (nI_1 i) (nx fun z => absurd z e))⟩
    have e2 : bb_nb c i = bb_cn (bb_ldr c) i := by
      show bb_cn _ (c i) = _
      rw [e]
    rw [e2]
    exact br_c (fun z => h1 i hi e z.symm) (fun z => nm_r (nI_1 i) (nx fun _ q => z q.symm))
theorem by_ld_i {post : Int32 → Prop} {k : Nat} (hN : N ≤ 12) (hC : by_C N c ycl) (hc : ∀ s, s < N → c s ≤ s ∧ c (c s) = c s) (hk : k < bb_cn (bb_ldr c) N)
    (h1 : ∀ u, u < N → c u = u → bb_cn (bb_ldr c) u = k → post (nI u)) : wpY_leader post ((nI N), (nI L), ymx, ymq, 1, (nI mv), yff, yA, yB, yC, ykd, ylf, yfl, yrt, ycl, yfi, yok, yse, yde, yst, ytr) (nI k) := by
  have hB := bb_cn_le (bb_ldr c) N
  refine by_ld hN hC hc (fun u hu e q => h1 u hu e ?_) (fun q => ?_)
  · have := bb_cn_le (bb_ldr c) u
    rw [nI_eq (by omega) (by omega)] at q
    exact q.symm
  · obtain ⟨u, hu, e, e2⟩ := bb_cn_ex N k hk
    exact absurd (by rw [e2]) (q u hu (of_decide_eq_true e))
theorem by_ld_o {post : Int32 → Prop} {p : Int32} (hN : N ≤ 12) (hC : by_C N c ycl) (hc : ∀ s, s < N → c s ≤ s ∧ c (c s) = c s) (hk : ∀ k, k < bb_cn (bb_ldr c) N → p ≠ nI k)
    (h0 : post 101) : wpY_leader post ((nI N), (nI L), ymx, ymq, 1, (nI mv), yff, yA, yB, yC, ykd, ylf, yfl, yrt, ycl, yfi, yok, yse, yde, yst, ytr) p :=
  by_ld hN hC hc (fun u hu e q => absurd q (hk _ (bb_cn_u (decide_eq_true e) hu))) (fun _ => h0)
def bb_Bn (N : Nat) (c : Nat → Nat) (k s : Nat) : Prop := s < N ∧ bb_nb c s = k
theorem bb_Bn_K {u k : Nat} (hc : ∀ s, s < N → c s ≤ s ∧ c (c s) = c s) (hu : u < N) (e : c u = u) (ek : bb_cn (bb_ldr c) u = k) : bb_K N c u = bb_Bn N c k := by
  funext v
  refine propext ⟨fun q => ⟨q.1, ?_⟩, fun q => ⟨q.1, ?_⟩⟩
  · show bb_cn _ (c v) = k
    rw [q.2]; exact ek
  · have h2 : bb_nb c v = bb_nb c u := by
      rw [q.2]
      show k = bb_cn _ (c u)
      rw [e]; exact ek.symm
    rw [(bb_nb_eq hc q.1 hu).mp h2, e]
theorem bb_n101 {u : Nat} (h : u < 12) : ¬ nI u = 101 := by
  intro z
  have z' : nI u = nI 101 := z
  rw [nI_eq (by omega) (by omega)] at z'
  omega
theorem by_q109 {post : Int32 → SY → Prop} {a u w : Nat} (hT : by_T N L T mv yA yB yC) (hN : N ≤ 12) (hL : L ≤ 3) (hv : mv ≤ 32) (hC : by_C N c ycl) (ha : a ≤ L) (hu : u < N) (hw : w < N)
    (h1 : (∃ s t, bb_K N c u s ∧ T a s t ∧ bb_K N c w t) → post 1 ((nI N), (nI L), ymx, ymq, ymi, (nI mv), yff, yA, yB, yC, ykd, ylf, yfl, yrt, ycl, yfi, yok, yse, yde, yst, ytr)) (h0 : ¬ (∃ s t, bb_K N c u s ∧ T a s t ∧ bb_K N c w t) → post 0 ((nI N), (nI L), ymx, ymq, ymi, (nI mv), yff, yA, yB, yC, ykd, ylf, yfl, yrt, ycl, yfi, yok, yse, yde, yst, ytr)) : ∃ n, wY_quotientMove_109 post (nI a) (nI u) (nI w) (nI N) (nI L) ymx ymq ymi (nI mv) yff yA yB yC ykd ylf yfl yrt ycl yfi yok yse yde yst ytr n 0 := by
  refine loop_0 (fun n i (_ : Unit) => wY_quotientMove_109 post (nI a) (nI u) (nI w) (nI N) (nI L) ymx ymq ymi (nI mv) yff yA yB yC ykd ylf yfl yrt ycl yfi yok yse yde yst ytr n (nI i)) (fun i _ => ∀ j s t, j < i → yA j = nI s → yB j = nI a → yC j = nI t → s < N → t < N → c s = u → c t = w → False) mv () (fun j s t h => absurd h (Nat.not_lt_zero _)) ?_ ?_
  · intro n _ h
    refine br_t (nI_le (Nat.le_refl _) (by omega)) (h0 ?_)
    rintro ⟨s, t, k1, m, k2⟩
    obtain ⟨j, hj, e1, e2, e3⟩ := hT.2.1 _ _ _ m
    exact h j s t hj e1 e2 e3 k1.1 k2.1 k1.2 k2.2
  · intro n i _ hi h ih
    refine br_f (nI_ge hi (by omega)) ?_
    obtain ⟨x, b, y, eA, eB, eC, m⟩ := hT.1 i hi
    have bd := hT.2.2 _ _ _ m
    have cx := hC x bd.2.1
    have cy := hC y bd.2.2
    have hcx := cx.2
    have hcy := cy.2
    rw [nI_clamp (n := i) (by omega), eA, eB, eC, nI_clamp (n := x) (by omega), nI_clamp (n := y) (by omega), cx.1, cy.1]
    have v1 := vp_in_nI (n := i) (N := 32) (by omega) (by decide)
    have v2 := vp_in_nI (n := x) (N := 12) (by omega) (by decide)
    have v3 := vp_in_nI (n := y) (N := 12) (by omega) (by decide)
    have nx : (c x = u → b = a → c y = w → False) → wY_quotientMove_109 post (nI a) (nI u) (nI w) (nI N) (nI L) ymx ymq ymi (nI mv) yff yA yB yC ykd ylf yfl yrt ycl yfi yok yse yde yst ytr n (nI (i + 1)) := by
      intro q
      refine ih () fun j s t hj e1 e2 e3 hs ht e4 e5 => ?_
      by_cases e : j = i
      · subst e
        rw [eA, nI_eq (by omega) (by omega)] at e1
        rw [eB, nI_eq (by omega) (by omega)] at e2
        rw [eC, nI_eq (by omega) (by omega)] at e3
        subst e1 e2 e3
        exact q e4 rfl e5
      · exact h j s t (by omega) e1 e2 e3 hs ht e4 e5
    refine ⟨v1, v2, pk_eq (c x) u (fun z1 => ⟨v1, pk_eq b a (fun z2 => ⟨v1, v3, pk_eq (c y) w (fun z3 => h1 ?_) (fun z3 => nm_r (nI_1 i) (nx fun _ _ q => z3 q))⟩) (fun z2 => nm_r (nI_1 i) (nx fun _ q _ => z2 q))⟩) (fun z1 => nm_r (nI_1 i) (nx fun q _ _ => z1 q))⟩
    subst z2
    exact ⟨x, y, ⟨bd.2.1, z1⟩, m, ⟨bd.2.2, z3⟩⟩
theorem by_q77 {post : Int32 → SY → Prop} {P : Nat → Prop} (hN : N ≤ 12) (hse : ∀ v, v < N → bb_z1 (yse v) (P v))
    (h1 : (∃ s, s < N ∧ P s) → post 1 ((nI N), (nI L), ymx, ymq, ymi, (nI mv), yff, yA, yB, yC, ykd, ylf, yfl, yrt, ycl, yfi, yok, yse, yde, yst, ytr)) (h0 : ¬ (∃ s, s < N ∧ P s) → post 0 ((nI N), (nI L), ymx, ymq, ymi, (nI mv), yff, yA, yB, yC, ykd, ylf, yfl, yrt, ycl, yfi, yok, yse, yde, yst, ytr)) : ∃ n, wY_quotientMove_77 post (nI N) (nI L) ymx ymq ymi (nI mv) yff yA yB yC ykd ylf yfl yrt ycl yfi yok yse yde yst ytr n 0 := by
  refine loop_0 (fun n i (_ : Unit) => wY_quotientMove_77 post (nI N) (nI L) ymx ymq ymi (nI mv) yff yA yB yC ykd ylf yfl yrt ycl yfi yok yse yde yst ytr n (nI i)) (fun i _ => ∀ s, s < i → ¬ P s) N () (fun j h => absurd h (Nat.not_lt_zero _)) ?_ ?_
  · intro n _ h
    refine br_t (nI_le (Nat.le_refl _) (by omega)) (h0 ?_)
    rintro ⟨s, hs, p⟩
    exact h s hs p
  · intro n i _ hi h ih
    refine br_f (nI_ge hi (by omega)) ?_
    rw [nI_clamp (n := i) (by omega)]
    refine ⟨vp_in_nI (by omega) (by decide), br_c (fun z => nm_r (nI_1 i) (ih () fun s hs => ?_)) (fun z => h1 ⟨i, hi, (bb_z1_t (hse i hi)).mp z⟩)⟩
    by_cases e : s = i
    · rw [e]; exact (bb_z1_f (hse i hi)).mp z
    · exact h s (by omega)
theorem by_qm_i {post : Int32 → SY → Prop} {k a k' : Nat} (hT : by_T N L T mv yA yB yC) (hN : N ≤ 12) (hL : L ≤ 3) (hv : mv ≤ 32) (hC : by_C N c ycl) (hc : ∀ s, s < N → c s ≤ s ∧ c (c s) = c s) (hk : k < bb_cn (bb_ldr c) N) (ha : a ≤ L) (hk' : k' < bb_cn (bb_ldr c) N)
    (h1 : bb_Q T (bb_Bn N c) k a k' → ∀ ok se, post 1 ((nI N), (nI L), ymx, ymq, 1, (nI mv), yff, yA, yB, yC, ykd, ylf, yfl, yrt, ycl, yfi, ok, se, yde, yst, ytr)) (h0 : ¬ bb_Q T (bb_Bn N c) k a k' → ∀ ok se, post 0 ((nI N), (nI L), ymx, ymq, 1, (nI mv), yff, yA, yB, yC, ykd, ylf, yfl, yrt, ycl, yfi, ok, se, yde, yst, ytr)) : wpY_quotientMove post ((nI N), (nI L), ymx, ymq, 1, (nI mv), yff, yA, yB, yC, ykd, ylf, yfl, yrt, ycl, yfi, yok, yse, yde, yst, ytr) (nI k) (nI a) (nI k') := by
  unfold wpY_quotientMove
  dsimp only
  refine br_f (by decide) (by_ld_i hN hC hc hk (fun u hu eu ku => by_ld_i hN hC hc hk' (fun w hw ew kw => br_f (bb_n101 (by omega)) (br_f (bb_n101 (by omega)) (br_f (nI_pos (by omega)) (br_t (nI_le ha (by omega)) ?_))))))
  have K1 := bb_Bn_K hc hu eu ku
  have K2 := bb_Bn_K hc hw ew kw
  have iff : u = w ↔ k = k' := by
    constructor
    · intro e
      rw [← ku, ← kw, e]
    · intro e
      exact bb_cn_inj (p := bb_ldr c) (decide_eq_true eu) (decide_eq_true ew) (by omega)
  have go : ¬ (a = 0 ∧ u = w) → ∃ n, wY_quotientMove_109 post (nI a) (nI u) (nI w) (nI N) (nI L) ymx ymq 1 (nI mv) yff yA yB yC ykd ylf yfl yrt ycl yfi yok yse yde yst ytr n 0 := by
    intro hn
    refine by_q109 hT hN hL hv hC ha hu hw (fun q => h1 ?_ yok yse) (fun q => h0 ?_ yok yse)
    · rw [K1, K2] at q
      exact Or.inr ⟨fun z => hn ⟨z.1, iff.mpr z.2⟩, q⟩
    · rw [K1, K2] at q
      intro z
      rcases z with z | z
      · exact hn ⟨z.1, iff.mpr z.2.1⟩
      · exact q z.2
  refine pk_eq a 0 (fun e => pk_eq u w (fun e2 => ?_) (fun e2 => go fun z => e2 z.2)) (fun e => go fun z => e z.1)
  refine by_al hN (fun ok hok => ?_)
  have hF : ∀ v, v < N → bb_z1 (ok v) (bb_Bn N c k v) := by
    intro v hv
    have hcv := hC v hv
    have hcv2 := hcv.2
    refine bb_z1_c (hok v hv) ?_
    rw [hcv.1, nI_eq (by omega) (by omega), ← K1]
    exact ⟨fun e => ⟨hv, e⟩, fun e => e.2⟩
  refine by_ling hT hN hL hv hF (fun se hse => by_q77 hN hse (fun q => h1 ?_ ok se) (fun q => h0 ?_ ok se))
  · obtain ⟨s, _, d⟩ := q
    exact Or.inl ⟨e, iff.mp e2, s, d⟩
  · intro z
    rcases z with ⟨_, _, s, d⟩ | z
    · exact q ⟨s, (bb_div_F d).1, d⟩
    · exact z.1 ⟨e, iff.mp e2⟩
theorem by_qm_o {post : Int32 → SY → Prop} {p q r : Int32} (hN : N ≤ 12) (hL : L ≤ 3) (hC : by_C N c ycl) (hc : ∀ s, s < N → c s ≤ s ∧ c (c s) = c s)
    (ho : (∀ k, k < bb_cn (bb_ldr c) N → p ≠ nI k) ∨ (∀ a, a < L + 1 → q ≠ nI a) ∨ (∀ k, k < bb_cn (bb_ldr c) N → r ≠ nI k)) (h : post 101 ((nI N), (nI L), ymx, ymq, 1, (nI mv), yff, yA, yB, yC, ykd, ylf, yfl, yrt, ycl, yfi, yok, yse, yde, yst, ytr)) : wpY_quotientMove post ((nI N), (nI L), ymx, ymq, 1, (nI mv), yff, yA, yB, yC, ykd, ylf, yfl, yrt, ycl, yfi, yok, yse, yde, yst, ytr) p q r := by
  unfold wpY_quotientMove
  dsimp only
  refine br_f (by decide) ?_
  rcases bb_cs p (bb_cn (bb_ldr c) N) with ⟨k, hk, e⟩ | hk
  · subst e
    refine by_ld_i hN hC hc hk (fun u hu eu ku => ?_)
    rcases bb_cs r (bb_cn (bb_ldr c) N) with ⟨k', hk', e⟩ | hk'
    · subst e
      refine by_ld_i hN hC hc hk' (fun w hw ew kw => br_f (bb_n101 (by omega)) (br_f (bb_n101 (by omega)) ?_))
      rcases ho with ho | ho | ho
      · exact absurd rfl (ho k hk)
      · rcases bb_ouL (by omega) ho with z | ⟨z, z2⟩
        · exact br_t z h
        · exact br_f z (br_f (Int32.not_le.mpr z2) h)
      · exact absurd rfl (ho k' hk')
    · exact by_ld_o hN hC hc hk' (br_f (bb_n101 (by omega)) (br_t rfl h))
  · refine by_ld_o hN hC hc hk ?_
    rcases bb_cs r (bb_cn (bb_ldr c) N) with ⟨k', hk', e⟩ | hk'
    · subst e
      exact by_ld_i hN hC hc hk' (fun w hw ew kw => br_t rfl h)
    · exact by_ld_o hN hC hc hk' (br_t rfl h)
def bb_G (N : Nat) (T : Nat → Nat → Nat → Prop) (c : Nat → Nat) (b a d : Nat) : Prop := b < bb_cn (bb_ldr c) N ∧ d < bb_cn (bb_ldr c) N ∧ bb_Q T (bb_Bn N c) b a d
theorem by_qc35 {post : Int32 → SY → Prop} {J14 J24 : Int32 → Int32 → Int32 → Int32 → Int32 → Int32 → Int32 → Int32 → Int32 → (Nat → Int32) → (Nat → Int32) → (Nat → Int32) → (Nat → Int32) → (Nat → Int32) → (Nat → Int32) → (Nat → Int32) → (Nat → Int32) → (Nat → Int32) → (Nat → Int32) → (Nat → Int32) → (Nat → Int32) → (Nat → Int32) → (Nat → Int32) → Prop}
    {b a z : Nat} (hT : by_T N L T mv yA yB yC) (hN : N ≤ 12) (hL : L ≤ 3) (hv : mv ≤ 32) (hC : by_C N c ycl) (hc : ∀ s, s < N → c s ≤ s ∧ c (c s) = c s) (hb : b < N) (ha : a ≤ L)
    (hJ : ∀ ok se, J24 (nI (z + bb_sum (fun d => bb_ind (bb_G N T c b a d)) N)) (nI (a + 1)) (nI N) (nI L) ymx ymq 1 (nI mv) yff yA yB yC ykd ylf yfl yrt ycl yfi ok se yde yst ytr) : ∃ n, wY_quotientMoveCount_35 post J14 J24 (nI b) (nI a) n (nI z) 0 (nI N) (nI L) ymx ymq 1 (nI mv) yff yA yB yC ykd ylf yfl yrt ycl yfi yok yse yde yst ytr := by
  have hB := bb_cn_le (bb_ldr c) N
  refine loop_0 (fun n i (s : Nat × (Nat → Int32) × (Nat → Int32)) => wY_quotientMoveCount_35 post J14 J24 (nI b) (nI a) n (nI s.1) (nI i) (nI N) (nI L) ymx ymq 1 (nI mv) yff yA yB yC ykd ylf yfl yrt ycl yfi s.2.1 s.2.2 yde yst ytr) (fun i s => s.1 = z + bb_sum (fun d => bb_ind (bb_G N T c b a d)) i) N (z, yok, yse) rfl ?_ ?_
  · rintro n ⟨s, ok, se⟩ h
    dsimp only at h ⊢
    subst h
    exact br_t (nI_le (Nat.le_refl _) (by omega)) (nm_r (nI_1 a) (hJ ok se))
  · rintro n i ⟨s, ok, se⟩ hi h ih
    dsimp only at h ⊢
    refine br_f (nI_ge hi (by omega)) ?_
    have hy : bb_G N T c b a i → s + 1 = z + bb_sum (fun d => bb_ind (bb_G N T c b a d)) (i + 1) := by
      intro q
      show s + 1 = z + (bb_sum _ i + bb_ind _)
      rw [bb_ind_t q]
      omega
    have hn : ¬ bb_G N T c b a i → s = z + bb_sum (fun d => bb_ind (bb_G N T c b a d)) (i + 1) := by
      intro q
      show s = z + (bb_sum _ i + bb_ind _)
      rw [bb_ind_f q]
      omega
    by_cases h1 : b < bb_cn (bb_ldr c) N
    · by_cases h2 : i < bb_cn (bb_ldr c) N
      · exact by_qm_i hT hN hL hv hC hc h1 ha h2 (fun q ok' se' => br_t rfl (nm_r (nI_1 s) (nm_r (nI_1 i) (ih (s + 1, ok', se') (hy ⟨h1, h2, q⟩))))) (fun q ok' se' => br_f (by decide) (nm_r (nI_1 i) (ih (s, ok', se') (hn fun z => q z.2.2))))
      · refine by_qm_o hN hL hC hc (Or.inr (Or.inr fun k hk e => ?_)) (br_f (by decide) (nm_r (nI_1 i) (ih (s, ok, se) (hn fun z => h2 z.2.1))))
        rw [nI_eq (by omega) (by omega)] at e
        omega
    · refine by_qm_o hN hL hC hc (Or.inl fun k hk e => ?_) (br_f (by decide) (nm_r (nI_1 i) (ih (s, ok, se) (hn fun z => h1 z.1))))
      rw [nI_eq (by omega) (by omega)] at e
      omega
theorem by_qc24 {post : Int32 → SY → Prop} {J14 : Int32 → Int32 → Int32 → Int32 → Int32 → Int32 → Int32 → Int32 → Int32 → (Nat → Int32) → (Nat → Int32) → (Nat → Int32) → (Nat → Int32) → (Nat → Int32) → (Nat → Int32) → (Nat → Int32) → (Nat → Int32) → (Nat → Int32) → (Nat → Int32) → (Nat → Int32) → (Nat → Int32) → (Nat → Int32) → (Nat → Int32) → Prop}
    {b z : Nat} (hT : by_T N L T mv yA yB yC) (hN : N ≤ 12) (hL : L ≤ 3) (hv : mv ≤ 32) (hC : by_C N c ycl) (hc : ∀ s, s < N → c s ≤ s ∧ c (c s) = c s) (hb : b < N)
    (hJ : ∀ ok se, J14 (nI (z + bb_sum (fun a => bb_sum (fun d => bb_ind (bb_G N T c b a d)) N) (L + 1))) (nI (b + 1)) (nI N) (nI L) ymx ymq 1 (nI mv) yff yA yB yC ykd ylf yfl yrt ycl yfi ok se yde yst ytr) : ∃ n, wY_quotientMoveCount_24 post J14 (nI b) n (nI z) 0 (nI N) (nI L) ymx ymq 1 (nI mv) yff yA yB yC ykd ylf yfl yrt ycl yfi yok yse yde yst ytr := by
  refine loop_0 (fun n i (s : Nat × (Nat → Int32) × (Nat → Int32)) => wY_quotientMoveCount_24 post J14 (nI b) n (nI s.1) (nI i) (nI N) (nI L) ymx ymq 1 (nI mv) yff yA yB yC ykd ylf yfl yrt ycl yfi s.2.1 s.2.2 yde yst ytr) (fun i s => s.1 = z + bb_sum (fun a => bb_sum (fun d => bb_ind (bb_G N T c b a d)) N) i) (L + 1) (z, yok, yse) rfl ?_ ?_
  · rintro n ⟨s, ok, se⟩ h
    dsimp only at h ⊢
    subst h
    exact br_t (nI_lt (by omega) (by omega)) (nm_r (nI_1 b) (hJ ok se))
  · rintro n i ⟨s, ok, se⟩ hi h ih
    dsimp only at h ⊢
    refine br_f (nI_nlt (by omega) (by omega)) (by_qc35 hT hN hL hv hC hc hb (by omega) (fun ok' se' => ih (_, ok', se') ?_))
    show _ = z + (bb_sum _ i + _)
    dsimp only
    omega
theorem by_qc {post : Int32 → SY → Prop} (hT : by_T N L T mv yA yB yC) (hN : N ≤ 12) (hL : L ≤ 3) (hv : mv ≤ 32) (hC : by_C N c ycl) (hc : ∀ s, s < N → c s ≤ s ∧ c (c s) = c s)
    (hp : ∀ ok se, post (nI (bb_sum (fun b => bb_sum (fun a => bb_sum (fun d => bb_ind (bb_G N T c b a d)) N) (L + 1)) N)) ((nI N), (nI L), ymx, ymq, 1, (nI mv), yff, yA, yB, yC, ykd, ylf, yfl, yrt, ycl, yfi, ok, se, yde, yst, ytr)) : wpY_quotientMoveCount post ((nI N), (nI L), ymx, ymq, 1, (nI mv), yff, yA, yB, yC, ykd, ylf, yfl, yrt, ycl, yfi, yok, yse, yde, yst, ytr) := by
  unfold wpY_quotientMoveCount
  dsimp only
  refine br_f (by decide) ?_
  refine loop_0 (fun n i (s : Nat × (Nat → Int32) × (Nat → Int32)) => wY_quotientMoveCount_14 post n (nI s.1) (nI i) (nI N) (nI L) ymx ymq 1 (nI mv) yff yA yB yC ykd ylf yfl yrt ycl yfi s.2.1 s.2.2 yde yst ytr) (fun i s => s.1 = bb_sum (fun b => bb_sum (fun a => bb_sum (fun d => bb_ind (bb_G N T c b a d)) N) (L + 1)) i) N (0, yok, yse) rfl ?_ ?_
  · rintro n ⟨s, ok, se⟩ h
    dsimp only at h ⊢
    subst h
    exact br_t (nI_le (Nat.le_refl _) (by omega)) (hp ok se)
  · rintro n i ⟨s, ok, se⟩ hi h ih
    dsimp only at h ⊢
    refine br_f (nI_ge hi (by omega)) (by_qc24 hT hN hL hv hC hc hi (fun ok' se' => ih (_, ok', se') ?_))
    show _ = bb_sum _ i + _
    dsimp only
    omega
theorem bb_GQ (N L : Nat) (T : Nat → Nat → Nat → Prop) (c : Nat → Nat) : bb_sum (fun b => bb_sum (fun a => bb_sum (fun d => bb_ind (bb_G N T c b a d)) N) (L + 1)) N = bb_sum (fun b => bb_sum (fun a => bb_sum (fun d => bb_ind (bb_Q T (bb_Bn N c) b a d)) (bb_cn (bb_ldr c) N)) (L + 1)) (bb_cn (bb_ldr c) N) := by
  have hB := bb_cn_le (bb_ldr c) N
  rw [bb_sum_z (bb_cn (bb_ldr c) N) _ N hB]
  · refine bb_sum_cg _ fun b hb => bb_sum_cg _ fun a _ => ?_
    rw [bb_sum_z (bb_cn (bb_ldr c) N) _ N hB]
    · refine bb_sum_cg _ fun d hd => ?_
      by_cases q : bb_Q T (bb_Bn N c) b a d
      · rw [bb_ind_t q, bb_ind_t ⟨hb, hd, q⟩]
      · rw [bb_ind_f q, bb_ind_f (fun z => q z.2.2)]
    · intro i hi
      exact bb_ind_f fun z => absurd z.2.1 (by omega)
  · intro i hi
    have : ∀ n, bb_sum (fun a => bb_sum (fun d => bb_ind (bb_G N T c i a d)) N) n = 0 := by
      intro n
      have e := bb_sum_z (f := fun a => bb_sum (fun d => bb_ind (bb_G N T c i a d)) N) 0 (fun a _ => by
        have e2 := bb_sum_z (f := fun d => bb_ind (bb_G N T c i a d)) 0 (fun d _ => bb_ind_f fun z => absurd z.1 (by omega)) N (Nat.zero_le _)
        exact e2) n (Nat.zero_le _)
      exact e
    exact this _
end
