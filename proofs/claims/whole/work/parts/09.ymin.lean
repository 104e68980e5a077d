section
variable {T : Nat → Nat → Nat → Prop} {N L mv : Nat} {ymx ymq ymi yff : Int32} {yA yB yC ykd ylf yfl yrt ycl yfi yok yse yde yst ytr : Nat → Int32} {c : Nat → Nat}
def by_D (N : Nat) (T : Nat → Nat → Nat → Prop) (c : Nat → Nat) (s a k : Nat) : Prop := (a = 0 → k ≠ c s) ∧ bb_Unt T (bb_K N c (c s)) a (bb_K N c k) s
def by_C (N : Nat) (c : Nat → Nat) (cl : Nat → Int32) : Prop := ∀ v, v < N → cl v = nI (c v) ∧ c v < N
theorem bb_r48 (s i : Nat) : nI s * 48 + nI i = nI (s * 48 + i) := by
  show nI s * nI 48 + nI i = _
  rw [pk_mul, nI_add]
theorem bb_r3 (s a k : Nat) : nI s * 48 + nI a * 12 + nI k = nI (s * 48 + (a * 12 + k)) := by
  show nI s * nI 48 + nI a * nI 12 + nI k = _
  rw [pk_mul, pk_mul, nI_add, nI_add, Nat.add_assoc]
def by_E (N : Nat) (T : Nat → Nat → Nat → Prop) (c : Nat → Nat) (A B C : Nat → Int32) (s i a k : Nat) : Prop :=
  (a = 0 → k ≠ c s) ∧ ∃ j x w, j < i ∧ A j = nI x ∧ B j = nI a ∧ C j = nI w ∧ x < N ∧ w < N ∧ c w = k ∧ bb_Rch T (bb_K N c (c s)) s x
theorem by_E_D {s a k : Nat} {A B C : Nat → Int32} (hT : by_T N L T mv A B C) (hN : N ≤ 12) (hL : L ≤ 3) (ha : a ≤ 3) : by_E N T c A B C s mv a k ↔ by_D N T c s a k := by
  constructor
  · rintro ⟨h0, j, x, w, hj, e1, e2, e3, hx, hw, e, r⟩
    refine ⟨h0, bb_rch_unt.mpr ⟨x, w, r, ?_, hw, e⟩⟩
    obtain ⟨x', a', w', f1, f2, f3, m⟩ := hT.1 j hj
    have b := hT.2.2 _ _ _ m
    rw [e1, nI_eq (by omega) (by omega)] at f1
    rw [e2, nI_eq (by omega) (by omega)] at f2
    rw [e3, nI_eq (by omega) (by omega)] at f3
    subst f1 f2 f3
    exact m
  · rintro ⟨h0, u⟩
    obtain ⟨x, w, r, m, q⟩ := bb_rch_unt.mp u
    obtain ⟨j, hj, e1, e2, e3⟩ := hT.2.1 _ _ _ m
    have b := hT.2.2 _ _ _ m
    exact ⟨h0, j, x, w, hj, e1, e2, e3, b.2.1, b.2.2, q.2, r⟩
def by_Dd (N : Nat) (T : Nat → Nat → Nat → Prop) (c : Nat → Nat) (de : Nat → Int32) (s : Nat) : Prop := ∀ a k, a ≤ 3 → k < 12 → bb_z1 (de (s * 48 + (a * 12 + k))) (by_D N T c s a k)
def by_Ds (N : Nat) (T : Nat → Nat → Nat → Prop) (c : Nat → Nat) (st : Nat → Int32) (s : Nat) : Prop := bb_z1 (st s) (bb_Div T (bb_K N c (c s)) s)
theorem by_d43 {post : SY → Prop} {s : Nat} (hT : by_T N L T mv yA yB yC) (hN : N ≤ 12) (hL : L ≤ 3) (hv : mv ≤ 32) (hs : s < N) (hC : by_C N c ycl) (hok : ∀ v, v < N → bb_z1 (yok v) (bb_K N c (c s) v)) (hse : ∀ v, v < N → (¬ yse v = 0 ↔ bb_Rch T (bb_K N c (c s)) s v)) (hd : ∀ q, q < 48 → yde (s * 48 + q) = 0)
    (hp : ∀ se de st, by_Dd N T c de s → (∀ j, (j < s * 48 ∨ s * 48 + 48 ≤ j) → de j = yde j) → by_Ds N T c st s → (∀ j, j ≠ s → st j = yst j) → post ((nI N), (nI L), ymx, ymq, ymi, (nI mv), yff, yA, yB, yC, ykd, ylf, yfl, yrt, ycl, yfi, yok, se, de, st, ytr)) : ∃ n, wY_describe_43 post (nI s) (nI N) (nI L) ymx ymq ymi (nI mv) yff n 0 yA yB yC ykd ylf yfl yrt ycl yfi yok yse yde yst ytr := by
  refine loop_0 (fun n i (d : Nat → Int32) => wY_describe_43 post (nI s) (nI N) (nI L) ymx ymq ymi (nI mv) yff n (nI i) yA yB yC ykd ylf yfl yrt ycl yfi yok yse d yst ytr) (fun i d => (∀ a k, a ≤ 3 → k < 12 → bb_z1 (d (s * 48 + (a * 12 + k))) (by_E N T c yA yB yC s i a k)) ∧ ∀ j, (j < s * 48 ∨ s * 48 + 48 ≤ j) → d j = yde j) mv yde ?_ ?_ ?_
  · refine ⟨fun a k ha hk => Or.inr ⟨hd _ (by omega), ?_⟩, fun _ _ => rfl⟩
    rintro ⟨_, j, x, w, hj, _⟩
    omega
  · intro n d ⟨h1, h2⟩
    refine br_t (nI_le (Nat.le_refl _) (by omega)) (by_ling hT hN hL hv hok (fun se' hse' => ?_))
    have v3 := vp_in_nI (n := s) (N := 12) (by omega) (by decide)
    rw [nI_clamp (n := s) (by omega)]
    refine ⟨v3, v3, nm_r (congrArg (upd yst s) (bb_z1_n (hse' s hs))) (hp se' d _ ?_ h2 ?_ ?_)⟩
    · intro a k ha hk
      exact bb_z1_c (h1 a k ha hk) (by_E_D hT hN hL ha)
    · unfold by_Ds
      rw [pk_us]
      exact hse' s hs
    · intro j e
      rw [pk_un e]
  · intro n i d hi ⟨h1, h2⟩ ih
    refine br_f (nI_ge hi (by omega)) ?_
    obtain ⟨x, a, w, eA, eB, eC, m⟩ := hT.1 i hi
    have b := hT.2.2 _ _ _ m
    have cw := hC w b.2.2
    rw [nI_clamp (n := i) (by omega), eA, eC, nI_clamp (n := x) (by omega), nI_clamp (n := w) (by omega)]
    have v1 := vp_in_nI (n := i) (N := 32) (by omega) (by decide)
    have v2 := vp_in_nI (n := x) (N := 12) (by omega) (by decide)
    have v3 := vp_in_nI (n := w) (N := 12) (by omega) (by decide)
    have v4 := vp_in_nI (n := s) (N := 12) (by omega) (by decide)
    have keep : ((a = 0 → c w ≠ c s) → bb_Rch T (bb_K N c (c s)) s x → False) → wY_describe_43 post (nI s) (nI N) (nI L) ymx ymq ymi (nI mv) yff n (nI (i + 1)) yA yB yC ykd ylf yfl yrt ycl yfi yok yse d yst ytr := by
      intro hn
      refine ih d ⟨fun a' k' ha hk => bb_z1_c (h1 a' k' ha hk) ?_, h2⟩
      constructor
      · rintro ⟨q0, j, x', w', hj, q⟩
        exact ⟨q0, j, x', w', by omega, q⟩
      · rintro ⟨q0, j, x', w', hj, q1, q2, q3, q4, q5, q6, q7⟩
        by_cases e : j = i
        · subst e
          rw [eA, nI_eq (by omega) (by omega)] at q1
          rw [eB, nI_eq (by omega) (by omega)] at q2
          rw [eC, nI_eq (by omega) (by omega)] at q3
          subst q1 q2 q3
          rw [← q6] at q0
          exact (hn q0 q7).elim
        · exact ⟨q0, j, x', w', by omega, q1, q2, q3, q4, q5, q6, q7⟩
    have add : (a = 0 → c w ≠ c s) → bb_Rch T (bb_K N c (c s)) s x → wY_describe_97 post (wY_describe_43 post (nI s) (nI N) (nI L) ymx ymq ymi (nI mv) yff n) (nI s) (nI i) (nI (c w)) (nI N) (nI L) ymx ymq ymi (nI mv) yff yA yB yC ykd ylf yfl yrt ycl yfi yok yse d yst ytr := by
      intro hn r
      unfold wY_describe_97
      rw [nI_clamp (n := i) (by omega), eB, bb_r3, nI_clamp (n := s * 48 + (a * 12 + c w)) (by omega)]
      refine ⟨v1, vp_in_nI (by omega) (by decide), nm_r (congrArg (upd d _) bb_n1) (nm_r (nI_1 i) (ih _ ⟨fun a' k' ha hk => ?_, fun j hj => ?_⟩))⟩
      · by_cases e : a' = a ∧ k' = c w
        · obtain ⟨e1, e2⟩ := e
          subst e1 e2
          rw [pk_us]
          exact Or.inl ⟨rfl, hn, i, x, w, by omega, eA, eB, eC, b.2.1, b.2.2, rfl, r⟩
        · rw [pk_un (by omega)]
          refine bb_z1_c (h1 a' k' ha hk) ?_
          constructor
          · rintro ⟨q0, j, x', w', hj, q⟩
            exact ⟨q0, j, x', w', by omega, q⟩
          · rintro ⟨q0, j, x', w', hj, q1, q2, q3, q4, q5, q6, q7⟩
            by_cases e' : j = i
            · subst e'
              rw [eB, nI_eq (by omega) (by omega)] at q2
              rw [eC, nI_eq (by omega) (by omega)] at q3
              subst q2 q3
              exact absurd ⟨rfl, q6.symm⟩ e
            · exact ⟨q0, j, x', w', by omega, q1, q2, q3, q4, q5, q6, q7⟩
      · rw [pk_un (by omega)]
        exact h2 j hj
    refine ⟨v1, v3, nm_r cw.1 ⟨v1, v2, br_c (fun z => nm_r (nI_1 i) (keep fun _ r => ((hse x b.2.1).mpr r) z)) (fun z => ?_)⟩⟩
    have r := (hse x b.2.1).mp z
    rw [eB, nI_clamp (n := s) (by omega), (hC s hs).1]
    have hcs := (hC s hs).2
    have hcw := cw.2
    exact ⟨v1, pk_le 1 a (fun z2 => add (fun z3 => by omega) r) (fun z2 => ⟨v4, pk_eq (c w) (c s) (fun z3 => nm_r (nI_1 i) (keep fun q _ => q (by omega) z3)) (fun z3 => add (fun _ => z3) r)⟩)⟩
theorem by_desc {post : SY → Prop} {s : Nat} (hT : by_T N L T mv yA yB yC) (hN : N ≤ 12) (hL : L ≤ 3) (hv : mv ≤ 32) (hs : s < N) (hC : by_C N c ycl)
    (hp : ∀ ok se de st, by_Dd N T c de s → (∀ j, (j < s * 48 ∨ s * 48 + 48 ≤ j) → de j = yde j) → by_Ds N T c st s → (∀ j, j ≠ s → st j = yst j) → post ((nI N), (nI L), ymx, ymq, ymi, (nI mv), yff, yA, yB, yC, ykd, ylf, yfl, yrt, ycl, yfi, ok, se, de, st, ytr)) : wpY_describe post ((nI N), (nI L), ymx, ymq, ymi, (nI mv), yff, yA, yB, yC, ykd, ylf, yfl, yrt, ycl, yfi, yok, yse, yde, yst, ytr) (nI s) := by
  unfold wpY_describe
  dsimp only
  rw [nI_clamp (n := s) (by omega), (hC s hs).1]
  have hcs := (hC s hs).2
  refine ⟨vp_in_nI (by omega) (by decide), by_al hN (fun ok hok => ?_)⟩
  have hF : ∀ v, v < N → bb_z1 (ok v) (bb_K N c (c s) v) := by
    intro v hv
    have hcv := hC v hv
    refine bb_z1_c (hok v hv) ?_
    rw [hcv.1, nI_eq (by omega) (by omega)]
    exact ⟨fun e => ⟨hv, e⟩, fun e => e.2⟩
  refine by_walk hT hN hL hv hs hF (fun se hse => ?_)
  refine loop_0 (fun n i (d : Nat → Int32) => wY_describe_17 post (nI s) (nI N) (nI L) ymx ymq ymi (nI mv) yff n (nI i) yA yB yC ykd ylf yfl yrt ycl yfi ok se d yst ytr) (fun i d => (∀ q, q < i → d (s * 48 + q) = 0) ∧ ∀ j, (j < s * 48 ∨ s * 48 + 48 ≤ j) → d j = yde j) 48 yde ?_ ?_ ?_
  · exact ⟨fun q h => absurd h (Nat.not_lt_zero _), fun _ _ => rfl⟩
  · intro n d ⟨h1, h2⟩
    refine br_t (nI_le (a := 48) (b := 48) (Nat.le_refl _) (by decide)) (by_d43 hT hN hL hv hs hC hF hse h1 (fun se' de' st' q1 q2 q3 q4 => hp ok se' de' st' q1 (fun j hj => (q2 j hj).trans (h2 j hj)) q3 q4))
  · intro n i d hi ⟨h1, h2⟩ ih
    refine br_f (nI_ge (b := 48) hi (by decide)) ?_
    rw [bb_r48, nI_clamp (n := s * 48 + i) (by omega)]
    refine ⟨vp_in_nI (by omega) (by decide), nm_r (congrArg (upd d _) bb_n0) (nm_r (nI_1 i) (ih _ ⟨fun q hq => ?_, fun j hj => ?_⟩))⟩
    · by_cases e : q = i
      · rw [e, pk_us]
      · rw [pk_un (by omega)]; exact h1 q (by omega)
    · rw [pk_un (by omega)]
      exact h2 j hj
theorem by_untF {F : Nat → Prop} {s a k : Nat} (hb : ∀ a s t, T a s t → a ≤ L ∧ s < N ∧ t < N) (hN : N ≤ 12) (hL : L ≤ 3) (hC : by_C N c ycl) (h : ¬ (a ≤ 3 ∧ k < 12)) : ¬ bb_Unt T F a (bb_K N c k) s := by
  intro u
  refine u (fun _ => False) ?_ (fun _ _ _ _ z => z)
  intro v t _ m q
  have b := hb _ _ _ m
  have ct := (hC t q.1).2
  have := q.2
  omega
theorem by_alike {post : Int32 → Prop} {s t : Nat} (hb : ∀ a s t, T a s t → a ≤ L ∧ s < N ∧ t < N) (hN : N ≤ 12) (hL : L ≤ 3) (hs : s < N) (ht : t < N) (hC : by_C N c ycl) (d1 : by_Dd N T c yde s) (d2 : by_Dd N T c yde t) (s1 : by_Ds N T c yst s) (s2 : by_Ds N T c yst t)
    (h1 : bb_Al N T c s t → post 1) (h0 : ¬ bb_Al N T c s t → post 0) : wpY_alike post ((nI N), (nI L), ymx, ymq, ymi, (nI mv), yff, yA, yB, yC, ykd, ylf, yfl, yrt, ycl, yfi, yok, yse, yde, yst, ytr) (nI s) (nI t) := by
  unfold wpY_alike
  dsimp only
  have v1 := vp_in_nI (n := s) (N := 12) (by omega) (by decide)
  have v2 := vp_in_nI (n := t) (N := 12) (by omega) (by decide)
  rw [nI_clamp (n := s) (by omega), nI_clamp (n := t) (by omega), (hC s hs).1, (hC t ht).1]
  have hcs := (hC s hs).2
  have hct := (hC t ht).2
  refine ⟨v1, v2, pk_eq (c s) (c t) (fun e => ⟨v1, v2, br_c (fun e2 => ?_) (fun e2 => h0 fun q => e2 ((bb_z1_e s1 s2).mpr q.2.1))⟩) (fun e => h0 fun q => e q.1)⟩
  have e3 := (bb_z1_e s1 s2).mp e2
  refine loop_0 (fun n i (_ : Unit) => wY_alike_34 post (nI s) (nI t) (nI N) (nI L) ymx ymq ymi (nI mv) yff yA yB yC ykd ylf yfl yrt ycl yfi yok yse yde yst ytr n (nI i)) (fun i _ => ∀ q, q < i → (by_D N T c s (q / 12) (q % 12) ↔ by_D N T c t (q / 12) (q % 12))) 48 () (fun q h => absurd h (Nat.not_lt_zero _)) ?_ ?_
  · intro n _ h
    refine br_t (nI_le (a := 48) (b := 48) (Nat.le_refl _) (by decide)) (h1 ⟨e, e3, fun a k hk => ?_⟩)
    by_cases hr : a ≤ 3 ∧ k < 12
    · have q := h (a * 12 + k) (by omega)
      have q1 : (a * 12 + k) / 12 = a := by omega
      have q2 : (a * 12 + k) % 12 = k := by omega
      rw [q1, q2] at q
      have hk' : a = 0 → k ≠ c t := by rw [← e]; exact hk
      exact ⟨fun u => (q.mp ⟨hk, u⟩).2, fun u => (q.mpr ⟨hk', u⟩).2⟩
    · exact ⟨fun u => absurd u (by_untF hb hN hL hC hr), fun u => absurd u (by_untF hb hN hL hC hr)⟩
  · intro n i _ hi h ih
    refine br_f (nI_ge (b := 48) hi (by decide)) ?_
    rw [bb_r48, bb_r48, nI_clamp (n := s * 48 + i) (by omega), nI_clamp (n := t * 48 + i) (by omega)]
    have ei : i / 12 * 12 + i % 12 = i := by omega
    have z1 := d1 (i / 12) (i % 12) (by omega) (by omega)
    have z2 := d2 (i / 12) (i % 12) (by omega) (by omega)
    rw [ei] at z1 z2
    refine ⟨vp_in_nI (by omega) (by decide), vp_in_nI (by omega) (by decide), br_c (fun z => nm_r (nI_1 i) (ih () fun q hq => ?_)) (fun z => h0 fun al => z ((bb_z1_e z1 z2).mpr ?_))⟩
    · by_cases eq : q = i
      · rw [eq]; exact (bb_z1_e z1 z2).mp z
      · exact h q (by omega)
    · constructor
      · rintro ⟨p1, p2⟩
        exact ⟨by rw [← e]; exact p1, (al.2.2 _ _ p1).mp p2⟩
      · rintro ⟨p1, p2⟩
        rw [← e] at p1
        exact ⟨p1, (al.2.2 _ _ p1).mpr p2⟩
theorem by_bc14 {post : Int32 → Prop} (hN : N ≤ 12) (hC : by_C N c ycl) (hp : post (nI (bb_cn (bb_ldr c) N))) : ∃ n, wY_blockCount_14 post (nI N) (nI L) ymx ymq ymi (nI mv) yff yA yB yC ykd ylf yfl yrt ycl yfi yok yse yde yst ytr n 0 0 := by
  refine loop_0 (fun n i (s : Nat) => wY_blockCount_14 post (nI N) (nI L) ymx ymq ymi (nI mv) yff yA yB yC ykd ylf yfl yrt ycl yfi yok yse yde yst ytr n (nI s) (nI i)) (fun i s => s = bb_cn (bb_ldr c) i) N 0 rfl ?_ ?_
  · intro n s h
    subst h
    exact br_t (nI_le (Nat.le_refl _) (by omega)) hp
  · intro n i s hi h ih
    refine br_f (nI_ge hi (by omega)) ?_
    have ci := hC i hi
    rw [nI_clamp (n := i) (by omega), ci.1]
    have hci := ci.2
    refine ⟨vp_in_nI (by omega) (by decide), pk_eq (c i) i (fun e => nm_r (nI_1 s) (nm_r (nI_1 i) (ih (s + 1) ?_))) (fun e => nm_r (nI_1 i) (ih s ?_))⟩
    · rw [bb_cn_t (decide_eq_true e), h]
    · rw [bb_cn_f (fun z => e (of_decide_eq_true z)), h]
end
