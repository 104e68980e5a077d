section
variable {T : Nat → Nat → Nat → Prop} {N L M Q mv fm : Nat} {A B C tg fo kd lf fl rt : Nat → Int32} {c : Nat → Nat}
def bb_Nd (mv : Nat) (A B C : Nat → Int32) : Prop := ∀ i j, i < mv → j < mv → A i = A j → B i = B j → C i = C j → i = j
theorem by_Tof {m s a t : Nat} (hT : by_T N L T mv A B C) (hN : N ≤ 12) (hL : L ≤ 3) (hm : m < mv) (hs : s < N) (ha : a ≤ L) (ht : t < N) (e1 : A m = nI s) (e2 : B m = nI a) (e3 : C m = nI t) : T a s t := by
  obtain ⟨x', a', w', f1, f2, f3, q⟩ := hT.1 m hm
  have b := hT.2.2 _ _ _ q
  rw [e1, nI_eq (by omega) (by omega)] at f1
  rw [e2, nI_eq (by omega) (by omega)] at f2
  rw [e3, nI_eq (by omega) (by omega)] at f3
  subst f1 f2 f3
  exact q
def bb_Mo (N L M mv : Nat) (T : Nat → Nat → Nat → Prop) (tg A B C : Nat → Int32) : Prop := bx_T N L T tg ∧ by_T N L T mv A B C ∧ bb_Nd mv A B C
theorem bb_mo_add {s a t : Nat} (hN : N ≤ 12) (hL : L ≤ 3) (h : bb_Mo N L M mv T tg A B C) (hs : s < N) (ha : a ≤ L) (ht : t < N) (hn : ¬ T a s t) :
    bb_Mo N L M (mv + 1) (fun a' s' t' => T a' s' t' ∨ (a' = a ∧ s' = s ∧ t' = t)) (upd tg (a * 12 + s) (tg (a * 12 + s) ||| ((1 : Int32) <<< (nI t &&& 31)))) (upd A mv (nI s)) (upd B mv (nI a)) (upd C mv (nI t)) := by
  obtain ⟨h1, h2, h3⟩ := h
  refine ⟨⟨?_, ?_⟩, ⟨?_, ?_, ?_⟩, ?_⟩
  · rintro a' s' t' (q | ⟨e1, e2, e3⟩)
    · exact h1.1 _ _ _ q
    · exact ⟨by omega, by omega, by omega⟩
  · intro a' s' t' ha' hs'
    by_cases e : a' * 12 + s' = a * 12 + s
    · have e1 : a' = a := by omega
      have e2 : s' = s := by omega
      subst e1 e2
      rw [pk_us, bb_ins _ (by omega), h1.2 _ _ _ ha' hs']
      exact ⟨fun z => z.elim Or.inl (fun z => Or.inr ⟨rfl, rfl, z⟩), fun z => z.elim Or.inl (fun z => Or.inr z.2.2)⟩
    · rw [pk_un e, h1.2 _ _ _ ha' hs']
      exact ⟨Or.inl, fun z => z.elim id (fun z => absurd (by rw [z.1, z.2.1]) e)⟩
  · intro m hm
    by_cases e : m = mv
    · rw [e, pk_us, pk_us, pk_us]
      exact ⟨s, a, t, rfl, rfl, rfl, Or.inr ⟨rfl, rfl, rfl⟩⟩
    · rw [pk_un e, pk_un e, pk_un e]
      obtain ⟨x, b, y, e1, e2, e3, q⟩ := h2.1 m (by omega)
      exact ⟨x, b, y, e1, e2, e3, Or.inl q⟩
  · rintro a' s' t' (q | ⟨e1, e2, e3⟩)
    · obtain ⟨m, hm, q1, q2, q3⟩ := h2.2.1 _ _ _ q
      have e : m ≠ mv := by omega
      refine ⟨m, by omega, ?_, ?_, ?_⟩
      · rw [pk_un e]; exact q1
      · rw [pk_un e]; exact q2
      · rw [pk_un e]; exact q3
    · subst e1 e2 e3
      exact ⟨mv, by omega, pk_us, pk_us, pk_us⟩
  · rintro a' s' t' (q | ⟨e1, e2, e3⟩)
    · exact h1.1 _ _ _ q
    · exact ⟨by omega, by omega, by omega⟩
  · intro i j hi hj q1 q2 q3
    by_cases e : i = mv
    · by_cases e' : j = mv
      · omega
      · rw [e, pk_us, pk_un e'] at q1 q2 q3
        exact absurd (by_Tof h2 hN hL (by omega) hs ha ht q1.symm q2.symm q3.symm) hn
    · by_cases e' : j = mv
      · rw [e', pk_us, pk_un e] at q1 q2 q3
        exact absurd (by_Tof h2 hN hL (by omega) hs ha ht q1 q2 q3) hn
      · rw [pk_un e, pk_un e'] at q1 q2 q3
        exact h3 i j (by omega) (by omega) q1 q2 q3
theorem bb_mo_del {s a t m : Nat} (hN : N ≤ 12) (hL : L ≤ 3) (h : bb_Mo N L M (mv + 1) T tg A B C) (hs : s < N) (ha : a ≤ L) (ht : t < N) (hm : m < mv + 1) (e1 : A m = nI s) (e2 : B m = nI a) (e3 : C m = nI t) :
    bb_Mo N L M mv (fun a' s' t' => T a' s' t' ∧ ¬ (a' = a ∧ s' = s ∧ t' = t)) (upd tg (a * 12 + s) (tg (a * 12 + s) &&& (((1 : Int32) <<< (nI t &&& 31)) ^^^ (-1)))) (upd A m (A mv)) (upd B m (B mv)) (upd C m (C mv)) := by
  obtain ⟨h1, h2, h3⟩ := h
  have eq : ∀ i, i < mv + 1 → ∀ x b y, A i = nI x → B i = nI b → C i = nI y → (b = a ∧ x = s ∧ y = t) → i = m := by
    rintro i hi x b y f1 f2 f3 ⟨z1, z2, z3⟩
    subst z1 z2 z3
    exact h3 i m hi hm (f1.trans e1.symm) (f2.trans e2.symm) (f3.trans e3.symm)
  refine ⟨⟨?_, ?_⟩, ⟨?_, ?_, ?_⟩, ?_⟩
  · rintro a' s' t' q
    exact h1.1 _ _ _ q.1
  · intro a' s' t' ha' hs'
    by_cases e : a' * 12 + s' = a * 12 + s
    · have z1 : a' = a := by omega
      have z2 : s' = s := by omega
      subst z1 z2
      rw [pk_us, bb_del _ (by omega), h1.2 _ _ _ ha' hs']
      exact ⟨fun z => ⟨z.1, fun y => z.2 y.2.2⟩, fun z => ⟨z.1, fun y => z.2 ⟨rfl, rfl, y⟩⟩⟩
    · rw [pk_un e, h1.2 _ _ _ ha' hs']
      exact ⟨fun z => ⟨z, fun y => e (by rw [y.1, y.2.1])⟩, fun z => z.1⟩
  · intro j hj
    by_cases e : j = m
    · rw [e, pk_us, pk_us, pk_us]
      obtain ⟨x, b, y, f1, f2, f3, q⟩ := h2.1 mv (by omega)
      refine ⟨x, b, y, f1, f2, f3, q, fun z => ?_⟩
      have := eq mv (by omega) x b y f1 f2 f3 z
      omega
    · rw [pk_un e, pk_un e, pk_un e]
      obtain ⟨x, b, y, f1, f2, f3, q⟩ := h2.1 j (by omega)
      refine ⟨x, b, y, f1, f2, f3, q, fun z => ?_⟩
      exact e (eq j (by omega) x b y f1 f2 f3 z)
  · rintro a' s' t' ⟨q, qn⟩
    obtain ⟨i, hi, f1, f2, f3⟩ := h2.2.1 _ _ _ q
    have bd := h1.1 _ _ _ q
    have hne : i ≠ m := by
      intro z
      subst z
      rw [e1, nI_eq (by omega) (by omega)] at f1
      rw [e2, nI_eq (by omega) (by omega)] at f2
      rw [e3, nI_eq (by omega) (by omega)] at f3
      exact qn ⟨f2.symm, f1.symm, f3.symm⟩
    by_cases e : i = mv
    · subst e
      exact ⟨m, by omega, by rw [pk_us]; exact f1, by rw [pk_us]; exact f2, by rw [pk_us]; exact f3⟩
    · exact ⟨i, by omega, by rw [pk_un hne]; exact f1, by rw [pk_un hne]; exact f2, by rw [pk_un hne]; exact f3⟩
  · rintro a' s' t' q
    exact h1.1 _ _ _ q.1
  · intro i j hi hj
    by_cases ei : i = m
    · by_cases ej : j = m
      · intro _ _ _
        omega
      · rw [ei, pk_us, pk_us, pk_us, pk_un ej, pk_un ej, pk_un ej]
        intro q1 q2 q3
        have := h3 mv j (by omega) (by omega) q1 q2 q3
        omega
    · by_cases ej : j = m
      · rw [ej, pk_us, pk_us, pk_us, pk_un ei, pk_un ei, pk_un ei]
        intro q1 q2 q3
        have := h3 i mv (by omega) (by omega) q1 q2 q3
        omega
      · rw [pk_un ei, pk_un ei, pk_un ei, pk_un ej, pk_un ej, pk_un ej]
        exact h3 i j (by omega) (by omega)
theorem bb_Fm_up {f : Nat} {k1 k2 k3 k4 r : Int32} (hf : f < fm) (h : bb_Fm N L T c kd lf fl rt fo f) : bb_Fm N L T c (upd kd fm k1) (upd lf fm k2) (upd fl fm k3) (upd rt fm k4) (upd fo fm r) f := by
  have ne : f ≠ fm := by omega
  have ks : ∀ l, l < f → bb_BS (upd fo fm r) l = bb_BS fo l := by
    intro l hl
    funext s
    unfold bb_BS
    rw [pk_un (by omega)]
  have k0 : ∀ l, l < f → upd fo fm r l = fo l := fun l hl => pk_un (by omega)
  unfold bb_Fm
  rw [pk_un ne, pk_un ne, pk_un ne, pk_un ne, pk_un ne]
  rcases h with h | h | ⟨ek, l, hl, el, h⟩ | ⟨ek, l, r', hl, hr, el, er, h⟩ | ⟨ek, l, a, r', hl, ha, hr, el, ea, er, h⟩ | ⟨ek, l, hl, el, h⟩
  · exact Or.inl h
  · exact Or.inr (Or.inl h)
  · refine Or.inr (Or.inr (Or.inl ⟨ek, l, hl, el, ?_⟩))
    rw [k0 l hl]; exact h
  · refine Or.inr (Or.inr (Or.inr (Or.inl ⟨ek, l, r', hl, hr, el, er, ?_⟩)))
    rw [k0 l hl, k0 r' hr]; exact h
  · refine Or.inr (Or.inr (Or.inr (Or.inr (Or.inl ⟨ek, l, a, r', hl, ha, hr, el, ea, er, ?_⟩))))
    rw [ks l hl, ks r' hr, k0 r' hr]; exact h
  · refine Or.inr (Or.inr (Or.inr (Or.inr (Or.inr ⟨ek, l, hl, el, ?_⟩))))
    rw [ks l hl]; exact h
end
def bb_Mi (N L fm : Nat) (bT : Int32) (bs fo kd lf fl rt cl : Nat → Int32) (T : Nat → Nat → Nat → Prop) (c : Nat → Nat) : Prop :=
  bT = nI (bb_cn (bb_ldr c) N) ∧ (∀ s, s < N → c s ≤ s ∧ c (c s) = c s) ∧ (∀ s, s < N → cl s = nI (c s)) ∧ (∀ i s, i < bb_cn (bb_ldr c) N → (bt (bs i) s = true ↔ s < N ∧ bb_nb c s = i)) ∧
  ∀ f, f < fm → (∀ u, bt (fo f) u = true → u < N) ∧ bb_Fm N L T c kd lf fl rt fo f
def bb_Rl (N L M Q mv fm : Nat) (T : Nat → Nat → Nat → Prop) (c : Nat → Nat) (mi bT : Int32) (tg bs fo A B C kd lf fl rt cl : Nat → Int32) : Prop :=
  2 ≤ N ∧ N ≤ 12 ∧ L ≤ 3 ∧ M ≤ 32 ∧ Q ≤ 32 ∧ mv ≤ M ∧ fm ≤ Q ∧ bb_Mo N L M mv T tg A B C ∧ ((mi = 0 ∧ fm = 0) ∨ (mi = 1 ∧ bb_Mi N L fm bT bs fo kd lf fl rt cl T c))
def i_Rel (k : Nat) (u : SX) (v : SY) : Prop :=
  ∃ (N L M Q mv fm : Nat) (T : Nat → Nat → Nat → Prop) (c : Nat → Nat) (mi bT : Int32) (tg bs fo A B C kd lf fl rt cl fi ok se de st tr : Nat → Int32),
    u = (nI N, nI L, nI M, nI Q, nI mv, mi, bT, nI fm, tg, bs, fo) ∧ v = (nI N, nI L, nI M, nI Q, mi, nI mv, nI fm, A, B, C, kd, lf, fl, rt, cl, fi, ok, se, de, st, tr) ∧
    bb_Rl N L M Q mv fm T c mi bT tg bs fo A B C kd lf fl rt cl
theorem i_up {k : Nat} {u : SX} {v : SY} (h : i_Rel k u v) : i_Rel (k + 5) u v := h
theorem bb_clamp (p : Int32) {lo hi : Nat} (h : lo ≤ hi) (hh : hi < 2 ^ 31) : ∃ n, lo ≤ n ∧ n ≤ hi ∧ (∀ post : Int32 → Prop, post (nI n) → wpX_clamp post p (nI lo) (nI hi)) ∧ (∀ (post : Int32 → Prop) (a1 a2 a3 a4 a5 a6 a7 : Int32) (b1 b2 b3 b4 b5 b6 b7 b8 b9 b10 b11 b12 b13 b14 : Nat → Int32), post (nI n) → wpY_clamp post (a1, a2, a3, a4, a5, a6, a7, b1, b2, b3, b4, b5, b6, b7, b8, b9, b10, b11, b12, b13, b14) p (nI lo) (nI hi)) := by
  by_cases h1 : nI lo ≤ p
  · by_cases h2 : p ≤ nI hi
    · obtain ⟨j, hj, e⟩ := nI_of (x := p) (Int32.not_lt.mpr (Int32.le_trans (nI_pos' (by omega)) h1))
      subst e
      have k1 := (nI_leI (by omega) hj).mp h1
      have k2 := (nI_leI hj hh).mp h2
      exact ⟨j, k1, k2, fun _ q => br_t h1 (br_t h2 q), fun _ _ _ _ _ _ _ _ _ _ _ _ _ _ _ _ _ _ _ _ _ _ q => br_t h1 (br_t h2 q)⟩
    · exact ⟨hi, h, Nat.le_refl _, fun _ q => br_t h1 (br_f h2 q), fun _ _ _ _ _ _ _ _ _ _ _ _ _ _ _ _ _ _ _ _ _ _ q => br_t h1 (br_f h2 q)⟩
  · exact ⟨lo, Nat.le_refl _, h, fun _ q => br_f h1 q, fun _ _ _ _ _ _ _ _ _ _ _ _ _ _ _ _ _ _ _ _ _ _ q => br_f h1 q⟩
theorem i_vc0 (k0 : Int32) (k1 : Int32) (k2 : Int32) (k3 : Int32) : wpX_init (fun u => wpY_init (fun v => i_Rel 4 u v) k0 k1 k2 k3) k0 k1 k2 k3 := by
  obtain ⟨N, n1, n2, xN, yN⟩ := bb_clamp k0 (lo := 2) (hi := 12) (by omega) (by omega)
  obtain ⟨L, l1, l2, xL, yL⟩ := bb_clamp k1 (lo := 1) (hi := 3) (by omega) (by omega)
  obtain ⟨M, m1, m2, xM, yM⟩ := bb_clamp k2 (lo := 8) (hi := 32) (by omega) (by omega)
  obtain ⟨Q, q1, q2, xQ, yQ⟩ := bb_clamp k3 (lo := 8) (hi := 32) (by omega) (by omega)
  unfold wpX_init wpY_init
  refine xN _ (xL _ (xM _ (xQ _ (yN _ _ _ _ _ _ _ _ _ _ _ _ _ _ _ _ _ _ _ _ _ _ (yL _ _ _ _ _ _ _ _ _ _ _ _ _ _ _ _ _ _ _ _ _ _ (yM _ _ _ _ _ _ _ _ _ _ _ _ _ _ _ _ _ _ _ _ _ _ (yQ _ _ _ _ _ _ _ _ _ _ _ _ _ _ _ _ _ _ _ _ _ _ ?_)))))))
  refine ⟨N, L, M, Q, 0, 0, fun _ _ _ => False, fun s => s, 0, 0, _, _, _, _, _, _, _, _, _, _, _, _, _, _, _, _, _, rfl, rfl, n1, n2, l2, m2, q2, by omega, by omega, ⟨⟨fun _ _ _ z => z.elim, ?_⟩, ⟨?_, fun _ _ _ z => z.elim, fun _ _ _ z => z.elim⟩, ?_⟩, Or.inl ⟨rfl, rfl⟩⟩
  · intro a s t _ _
    rw [b_0]
    exact ⟨fun z => absurd z (by decide), fun z => z.elim⟩
  · intro m hm
    omega
  · intro i j hi
    omega
