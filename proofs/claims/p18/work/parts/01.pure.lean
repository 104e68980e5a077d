section
def bb_Unt (T : Nat → Nat → Nat → Prop) (F : Nat → Prop) (a : Nat) (G : Nat → Prop) (u : Nat) : Prop :=
  ∀ S : Nat → Prop, (∀ v t, F v → T a v t → G t → S v) → (∀ v w, F v → T 0 v w → S w → S v) → S u
def bb_Div (T : Nat → Nat → Nat → Prop) (F : Nat → Prop) (u : Nat) : Prop :=
  ∃ S : Nat → Prop, S u ∧ ∀ v, S v → F v ∧ ∃ w, T 0 v w ∧ S w
variable {T : Nat → Nat → Nat → Prop} {N : Nat}
theorem bb_unt_b {F G : Nat → Prop} {a v t : Nat} (hF : F v) (hT : T a v t) (hG : G t) : bb_Unt T F a G v := fun _ h1 _ => h1 v t hF hT hG
theorem bb_unt_s {F G : Nat → Prop} {a v w : Nat} (hF : F v) (hT : T 0 v w) (h : bb_Unt T F a G w) : bb_Unt T F a G v := fun S h1 h2 => h2 v w hF hT (h S h1 h2)
theorem bb_unt_ind {F G : Nat → Prop} {a u : Nat} (P : Nat → Prop) (h : bb_Unt T F a G u) (h1 : ∀ v t, F v → T a v t → G t → P v) (h2 : ∀ v w, F v → T 0 v w → bb_Unt T F a G w → P w → P v) : P u :=
  (h (fun v => bb_Unt T F a G v ∧ P v) (fun v t x y z => ⟨bb_unt_b x y z, h1 v t x y z⟩) (fun v w x y z => ⟨bb_unt_s x y z.1, h2 v w x y z.1 z.2⟩)).2
theorem bb_unt_F {F G : Nat → Prop} {a u : Nat} (h : bb_Unt T F a G u) : F u := h F (fun _ _ x _ _ => x) (fun _ _ x _ _ => x)
theorem bb_unt_mono {F G F' G' : Nat → Prop} {a u : Nat} (hF : ∀ x, F x → F' x) (hG : ∀ x, G x → G' x) (h : bb_Unt T F a G u) : bb_Unt T F' a G' u :=
  h _ (fun _ _ x y z => bb_unt_b (hF _ x) y (hG _ z)) (fun _ _ x y z => bb_unt_s (hF _ x) y z)
theorem bb_div_F {F : Nat → Prop} {u : Nat} (h : bb_Div T F u) : F u := by
  obtain ⟨S, hu, hS⟩ := h
  exact (hS u hu).1
theorem bb_div_s {F : Nat → Prop} {u : Nat} (h : bb_Div T F u) : ∃ w, T 0 u w ∧ bb_Div T F w := by
  obtain ⟨S, hu, hS⟩ := h
  obtain ⟨_, w, hw, sw⟩ := hS u hu
  exact ⟨w, hw, S, sw, hS⟩
def bb_Eqv (N : Nat) (R : Nat → Nat → Prop) : Prop :=
  (∀ s, s < N → R s s) ∧ (∀ s t, R s t → R t s) ∧ (∀ s t u, R s t → R t u → R s u) ∧ (∀ s t, R s t → s < N ∧ t < N)
def bb_Stb (T : Nat → Nat → Nat → Prop) (R : Nat → Nat → Prop) : Prop :=
  (∀ s t c a, R s t → (a = 0 → ¬ R s c) → bb_Unt T (R s) a (R c) s → bb_Unt T (R s) a (R c) t) ∧
  (∀ s t, R s t → bb_Div T (R s) s → bb_Div T (R s) t)
def bb_Bis (N : Nat) (T : Nat → Nat → Nat → Prop) (s t : Nat) : Prop := ∃ R, bb_Eqv N R ∧ bb_Stb T R ∧ R s t
theorem bb_cutU {R : Nat → Nat → Prop} {K C : Nat → Prop} {a u : Nat} (hT : ∀ a s t, T a s t → s < N ∧ t < N) (hE : bb_Eqv N R) (hS : bb_Stb T R) (hK : ∀ x y, R x y → K x → K y) (hC : ∀ x y, R x y → C x → C y)
    (h0 : a = 0 → ∀ x, K x → C x → False) (h : bb_Unt T K a C u) : ∀ t, R u t → bb_Unt T K a C t := by
  refine bb_unt_ind (fun u => ∀ t, R u t → bb_Unt T K a C t) h ?_ ?_
  · intro v c hv hm hc t hR
    have h1 : bb_Unt T (R v) a (R c) v := bb_unt_b (hE.1 v (hT _ _ _ hm).1) hm (hE.1 c (hT _ _ _ hm).2)
    have h2 := hS.1 v t c a hR (fun ha hvc => h0 ha c (hK _ _ hvc hv) hc) h1
    exact bb_unt_mono (fun x hx => hK _ _ hx hv) (fun x hx => hC _ _ hx hc) h2
  · intro v w hv hm hw ih t hR
    by_cases e : R v w
    · exact ih t (hE.2.2.1 _ _ _ (hE.2.1 _ _ e) hR)
    · have h1 : bb_Unt T (R v) 0 (R w) v := bb_unt_b (hE.1 v (hT _ _ _ hm).1) hm (hE.1 w (hT _ _ _ hm).2)
      have h2 := hS.1 v t w 0 hR (fun _ => e) h1
      refine bb_unt_ind (fun x => bb_Unt T K a C x) h2 ?_ ?_
      · intro x y hx hxy hy
        exact bb_unt_s (hK _ _ hx hv) hxy (ih y hy)
      · intro x y hx hxy _ ih2
        exact bb_unt_s (hK _ _ hx hv) hxy ih2
theorem bb_leave {R : Nat → Nat → Prop} {K : Nat → Prop} {y : Nat} (hT : ∀ a s t, T a s t → s < N ∧ t < N) (hE : bb_Eqv N R) (hy : y < N) (h : bb_Div T K y) (hn : ¬ bb_Div T (R y) y) :
    ∃ z, ¬ R y z ∧ bb_Div T K z ∧ bb_Unt T (R y) 0 (R z) y := by
  refine Classical.byContradiction fun hc => hn ?_
  refine ⟨fun w => R y w ∧ bb_Div T K w ∧ ∀ z, ¬ R y z → bb_Div T K z → ¬ bb_Unt T (R y) 0 (R z) w, ⟨hE.1 y hy, h, fun z a b c => hc ⟨z, a, b, c⟩⟩, ?_⟩
  intro w hw
  obtain ⟨r, d, g⟩ := hw
  refine ⟨r, ?_⟩
  obtain ⟨w', m, d'⟩ := bb_div_s d
  have hr : R y w' := Classical.byContradiction fun e => g w' e d' (bb_unt_b r m (hE.1 w' (hT _ _ _ m).2))
  exact ⟨w', m, hr, d', fun z a b c => g z a b (bb_unt_s r m c)⟩
theorem bb_cutD {R : Nat → Nat → Prop} {K : Nat → Prop} {u t : Nat} (hT : ∀ a s t, T a s t → s < N ∧ t < N) (hE : bb_Eqv N R) (hS : bb_Stb T R) (hK : ∀ x y, R x y → K x → K y)
    (h : bb_Div T K u) (hR : R u t) : bb_Div T K t := by
  refine ⟨fun x => ∃ y, R y x ∧ bb_Div T K y, ⟨u, hR, h⟩, ?_⟩
  intro x hx
  obtain ⟨y, r, d⟩ := hx
  refine ⟨hK _ _ r (bb_div_F d), ?_⟩
  have hyN := (hE.2.2.2 _ _ r).1
  by_cases e : bb_Div T (R y) y
  · obtain ⟨x', m, d'⟩ := bb_div_s (hS.2 y x r e)
    exact ⟨x', m, y, bb_div_F d', d⟩
  · obtain ⟨z, nz, dz, uz⟩ := bb_leave hT hE hyN d e
    have h2 := hS.1 y x z 0 r (fun _ => nz) uz
    refine bb_unt_ind (fun x => ∃ w, T 0 x w ∧ ∃ y, R y w ∧ bb_Div T K y) h2 ?_ ?_
    · intro v w _ m q
      exact ⟨w, m, z, q, dz⟩
    · intro v w _ m q _
      exact ⟨w, m, y, bb_unt_F q, d⟩
theorem bb_ph : ∀ (n m : Nat) (f : Nat → Nat), (∀ i, i < m → f i < n) → (∀ i j, i < m → j < m → f i = f j → i = j) → m ≤ n := by
  intro n
  induction n with
  | zero => intro m f hf _; exact Nat.le_of_not_lt fun h => absurd (hf 0 h) (Nat.not_lt_zero _)
  | succ n ih =>
    intro m f hf hi
    cases m with
    | zero => exact Nat.zero_le _
    | succ m =>
      refine Nat.succ_le_succ (ih m (fun i => if f i = n then f m else f i) ?_ ?_)
      · intro i h
        have h1 := hf i (by omega)
        have h2 := hf m (by omega)
        split
        · rename_i e
          by_cases e2 : f m = n
          · have := hi i m (by omega) (by omega) (e.trans e2.symm)
            omega
          · omega
        · omega
      · intro i j h1 h2
        intro e
        have a1 := hi i m (by omega) (by omega)
        have a2 := hi j m (by omega) (by omega)
        have a3 := hi i j (by omega) (by omega)
        split at e
        · split at e
          · rename_i e1 e2
            exact a3 (e1.trans e2.symm)
          · have := a2 e.symm
            omega
        · split at e
          · have := a1 e
            omega
          · exact a3 e
def bb_Par (N m : Nat) (B : Nat → Nat → Prop) : Prop :=
  (∀ i, i < m → ∃ s, B i s) ∧ (∀ i s, i < m → B i s → s < N) ∧ (∀ i j s, i < m → j < m → B i s → B j s → i = j) ∧ (∀ s, s < N → ∃ i, i < m ∧ B i s)
theorem bb_par_le {m : Nat} {B : Nat → Nat → Prop} (h : bb_Par N m B) : m ≤ N := by
  refine bb_ph N m (fun i => if hi : i < m then Classical.choose (h.1 i hi) else 0) ?_ ?_
  · intro i hi
    rw [dif_pos hi]
    exact h.2.1 i _ hi (Classical.choose_spec (h.1 i hi))
  · intro i j hi hj
    rw [dif_pos hi, dif_pos hj]
    intro e
    have h1 := Classical.choose_spec (h.1 i hi)
    have h2 := Classical.choose_spec (h.1 j hj)
    rw [e] at h1
    exact h.2.2.1 i j _ hi hj h1 h2
def bb_Co (N : Nat) (T : Nat → Nat → Nat → Prop) (m : Nat) (B : Nat → Nat → Prop) : Prop :=
  ∀ R, bb_Eqv N R → bb_Stb T R → ∀ i s t, i < m → R s t → B i s → B i t
def bb_cutB (m k : Nat) (B : Nat → Nat → Prop) (U : Nat → Prop) : Nat → Nat → Prop := fun i s => if i = m then B k s ∧ ¬ U s else if i = k then B k s ∧ U s else B i s
theorem bb_par_cut {m k : Nat} {B : Nat → Nat → Prop} {U : Nat → Prop} (h : bb_Par N m B) (hk : k < m) (hi : ∃ s, B k s ∧ U s) (ho : ∃ s, B k s ∧ ¬ U s) : bb_Par N (m + 1) (bb_cutB m k B U) := by
  obtain ⟨h1, h2, h3, h4⟩ := h
  have key : ∀ i s, i < m + 1 → bb_cutB m k B U i s → (i = m ∧ B k s ∧ ¬ U s) ∨ (i < m ∧ i = k ∧ B k s ∧ U s) ∨ (i < m ∧ i ≠ k ∧ B i s) := by
    intro i s hi hb
    unfold bb_cutB at hb
    split at hb
    · exact Or.inl ⟨‹_›, hb⟩
    · split at hb
      · exact Or.inr (Or.inl ⟨by omega, ‹_›, hb⟩)
      · exact Or.inr (Or.inr ⟨by omega, ‹_›, hb⟩)
  refine ⟨?_, ?_, ?_, ?_⟩
  · intro i him
    unfold bb_cutB
    split
    · exact ho
    · split
      · exact hi
      · exact h1 i (by omega)
  · intro i s him hb
    rcases key i s him hb with ⟨_, q, _⟩ | ⟨_, _, q, _⟩ | ⟨x, _, q⟩
    · exact h2 k s hk q
    · exact h2 k s hk q
    · exact h2 i s x q
  · intro i j s him hjm hbi hbj
    rcases key i s him hbi with ⟨e1, q1, n1⟩ | ⟨l1, e1, q1, n1⟩ | ⟨l1, e1, q1⟩ <;> rcases key j s hjm hbj with ⟨e2, q2, n2⟩ | ⟨l2, e2, q2, n2⟩ | ⟨l2, e2, q2⟩
    · omega
    · exact absurd n2 n1
    · exact absurd (h3 j k s l2 hk q2 q1) e2
    · exact absurd n1 n2
    · omega
    · exact absurd (h3 j k s l2 hk q2 q1) e2
    · exact absurd (h3 i k s l1 hk q1 q2) e1
    · exact absurd (h3 i k s l1 hk q1 q2) e1
    · exact h3 i j s l1 l2 q1 q2
  · intro s hs
    obtain ⟨i, him, hb⟩ := h4 s hs
    by_cases e : i = k
    · subst e
      by_cases u : U s
      · refine ⟨i, by omega, ?_⟩
        unfold bb_cutB
        rw [if_neg (by omega), if_pos rfl]
        exact ⟨hb, u⟩
      · refine ⟨m, by omega, ?_⟩
        unfold bb_cutB
        rw [if_pos rfl]
        exact ⟨hb, u⟩
    · refine ⟨i, by omega, ?_⟩
      unfold bb_cutB
      rw [if_neg (by omega), if_neg e]
      exact hb
theorem bb_co_cut {m k : Nat} {B : Nat → Nat → Prop} {U : Nat → Prop} (h : bb_Co N T m B) (hk : k < m) (hU : ∀ R, bb_Eqv N R → bb_Stb T R → ∀ s t, R s t → B k s → U s → U t) : bb_Co N T (m + 1) (bb_cutB m k B U) := by
  intro R hE hS i s t hi hR hb
  have hst := hE.2.1 _ _ hR
  unfold bb_cutB at hb ⊢
  split at hb
  · rw [if_pos ‹_›]
    have hbt := h R hE hS k s t hk hR hb.1
    exact ⟨hbt, fun ut => hb.2 (hU R hE hS t s hst hbt ut)⟩
  · rw [if_neg ‹_›]
    split at hb
    · rw [if_pos ‹_›]
      exact ⟨h R hE hS k s t hk hR hb.1, hU R hE hS s t hR hb.1 hb.2⟩
    · rw [if_neg ‹_›]
      exact h R hE hS i s t (by omega) hR hb
def bb_Fix (T : Nat → Nat → Nat → Prop) (m : Nat) (B : Nat → Nat → Prop) (k : Nat) : Prop :=
  (∀ s t, B k s → B k t → bb_Div T (B k) s → bb_Div T (B k) t) ∧
  (∀ a c, c < m → (a = 0 → c ≠ k) → ∀ s t, B k s → B k t → bb_Unt T (B k) a (B c) s → bb_Unt T (B k) a (B c) t)
def bb_PR (m : Nat) (B : Nat → Nat → Prop) (s t : Nat) : Prop := ∃ i, i < m ∧ B i s ∧ B i t
theorem bb_pr_eqv {m : Nat} {B : Nat → Nat → Prop} (h : bb_Par N m B) : bb_Eqv N (bb_PR m B) := by
  obtain ⟨h1, h2, h3, h4⟩ := h
  refine ⟨?_, ?_, ?_, ?_⟩
  · intro s hs
    obtain ⟨i, hi, hb⟩ := h4 s hs
    exact ⟨i, hi, hb, hb⟩
  · intro s t ⟨i, hi, a, b⟩
    exact ⟨i, hi, b, a⟩
  · intro s t u ⟨i, hi, a, b⟩ ⟨j, hj, c, d⟩
    cases h3 i j t hi hj b c
    exact ⟨i, hi, a, d⟩
  · intro s t ⟨i, hi, a, b⟩
    exact ⟨h2 i s hi a, h2 i t hi b⟩
theorem bb_pr_cls {m k s : Nat} {B : Nat → Nat → Prop} (h : bb_Par N m B) (hk : k < m) (hs : B k s) : bb_PR m B s = B k := by
  funext t
  refine propext ⟨?_, fun q => ⟨k, hk, hs, q⟩⟩
  intro ⟨i, hi, a, b⟩
  cases h.2.2.1 i k s hi hk a hs
  exact b
theorem bb_pr_stb {m : Nat} {B : Nat → Nat → Prop} (h : bb_Par N m B) (hT : ∀ a s t, T a s t → s < N ∧ t < N) (hF : ∀ k, k < m → bb_Fix T m B k) : bb_Stb T (bb_PR m B) := by
  refine ⟨?_, ?_⟩
  · intro s t c a ⟨k, hk, hs, ht⟩ h0 hu
    rw [bb_pr_cls h hk hs] at hu ⊢
    by_cases hc : c < N
    · obtain ⟨j, hj, hcj⟩ := h.2.2.2 c hc
      rw [bb_pr_cls h hj hcj] at hu ⊢
      refine (hF k hk).2 a j hj ?_ s t hs ht hu
      intro ha e
      subst e
      exact h0 ha ⟨j, hj, hs, hcj⟩
    · refine (hu (fun _ => False) ?_ ?_).elim
      · intro v x _ _ q
        exact hc (bb_pr_eqv h |>.2.2.2 _ _ q).1
      · intro v w _ _ q
        exact q
  · intro s t ⟨k, hk, hs, ht⟩ hd
    rw [bb_pr_cls h hk hs] at hd ⊢
    exact (hF k hk).1 s t hs ht hd
theorem bb_is_bis {m : Nat} {B : Nat → Nat → Prop} (h : bb_Par N m B) (hT : ∀ a s t, T a s t → s < N ∧ t < N) (hC : bb_Co N T m B) (hF : ∀ k, k < m → bb_Fix T m B k) (s t : Nat) : bb_PR m B s t ↔ bb_Bis N T s t := by
  refine ⟨fun q => ⟨bb_PR m B, bb_pr_eqv h, bb_pr_stb h hT hF, q⟩, ?_⟩
  intro ⟨R, hE, hS, r⟩
  obtain ⟨i, hi, hb⟩ := h.2.2.2 s (hE.2.2.2 _ _ r).1
  exact ⟨i, hi, hb, hC R hE hS i s t hi r hb⟩
def bb_cn (p : Nat → Bool) : Nat → Nat
  | 0 => 0
  | n + 1 => bb_cn p n + (if p n = true then 1 else 0)
theorem bb_cn_le (p : Nat → Bool) : ∀ n, bb_cn p n ≤ n
  | 0 => Nat.le_refl 0
  | n + 1 => by
    have := bb_cn_le p n
    show bb_cn p n + (if p n = true then 1 else 0) ≤ n + 1
    split <;> omega
theorem bb_cn_mono {p q : Nat → Bool} : ∀ n, (∀ i, i < n → p i = true → q i = true) → bb_cn p n ≤ bb_cn q n
  | 0, _ => Nat.le_refl 0
  | n + 1, h => by
    have := bb_cn_mono n (fun i hi => h i (by omega))
    have h2 := h n (by omega)
    show bb_cn p n + (if p n = true then 1 else 0) ≤ bb_cn q n + (if q n = true then 1 else 0)
    by_cases e : p n = true
    · rw [if_pos e, if_pos (h2 e)]; omega
    · rw [if_neg e]; omega
theorem bb_cn_lt {p q : Nat → Bool} : ∀ n, (∀ i, i < n → p i = true → q i = true) → (∃ i, i < n ∧ p i = false ∧ q i = true) → bb_cn p n < bb_cn q n
  | 0, _, h => by obtain ⟨i, hi, _⟩ := h; omega
  | n + 1, h, hx => by
    have hm := bb_cn_mono n (fun i hi => h i (by omega))
    have h2 := h n (by omega)
    show bb_cn p n + (if p n = true then 1 else 0) < bb_cn q n + (if q n = true then 1 else 0)
    obtain ⟨i, hi, a, b⟩ := hx
    by_cases e : i = n
    · subst e
      rw [if_pos b, a]
      simp
      omega
    · have hl := bb_cn_lt n (fun i hi => h i (by omega)) ⟨i, by omega, a, b⟩
      by_cases e : p n = true
      · rw [if_pos e, if_pos (h2 e)]; omega
      · rw [if_neg e]; omega
theorem bb_cn_all {p : Nat → Bool} : ∀ n, n ≤ bb_cn p n → ∀ i, i < n → p i = true
  | 0, _, i, hi => by omega
  | n + 1, h, i, hi => by
    have hl := bb_cn_le p n
    have h' : n + 1 ≤ bb_cn p n + (if p n = true then 1 else 0) := h
    by_cases e : p n = true
    · rw [if_pos e] at h'
      by_cases e2 : i = n
      · rw [e2]; exact e
      · exact bb_cn_all n (by omega) i (by omega)
    · rw [if_neg e] at h'; omega
theorem bb_cn_none {p : Nat → Bool} : ∀ n, bb_cn p n = 0 → ∀ i, i < n → p i = false
  | 0, _, i, hi => by omega
  | n + 1, h, i, hi => by
    have h' : bb_cn p n + (if p n = true then 1 else 0) = 0 := h
    by_cases e : p n = true
    · rw [if_pos e] at h'; omega
    · rw [if_neg e] at h'
      by_cases e2 : i = n
      · rw [e2]; exact Bool.eq_false_iff.mpr e
      · exact bb_cn_none n (by omega) i (by omega)
def bb_IU (N : Nat) (T : Nat → Nat → Nat → Prop) (F : Nat → Prop) (a : Nat) (G : Nat → Prop) (i : Nat) (p : Nat → Bool) : Prop :=
  (∀ s, p s = true → bb_Unt T F a G s) ∧ (∀ s t, F s → T a s t → G t → p s = true) ∧ ((∀ s w, F s → T 0 s w → p w = true → p s = true) ∨ i ≤ bb_cn p N)
theorem bb_IU_0 {F G : Nat → Prop} {a : Nat} {p : Nat → Bool} (h : ∀ s, p s = true ↔ F s ∧ ∃ t, T a s t ∧ G t) : bb_IU N T F a G 0 p :=
  ⟨fun s q => by
    obtain ⟨f, t, m, g⟩ := (h s).mp q
    exact bb_unt_b f m g, fun s t f m g => (h s).mpr ⟨f, t, m, g⟩, Or.inr (Nat.zero_le _)⟩
theorem bb_IU_s {F G : Nat → Prop} {a i : Nat} {p p' : Nat → Bool} (hT : ∀ a s t, T a s t → s < N ∧ t < N) (h : bb_IU N T F a G i p) (e : ∀ s, p' s = true ↔ p s = true ∨ (F s ∧ ∃ w, T 0 s w ∧ p w = true)) : bb_IU N T F a G (i + 1) p' := by
  obtain ⟨h1, h2, h3⟩ := h
  refine ⟨?_, fun s t f m g => (e s).mpr (Or.inl (h2 s t f m g)), ?_⟩
  · intro s q
    rcases (e s).mp q with q | ⟨f, w, m, q⟩
    · exact h1 s q
    · exact bb_unt_s f m (h1 w q)
  · by_cases c : ∀ s w, F s → T 0 s w → p w = true → p s = true
    · refine Or.inl fun s w f m q => (e s).mpr (Or.inl ?_)
      rcases (e w).mp q with q | ⟨f', w', m', q⟩
      · exact c s w f m q
      · exact c s w f m (c w w' f' m' q)
    · have h4 := h3.resolve_left c
      refine Or.inr (Nat.lt_of_le_of_lt h4 (bb_cn_lt N (fun s _ q => (e s).mpr (Or.inl q)) ?_))
      refine Classical.byContradiction fun hn => c fun s w f m q => ?_
      refine Classical.byContradiction fun hp => hn ⟨s, (hT _ _ _ m).1, Bool.eq_false_iff.mpr hp, (e s).mpr (Or.inr ⟨f, w, m, q⟩)⟩
theorem bb_IU_N {F G : Nat → Prop} {a : Nat} {p : Nat → Bool} (hT : ∀ a s t, T a s t → s < N ∧ t < N) (h : bb_IU N T F a G N p) (s : Nat) : p s = true ↔ bb_Unt T F a G s := by
  obtain ⟨h1, h2, h3⟩ := h
  refine ⟨h1 s, fun q => ?_⟩
  rcases h3 with c | c
  · exact q (fun s => p s = true) h2 c
  · exact q (fun s => p s = true) h2 fun v w _ m _ => bb_cn_all N c v (hT _ _ _ m).1
def bb_ID (N : Nat) (T : Nat → Nat → Nat → Prop) (F : Nat → Prop) (i : Nat) (p : Nat → Bool) : Prop :=
  (∀ s, p s = true → F s ∧ s < N) ∧ (∀ s, bb_Div T F s → p s = true) ∧ ((∀ s, p s = true → ∃ w, T 0 s w ∧ p w = true) ∨ bb_cn p N + i ≤ N)
theorem bb_ID_0 {F : Nat → Prop} {p : Nat → Bool} (h : ∀ s, p s = true ↔ F s) (hN : ∀ s, F s → s < N) : bb_ID N T F 0 p :=
  ⟨fun s q => ⟨(h s).mp q, hN s ((h s).mp q)⟩, fun s d => (h s).mpr (bb_div_F d), Or.inr (bb_cn_le p N)⟩
theorem bb_ID_s {F : Nat → Prop} {i : Nat} {p p' : Nat → Bool} (h : bb_ID N T F i p) (e : ∀ s, p' s = true ↔ p s = true ∧ ∃ w, T 0 s w ∧ p w = true) : bb_ID N T F (i + 1) p' := by
  obtain ⟨h1, h2, h3⟩ := h
  refine ⟨fun s q => h1 s ((e s).mp q).1, ?_, ?_⟩
  · intro s d
    obtain ⟨w, m, d'⟩ := bb_div_s d
    exact (e s).mpr ⟨h2 s d, w, m, h2 w d'⟩
  · by_cases c : ∀ s, p s = true → ∃ w, T 0 s w ∧ p w = true
    · refine Or.inl fun s q => ?_
      obtain ⟨w, m, q'⟩ := c s ((e s).mp q).1
      exact ⟨w, m, (e w).mpr ⟨q', c w q'⟩⟩
    · have h4 := h3.resolve_left c
      refine Or.inr ?_
      have : bb_cn p' N < bb_cn p N := by
        refine bb_cn_lt N (fun s _ q => ((e s).mp q).1) ?_
        refine Classical.byContradiction fun hn => c fun s q => ?_
        refine Classical.byContradiction fun hw => hn ⟨s, (h1 s q).2, Bool.eq_false_iff.mpr fun q' => hw ((e s).mp q').2, q⟩
      omega
theorem bb_ID_N {F : Nat → Prop} {p : Nat → Bool} (h : bb_ID N T F N p) (s : Nat) : p s = true ↔ bb_Div T F s := by
  obtain ⟨h1, h2, h3⟩ := h
  refine ⟨fun q => ?_, h2 s⟩
  rcases h3 with c | c
  · exact ⟨fun s => p s = true, q, fun v r => ⟨(h1 v r).1, c v r⟩⟩
  · have := bb_cn_none (p := p) N (by omega) s (h1 s q).2
    rw [this] at q
    exact absurd q (by decide)
end
