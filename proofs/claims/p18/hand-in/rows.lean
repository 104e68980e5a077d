section
section
def bb_Unt (T : Nat → Nat → Nat → Prop) (F : Nat → Prop) (a : Nat) (G : Nat → Prop) (u : Nat) : Prop :=
  ∀ S : Nat → Prop, (∀ v t, F v → T a v t → G t → S v) → (∀ v w, F v → T 0 v w → S w → S v) → S u
def bb_Div (T : Nat → Nat → Nat → Prop) (F : Nat → Prop) (u : Nat) : Prop :=
  ∃ S : Nat → Prop, S u ∧ ∀ v, S v → F v ∧ ∃ w, T 0 v w ∧ S w
variable {T : Nat → Nat → Nat → Prop} {N : Nat}
theorem bb_unt_b {F G : Nat → Prop} {a v t : Nat} (hF : F v) (hT : T a v t) (hG : G t) : bb_Unt T F a G v := fun _ h1 _ => h1 v t hF hT hG
theorem bb_unt_s {F G : Nat → Prop} {a v w : Nat} (hF : F v) (hT : T 0 v w) (h : bb_Unt T F a G w) : bb_Unt T F a G v := fun S h1 h2 => h2 v w hF hT (h S h1 h2)
theorem bb_unt_ind {F G : Nat → Prop} {a u : Nat} (P : Nat → Prop) (h : bb_Unt T F a G u) (h1 : ∀ v t, F v → T a v t → G t → P v) (h2 : ∀ v w, F v → T 0 v w → bb_Unt T F a G w → P w → P v) : P u :=
  (h (fun v => bb_Unt T F a G v ∧ P v) (fun v t x y z => ⟨bb_unt_b x y z, h1 v t x y z⟩) (fun v w x y z => ⟨bb_unt_s x y z.1, h2 v w x y z.1 z.2⟩)).2
theorem bb_unt_F {F G : Nat → Prop} {a u : Nat} (h : bb_Unt T F a G u) : F u := h F (fun _ _ x _ _ => x) (fun _ _ x _ _ => x)
theorem bb_unt_mono {F G F' G' : Nat → Prop} {a u : Nat} (hF : ∀ x, F x → F' x) (hG : ∀ x, G x → G' x) (h : bb_Unt T F a G u) : bb_Unt T F' a G' u :=
  h _ (fun _ _ x y z => bb_unt_b (hF _ x) y (hG _ z)) (fun _ _ x y z => bb_unt_s (hF _ x) y z)
theorem bb_div_F {F : Nat → Prop} {u : Nat} (h : bb_Div T F u) : F u := by
  obtain ⟨S, hu, hS⟩ := h
  exact (hS u hu).1
theorem bb_div_s {F : Nat → Prop} {u : Nat} (h : bb_Div T F u) : ∃ w, T 0 u w ∧ bb_Div T F w := by
  obtain ⟨S, hu, hS⟩ := h
  obtain ⟨_, w, hw, sw⟩ := hS u hu
  exact ⟨w, hw, S, sw, hS⟩
def bb_Eqv (N : Nat) (R : Nat → Nat → Prop) : Prop :=
  (∀ s, s < N → R s s) ∧ (∀ s t, R s t → R t s) ∧ (∀ s t u, R s t → R t u → R s u) ∧ (∀ s t, R s t → s < N ∧ t < N)
def bb_Stb (T : Nat → Nat → Nat → Prop) (R : Nat → Nat → Prop) : Prop :=
  (∀ s t c a, R s t → (a = 0 → ¬ R s c) → bb_Unt T (R s) a (R c) s → bb_Unt T (R s) a (R c) t) ∧
  (∀ s t, R s t → bb_Div T (R s) s → bb_Div T (R s) t)
def bb_Bis (N : Nat) (T : Nat → Nat → Nat → Prop) (s t : Nat) : Prop := ∃ R, bb_Eqv N R ∧ bb_Stb T R ∧ R s t
theorem bb_cutU {R : Nat → Nat → Prop} {K C : Nat → Prop} {a u : Nat} (hT : ∀ a s t, T a s t → s < N ∧ t < N) (hE : bb_Eqv N R) (hS : bb_Stb T R) (hK : ∀ x y, R x y → K x → K y) (hC : ∀ x y, R x y → C x → C y)
    (h0 : a = 0 → ∀ x, K x → C x → False) (h : bb_Unt T K a C u) : ∀ t, R u t → bb_Unt T K a C t := by
  refine bb_unt_ind (fun u => ∀ t, R u t → bb_Unt T K a C t) h ?_ ?_
  · intro v c hv hm hc t hR
    have h1 : bb_Unt T (R v) a (R c) v := bb_unt_b (hE.1 v (hT _ _ _ hm).1) hm (hE.1 c (hT _ _ _ hm).2)
    have h2 := hS.1 v t c a hR (fun ha hvc => h0 ha c (hK _ _ hvc hv) hc) h1
    exact bb_unt_mono (fun x hx => hK _ _ hx hv) (fun x hx => hC _ _ hx hc) h2
  · intro v w hv hm hw ih t hR
    by_cases e : R v w
    · exact ih t (hE.2.2.1 _ _ _ (hE.2.1 _ _ e) hR)
    · have h1 : bb_Unt T (R v) 0 (R w) v := bb_unt_b (hE.1 v (hT _ _ _ hm).1) hm (hE.1 w (hT _ _ _ hm).2)
      have h2 := hS.1 v t w 0 hR (fun _ => e) h1
      refine bb_unt_ind (fun x => bb_Unt T K a C x) h2 ?_ ?_
      · intro x y hx hxy hy
        exact bb_unt_s (hK _ _ hx hv) hxy (ih y hy)
      · intro x y hx hxy _ ih2
        exact bb_unt_s (hK _ _ hx hv) hxy ih2
theorem bb_leave {R : Nat → Nat → Prop} {K : Nat → Prop} {y : Nat} (hT : ∀ a s t, T a s t → s < N ∧ t < N) (hE : bb_Eqv N R) (hy : y < N) (h : bb_Div T K y) (hn : ¬ bb_Div T (R y) y) :
    ∃ z, ¬ R y z ∧ bb_Div T K z ∧ bb_Unt T (R y) 0 (R z) y := by
  refine Classical.byContradiction fun hc => hn ?_
  refine ⟨fun w => R y w ∧ bb_Div T K w ∧ ∀ z, ¬ R y z → bb_Div T K z → ¬ bb_Unt T (R y) 0 (R z) w, ⟨hE.1 y hy, h, fun z a b c => hc ⟨z, a, b, c⟩⟩, ?_⟩
  intro w hw
  obtain ⟨r, d, g⟩ := hw
  refine ⟨r, ?_⟩
  obtain ⟨w', m, d'⟩ := bb_div_s d
  have hr : R y w' := Classical.byContradiction fun e => g w' e d' (bb_unt_b r m (hE.1 w' (hT _ _ _ m).2))
  exact ⟨w', m, hr, d', fun z a b c => g z a b (bb_unt_s r m c)⟩
theorem bb_cutD {R : Nat → Nat → Prop} {K : Nat → Prop} {u t : Nat} (hT : ∀ a s t, T a s t → s < N ∧ t < N) (hE : bb_Eqv N R) (hS : bb_Stb T R) (hK : ∀ x y, R x y → K x → K y)
    (h : bb_Div T K u) (hR : R u t) : bb_Div T K t := by
  refine ⟨fun x => ∃ y, R y x ∧ bb_Div T K y, ⟨u, hR, h⟩, ?_⟩
  intro x hx
  obtain ⟨y, r, d⟩ := hx
  refine ⟨hK _ _ r (bb_div_F d), ?_⟩
  have hyN := (hE.2.2.2 _ _ r).1
  by_cases e : bb_Div T (R y) y
  · obtain ⟨x', m, d'⟩ := bb_div_s (hS.2 y x r e)
    exact ⟨x', m, y, bb_div_F d', d⟩
  · obtain ⟨z, nz, dz, uz⟩ := bb_leave hT hE hyN d e
    have h2 := hS.1 y x z 0 r (fun _ => nz) uz
    refine bb_unt_ind (fun x => ∃ w, T 0 x w ∧ ∃ y, R y w ∧ bb_Div T K y) h2 ?_ ?_
    · intro v w _ m q
      exact ⟨w, m, z, q, dz⟩
    · intro v w _ m q _
      exact ⟨w, m, y, bb_unt_F q, d⟩
theorem bb_ph : ∀ (n m : Nat) (f : Nat → Nat), (∀ i, i < m → f i < n) → (∀ i j, i < m → j < m → f i = f j → i = j) → m ≤ n := by
  intro n
  induction n with
  | zero => intro m f hf _; exact Nat.le_of_not_lt fun h => absurd (hf 0 h) (Nat.not_lt_zero _)
  | succ n ih =>
    intro m f hf hi
    cases m with
    | zero => exact Nat.zero_le _
    | succ m =>
      refine Nat.succ_le_succ (ih m (fun i => if f i = n then f m else f i) ?_ ?_)
      · intro i h
        have h1 := hf i (by omega)
        have h2 := hf m (by omega)
        split
        · rename_i e
          by_cases e2 : f m = n
          · have := hi i m (by omega) (by omega) (e.trans e2.symm)
            omega
          · omega
        · omega
      · intro i j h1 h2
        intro e
        have a1 := hi i m (by omega) (by omega)
        have a2 := hi j m (by omega) (by omega)
        have a3 := hi i j (by omega) (by omega)
        split at e
        · split at e
          · rename_i e1 e2
            exact a3 (e1.trans e2.symm)
          · have := a2 e.symm
            omega
        · split at e
          · have := a1 e
            omega
          · exact a3 e
def bb_Par (N m : Nat) (B : Nat → Nat → Prop) : Prop :=
  (∀ i, i < m → ∃ s, B i s) ∧ (∀ i s, i < m → B i s → s < N) ∧ (∀ i j s, i < m → j < m → B i s → B j s → i = j) ∧ (∀ s, s < N → ∃ i, i < m ∧ B i s)
theorem bb_par_le {m : Nat} {B : Nat → Nat → Prop} (h : bb_Par N m B) : m ≤ N := by
  refine bb_ph N m (fun i => if hi : i < m then Classical.choose (h.1 i hi) else 0) ?_ ?_
  · intro i hi
    rw [dif_pos hi]
    exact h.2.1 i _ hi (Classical.choose_spec (h.1 i hi))
  · intro i j hi hj
    rw [dif_pos hi, dif_pos hj]
    intro e
    have h1 := Classical.choose_spec (h.1 i hi)
    have h2 := Classical.choose_spec (h.1 j hj)
    rw [e] at h1
    exact h.2.2.1 i j _ hi hj h1 h2
def bb_Co (N : Nat) (T : Nat → Nat → Nat → Prop) (m : Nat) (B : Nat → Nat → Prop) : Prop :=
  ∀ R, bb_Eqv N R → bb_Stb T R → ∀ i s t, i < m → R s t → B i s → B i t
def bb_cutB (m k : Nat) (B : Nat → Nat → Prop) (U : Nat → Prop) : Nat → Nat → Prop := fun i s => if i = m then B k s ∧ ¬ U s else if i = k then B k s ∧ U s else B i s
theorem bb_par_cut {m k : Nat} {B : Nat → Nat → Prop} {U : Nat → Prop} (h : bb_Par N m B) (hk : k < m) (hi : ∃ s, B k s ∧ U s) (ho : ∃ s, B k s ∧ ¬ U s) : bb_Par N (m + 1) (bb_cutB m k B U) := by
  obtain ⟨h1, h2, h3, h4⟩ := h
  have key : ∀ i s, i < m + 1 → bb_cutB m k B U i s → (i = m ∧ B k s ∧ ¬ U s) ∨ (i < m ∧ i = k ∧ B k s ∧ U s) ∨ (i < m ∧ i ≠ k ∧ B i s) := by
    intro i s hi hb
    unfold bb_cutB at hb
    split at hb
    · exact Or.inl ⟨‹_›, hb⟩
    · split at hb
      · exact Or.inr (Or.inl ⟨by omega, ‹_›, hb⟩)
      · exact Or.inr (Or.inr ⟨by omega, ‹_›, hb⟩)
  refine ⟨?_, ?_, ?_, ?_⟩
  · intro i him
    unfold bb_cutB
    split
    · exact ho
    · split
      · exact hi
      · exact h1 i (by omega)
  · intro i s him hb
    rcases key i s him hb with ⟨_, q, _⟩ | ⟨_, _, q, _⟩ | ⟨x, _, q⟩
    · exact h2 k s hk q
    · exact h2 k s hk q
    · exact h2 i s x q
  · intro i j s him hjm hbi hbj
    rcases key i s him hbi with ⟨e1, q1, n1⟩ | ⟨l1, e1, q1, n1⟩ | ⟨l1, e1, q1⟩ <;> rcases key j s hjm hbj with ⟨e2, q2, n2⟩ | ⟨l2, e2, q2, n2⟩ | ⟨l2, e2, q2⟩
    · omega
    · exact absurd n2 n1
    · exact absurd (h3 j k s l2 hk q2 q1) e2
    · exact absurd n1 n2
    · omega
    · exact absurd (h3 j k s l2 hk q2 q1) e2
    · exact absurd (h3 i k s l1 hk q1 q2) e1
    · exact absurd (h3 i k s l1 hk q1 q2) e1
    · exact h3 i j s l1 l2 q1 q2
  · intro s hs
    obtain ⟨i, him, hb⟩ := h4 s hs
    by_cases e : i = k
    · subst e
      by_cases u : U s
      · refine ⟨i, by omega, ?_⟩
        unfold bb_cutB
        rw [if_neg (by omega), if_pos rfl]
        exact ⟨hb, u⟩
      · refine ⟨m, by omega, ?_⟩
        unfold bb_cutB
        rw [if_pos rfl]
        exact ⟨hb, u⟩
    · refine ⟨i, by omega, ?_⟩
      unfold bb_cutB
      rw [if_neg (by omega), if_neg e]
      exact hb
theorem bb_co_cut {m k : Nat} {B : Nat → Nat → Prop} {U : Nat → Prop} (h : bb_Co N T m B) (hk : k < m) (hU : ∀ R, bb_Eqv N R → bb_Stb T R → ∀ s t, R s t → B k s → U s → U t) : bb_Co N T (m + 1) (bb_cutB m k B U) := by
  intro R hE hS i s t hi hR hb
  have hst := hE.2.1 _ _ hR
  unfold bb_cutB at hb ⊢
  split at hb
  · rw [if_pos ‹_›]
    have hbt := h R hE hS k s t hk hR hb.1
    exact ⟨hbt, fun ut => hb.2 (hU R hE hS t s hst hbt ut)⟩
  · rw [if_neg ‹_›]
    split at hb
    · rw [if_pos ‹_›]
      exact ⟨h R hE hS k s t hk hR hb.1, hU R hE hS s t hR hb.1 hb.2⟩
    · rw [if_neg ‹_›]
      exact h R hE hS i s t (by omega) hR hb
def bb_Fix (T : Nat → Nat → Nat → Prop) (m : Nat) (B : Nat → Nat → Prop) (k : Nat) : Prop :=
  (∀ s t, B k s → B k t → bb_Div T (B k) s → bb_Div T (B k) t) ∧
  (∀ a c, c < m → (a = 0 → c ≠ k) → ∀ s t, B k s → B k t → bb_Unt T (B k) a (B c) s → bb_Unt T (B k) a (B c) t)
def bb_PR (m : Nat) (B : Nat → Nat → Prop) (s t : Nat) : Prop := ∃ i, i < m ∧ B i s ∧ B i t
theorem bb_pr_eqv {m : Nat} {B : Nat → Nat → Prop} (h : bb_Par N m B) : bb_Eqv N (bb_PR m B) := by
  obtain ⟨h1, h2, h3, h4⟩ := h
  refine ⟨?_, ?_, ?_, ?_⟩
  · intro s hs
    obtain ⟨i, hi, hb⟩ := h4 s hs
    exact ⟨i, hi, hb, hb⟩
  · intro s t ⟨i, hi, a, b⟩
    exact ⟨i, hi, b, a⟩
  · intro s t u ⟨i, hi, a, b⟩ ⟨j, hj, c, d⟩
    cases h3 i j t hi hj b c
    exact ⟨i, hi, a, d⟩
  · intro s t ⟨i, hi, a, b⟩
    exact ⟨h2 i s hi a, h2 i t hi b⟩
theorem bb_pr_cls {m k s : Nat} {B : Nat → Nat → Prop} (h : bb_Par N m B) (hk : k < m) (hs : B k s) : bb_PR m B s = B k := by
  funext t
  refine propext ⟨?_, fun q => ⟨k, hk, hs, q⟩⟩
  intro ⟨i, hi, a, b⟩
  cases h.2.2.1 i k s hi hk a hs
  exact b
theorem bb_pr_stb {m : Nat} {B : Nat → Nat → Prop} (h : bb_Par N m B) (hT : ∀ a s t, T a s t → s < N ∧ t < N) (hF : ∀ k, k < m → bb_Fix T m B k) : bb_Stb T (bb_PR m B) := by
  refine ⟨?_, ?_⟩
  · intro s t c a ⟨k, hk, hs, ht⟩ h0 hu
    rw [bb_pr_cls h hk hs] at hu ⊢
    by_cases hc : c < N
    · obtain ⟨j, hj, hcj⟩ := h.2.2.2 c hc
      rw [bb_pr_cls h hj hcj] at hu ⊢
      refine (hF k hk).2 a j hj ?_ s t hs ht hu
      intro ha e
      subst e
      exact h0 ha ⟨j, hj, hs, hcj⟩
    · refine (hu (fun _ => False) ?_ ?_).elim
      · intro v x _ _ q
        exact hc (bb_pr_eqv h |>.2.2.2 _ _ q).1
      · intro v w _ _ q
        exact q
  · intro s t ⟨k, hk, hs, ht⟩ hd
    rw [bb_pr_cls h hk hs] at hd ⊢
    exact (hF k hk).1 s t hs ht hd
theorem bb_is_bis {m : Nat} {B : Nat → Nat → Prop} (h : bb_Par N m B) (hT : ∀ a s t, T a s t → s < N ∧ t < N) (hC : bb_Co N T m B) (hF : ∀ k, k < m → bb_Fix T m B k) (s t : Nat) : bb_PR m B s t ↔ bb_Bis N T s t := by
  refine ⟨fun q => ⟨bb_PR m B, bb_pr_eqv h, bb_pr_stb h hT hF, q⟩, ?_⟩
  intro ⟨R, hE, hS, r⟩
  obtain ⟨i, hi, hb⟩ := h.2.2.2 s (hE.2.2.2 _ _ r).1
  exact ⟨i, hi, hb, hC R hE hS i s t hi r hb⟩
def bb_cn (p : Nat → Bool) : Nat → Nat
  | 0 => 0
  | n + 1 => bb_cn p n + (if p n = true then 1 else 0)
theorem bb_cn_le (p : Nat → Bool) : ∀ n, bb_cn p n ≤ n
  | 0 => Nat.le_refl 0
  | n + 1 => by
    have := bb_cn_le p n
    show bb_cn p n + (if p n = true then 1 else 0) ≤ n + 1
    split <;> omega
theorem bb_cn_mono {p q : Nat → Bool} : ∀ n, (∀ i, i < n → p i = true → q i = true) → bb_cn p n ≤ bb_cn q n
  | 0, _ => Nat.le_refl 0
  | n + 1, h => by
    have := bb_cn_mono n (fun i hi => h i (by omega))
    have h2 := h n (by omega)
    show bb_cn p n + (if p n = true then 1 else 0) ≤ bb_cn q n + (if q n = true then 1 else 0)
    by_cases e : p n = true
    · rw [if_pos e, if_pos (h2 e)]; omega
    · rw [if_neg e]; omega
theorem bb_cn_lt {p q : Nat → Bool} : ∀ n, (∀ i, i < n → p i = true → q i = true) → (∃ i, i < n ∧ p i = false ∧ q i = true) → bb_cn p n < bb_cn q n
  | 0, _, h => by obtain ⟨i, hi, _⟩ := h; omega
  | n + 1, h, hx => by
    have hm := bb_cn_mono n (fun i hi => h i (by omega))
    have h2 := h n (by omega)
    show bb_cn p n + (if p n = true then 1 else 0) < bb_cn q n + (if q n = true then 1 else 0)
    obtain ⟨i, hi, a, b⟩ := hx
    by_cases e : i = n
    · subst e
      rw [if_pos b, a]
      simp
      omega
    · have hl := bb_cn_lt n (fun i hi => h i (by omega)) ⟨i, by omega, a, b⟩
      by_cases e : p n = true
      · rw [if_pos e, if_pos (h2 e)]; omega
      · rw [if_neg e]; omega
theorem bb_cn_all {p : Nat → Bool} : ∀ n, n ≤ bb_cn p n → ∀ i, i < n → p i = true
  | 0, _, i, hi => by omega
  | n + 1, h, i, hi => by
    have hl := bb_cn_le p n
    have h' : n + 1 ≤ bb_cn p n + (if p n = true then 1 else 0) := h
    by_cases e : p n = true
    · rw [if_pos e] at h'
      by_cases e2 : i = n
      · rw [e2]; exact e
      · exact bb_cn_all n (by omega) i (by omega)
    · rw [if_neg e] at h'; omega
theorem bb_cn_none {p : Nat → Bool} : ∀ n, bb_cn p n = 0 → ∀ i, i < n → p i = false
  | 0, _, i, hi => by omega
  | n + 1, h, i, hi => by
    have h' : bb_cn p n + (if p n = true then 1 else 0) = 0 := h
    by_cases e : p n = true
    · rw [if_pos e] at h'; omega
    · rw [if_neg e] at h'
      by_cases e2 : i = n
      · rw [e2]; exact Bool.eq_false_iff.mpr e
      · exact bb_cn_none n (by omega) i (by omega)
def bb_IU (N : Nat) (T : Nat → Nat → Nat → Prop) (F : Nat → Prop) (a : Nat) (G : Nat → Prop) (i : Nat) (p : Nat → Bool) : Prop :=
  (∀ s, p s = true → bb_Unt T F a G s) ∧ (∀ s t, F s → T a s t → G t → p s = true) ∧ ((∀ s w, F s → T 0 s w → p w = true → p s = true) ∨ i ≤ bb_cn p N)
theorem bb_IU_0 {F G : Nat → Prop} {a : Nat} {p : Nat → Bool} (h : ∀ s, p s = true ↔ F s ∧ ∃ t, T a s t ∧ G t) : bb_IU N T F a G 0 p :=
  ⟨fun s q => by
    obtain ⟨f, t, m, g⟩ := (h s).mp q
    exact bb_unt_b f m g, fun s t f m g => (h s).mpr ⟨f, t, m, g⟩, Or.inr (Nat.zero_le _)⟩
theorem bb_IU_s {F G : Nat → Prop} {a i : Nat} {p p' : Nat → Bool} (hT : ∀ a s t, T a s t → s < N ∧ t < N) (h : bb_IU N T F a G i p) (e : ∀ s, p' s = true ↔ p s = true ∨ (F s ∧ ∃ w, T 0 s w ∧ p w = true)) : bb_IU N T F a G (i + 1) p' := by
  obtain ⟨h1, h2, h3⟩ := h
  refine ⟨?_, fun s t f m g => (e s).mpr (Or.inl (h2 s t f m g)), ?_⟩
  · intro s q
    rcases (e s).mp q with q | ⟨f, w, m, q⟩
    · exact h1 s q
    · exact bb_unt_s f m (h1 w q)
  · by_cases c : ∀ s w, F s → T 0 s w → p w = true → p s = true
    · refine Or.inl fun s w f m q => (e s).mpr (Or.inl ?_)
      rcases (e w).mp q with q | ⟨f', w', m', q⟩
      · exact c s w f m q
      · exact c s w f m (c w w' f' m' q)
    · have h4 := h3.resolve_left c
      refine Or.inr (Nat.lt_of_le_of_lt h4 (bb_cn_lt N (fun s _ q => (e s).mpr (Or.inl q)) ?_))
      refine Classical.byContradiction fun hn => c fun s w f m q => ?_
      refine Classical.byContradiction fun hp => hn ⟨s, (hT _ _ _ m).1, Bool.eq_false_iff.mpr hp, (e s).mpr (Or.inr ⟨f, w, m, q⟩)⟩
theorem bb_IU_N {F G : Nat → Prop} {a : Nat} {p : Nat → Bool} (hT : ∀ a s t, T a s t → s < N ∧ t < N) (h : bb_IU N T F a G N p) (s : Nat) : p s = true ↔ bb_Unt T F a G s := by
  obtain ⟨h1, h2, h3⟩ := h
  refine ⟨h1 s, fun q => ?_⟩
  rcases h3 with c | c
  · exact q (fun s => p s = true) h2 c
  · exact q (fun s => p s = true) h2 fun v w _ m _ => bb_cn_all N c v (hT _ _ _ m).1
def bb_ID (N : Nat) (T : Nat → Nat → Nat → Prop) (F : Nat → Prop) (i : Nat) (p : Nat → Bool) : Prop :=
  (∀ s, p s = true → F s ∧ s < N) ∧ (∀ s, bb_Div T F s → p s = true) ∧ ((∀ s, p s = true → ∃ w, T 0 s w ∧ p w = true) ∨ bb_cn p N + i ≤ N)
theorem bb_ID_0 {F : Nat → Prop} {p : Nat → Bool} (h : ∀ s, p s = true ↔ F s) (hN : ∀ s, F s → s < N) : bb_ID N T F 0 p :=
  ⟨fun s q => ⟨(h s).mp q, hN s ((h s).mp q)⟩, fun s d => (h s).mpr (bb_div_F d), Or.inr (bb_cn_le p N)⟩
theorem bb_ID_s {F : Nat → Prop} {i : Nat} {p p' : Nat → Bool} (h : bb_ID N T F i p) (e : ∀ s, p' s = true ↔ p s = true ∧ ∃ w, T 0 s w ∧ p w = true) : bb_ID N T F (i + 1) p' := by
  obtain ⟨h1, h2, h3⟩ := h
  refine ⟨fun s q => h1 s ((e s).mp q).1, ?_, ?_⟩
  · intro s d
    obtain ⟨w, m, d'⟩ := bb_div_s d
    exact (e s).mpr ⟨h2 s d, w, m, h2 w d'⟩
  · by_cases c : ∀ s, p s = true → ∃ w, T 0 s w ∧ p w = true
    · refine Or.inl fun s q => ?_
      obtain ⟨w, m, q'⟩ := c s ((e s).mp q).1
      exact ⟨w, m, (e w).mpr ⟨q', c w q'⟩⟩
    · have h4 := h3.resolve_left c
      refine Or.inr ?_
      have : bb_cn p' N < bb_cn p N := by
        refine bb_cn_lt N (fun s _ q => ((e s).mp q).1) ?_
        refine Classical.byContradiction fun hn => c fun s q => ?_
        refine Classical.byContradiction fun hw => hn ⟨s, (h1 s q).2, Bool.eq_false_iff.mpr fun q' => hw ((e s).mp q').2, q⟩
      omega
theorem bb_ID_N {F : Nat → Prop} {p : Nat → Bool} (h : bb_ID N T F N p) (s : Nat) : p s = true ↔ bb_Div T F s := by
  obtain ⟨h1, h2, h3⟩ := h
  refine ⟨fun q => ?_, h2 s⟩
  rcases h3 with c | c
  · exact ⟨fun s => p s = true, q, fun v r => ⟨(h1 v r).1, c v r⟩⟩
  · have := bb_cn_none (p := p) N (by omega) s (h1 s q).2
    rw [this] at q
    exact absurd q (by decide)
end
end
section
def bt (x : Int32) (i : Nat) : Bool := x.toBitVec.getLsbD i
theorem b_ext {x y : Int32} (h : ∀ i, i < 32 → bt x i = bt y i) : x = y := Int32.toBitVec_inj.mp (BitVec.eq_of_getLsbD_eq (fun i hi => h i hi))
theorem b_or (x y : Int32) (i : Nat) : bt (x ||| y) i = (bt x i || bt y i) := by unfold bt; rw [Int32.toBitVec_or, BitVec.getLsbD_or]
theorem b_and (x y : Int32) (i : Nat) : bt (x &&& y) i = (bt x i && bt y i) := by unfold bt; rw [Int32.toBitVec_and, BitVec.getLsbD_and]
theorem b_xor (x y : Int32) (i : Nat) : bt (x ^^^ y) i = (bt x i ^^ bt y i) := by unfold bt; rw [Int32.toBitVec_xor, BitVec.getLsbD_xor]
theorem b_big {x : Int32} {i : Nat} (h : 32 ≤ i) : bt x i = false := BitVec.getLsbD_of_ge _ _ h
theorem b_m1 : ∀ i, i < 32 → bt (-1) i = true := by decide +kernel
theorem b_0 (i : Nat) : bt 0 i = false := BitVec.getLsbD_zero
theorem s_l : ∀ n, n < 32 → ((nI n &&& 31).toBitVec.smod 32).toNat = n := by decide +kernel
theorem b_shl (n : Nat) (hn : n < 32) (x : Int32) {i : Nat} (hi : i < 32) : bt (x <<< (nI n &&& 31)) i = (decide (n ≤ i) && bt x (i - n)) := by
  unfold bt
  rw [Int32.toBitVec_shiftLeft]
  show (x.toBitVec <<< ((nI n &&& 31).toBitVec.smod 32).toNat).getLsbD i = _
  rw [s_l n hn, BitVec.getLsbD_shiftLeft]
  rcases Nat.lt_or_ge i n with h | h
  · simp [h, Nat.not_le.mpr h]
  · simp [hi, h, Nat.not_lt.mpr h]
theorem b_sshr (n : Nat) (hn : n < 32) (x : Int32) {i : Nat} (hi : i < 32) : bt (x >>> (nI n &&& 31)) i = if n + i < 32 then bt x (n + i) else bt x 31 := by
  unfold bt
  rw [Int32.toBitVec_shiftRight]
  show (x.toBitVec.sshiftRight ((nI n &&& 31).toBitVec.smod 32).toNat).getLsbD i = _
  rw [s_l n hn, BitVec.getLsbD_sshiftRight, BitVec.msb_eq_getLsbD_last]
  simp [hi]
theorem bb_nz (x : Int32) : (¬ x = 0) ↔ ∃ i, bt x i = true := by
  constructor
  · intro h
    refine Classical.byContradiction fun hn => h (b_ext fun i _ => ?_)
    rw [b_0]
    exact Bool.eq_false_iff.mpr fun q => hn ⟨i, q⟩
  · intro ⟨i, q⟩ e
    rw [e, b_0] at q
    exact absurd q (by decide)
theorem bb_z (x : Int32) : x = 0 ↔ ∀ i, ¬ bt x i = true := by
  constructor
  · intro e i q
    rw [e, b_0] at q
    exact absurd q (by decide)
  · intro h
    refine b_ext fun i _ => ?_
    rw [b_0]
    exact Bool.eq_false_iff.mpr (h i)
theorem bb_l32 {x : Int32} {i : Nat} (h : bt x i = true) : i < 32 := by
  refine Classical.byContradiction fun hn => ?_
  rw [b_big (by omega)] at h
  exact absurd h (by decide)
theorem bb_1 (i : Nat) : bt 1 i = decide (i = 0) := by
  rcases Nat.lt_or_ge i 32 with h | h
  · exact (by decide +kernel : ∀ i, i < 32 → bt 1 i = decide (i = 0)) i h
  · rw [b_big h, decide_eq_false (by omega)]
theorem bb_con (x : Int32) {s : Nat} (hs : s < 32) : ((x >>> (nI s &&& 31)) &&& 1) = 0 ↔ ¬ bt x s = true := by
  have e0 : bt ((x >>> (nI s &&& 31)) &&& 1) 0 = bt x s := by
    rw [b_and, b_sshr s hs x (by decide), bb_1, if_pos (by omega)]
    simp
  constructor
  · intro h q
    rw [h, b_0, q] at e0
    exact absurd e0 (by decide)
  · intro h
    refine b_ext fun i _ => ?_
    rw [b_0]
    by_cases hi : i = 0
    · rw [hi, e0]
      exact Bool.eq_false_iff.mpr h
    · rw [b_and, bb_1, decide_eq_false hi, Bool.and_false]
theorem bb_shl {s : Nat} (hs : s < 32) (i : Nat) : bt ((1 : Int32) <<< (nI s &&& 31)) i = decide (i = s) := by
  rcases Nat.lt_or_ge i 32 with h | h
  · rw [b_shl s hs _ h, bb_1]
    by_cases e : i = s
    · subst e
      simp
    · rw [decide_eq_false e]
      by_cases e2 : s ≤ i
      · rw [decide_eq_false (by omega : ¬ i - s = 0), Bool.and_false]
      · rw [decide_eq_false e2, Bool.false_and]
  · rw [b_big h, decide_eq_false (by omega)]
theorem bb_not (x : Int32) {i : Nat} (hi : i < 32) : bt (x ^^^ (-1)) i = !bt x i := by
  rw [b_xor, b_m1 i hi]
  simp
theorem bb_all : ∀ n, n < 13 → ∀ i, i < 32 → bt (((1 : Int32) <<< (nI n &&& 31)) - 1) i = decide (i < n) := by decide +kernel
theorem bb_allS {n : Nat} (hn : n < 13) (i : Nat) : bt (((1 : Int32) <<< (nI n &&& 31)) - 1) i = true ↔ i < n := by
  rcases Nat.lt_or_ge i 32 with h | h
  · rw [bb_all n hn i h, decide_eq_true_eq]
  · rw [b_big h]
    constructor
    · intro q
      exact absurd q (by decide)
    · intro q
      omega
theorem bb_ins (x : Int32) {s : Nat} (hs : s < 32) (i : Nat) : bt (x ||| ((1 : Int32) <<< (nI s &&& 31))) i = true ↔ bt x i = true ∨ i = s := by
  rw [b_or, bb_shl hs, Bool.or_eq_true, decide_eq_true_eq]
theorem bb_del (x : Int32) {s : Nat} (hs : s < 32) (i : Nat) : bt (x &&& (((1 : Int32) <<< (nI s &&& 31)) ^^^ (-1))) i = true ↔ bt x i = true ∧ i ≠ s := by
  rw [b_and, Bool.and_eq_true]
  constructor
  · intro ⟨p, q⟩
    refine ⟨p, ?_⟩
    rw [bb_not _ (bb_l32 p), bb_shl hs] at q
    intro e
    rw [decide_eq_true e] at q
    exact absurd q (by decide)
  · intro ⟨p, q⟩
    refine ⟨p, ?_⟩
    rw [bb_not _ (bb_l32 p), bb_shl hs, decide_eq_false q]
    rfl
theorem bb_andS (x y : Int32) (i : Nat) : bt (x &&& y) i = true ↔ bt x i = true ∧ bt y i = true := by rw [b_and, Bool.and_eq_true]
theorem bb_orS (x y : Int32) (i : Nat) : bt (x ||| y) i = true ↔ bt x i = true ∨ bt y i = true := by rw [b_or, Bool.or_eq_true]
theorem bb_diffS (x y : Int32) (i : Nat) : bt (x &&& (y ^^^ (-1))) i = true ↔ bt x i = true ∧ ¬ bt y i = true := by
  rw [b_and, Bool.and_eq_true]
  constructor
  · intro ⟨p, q⟩
    rw [bb_not _ (bb_l32 p)] at q
    refine ⟨p, fun e => ?_⟩
    rw [e] at q
    exact absurd q (by decide)
  · intro ⟨p, q⟩
    rw [bb_not _ (bb_l32 p), Bool.eq_false_iff.mpr q]
    exact ⟨p, rfl⟩
end
section
section
variable {T : Nat → Nat → Nat → Prop} {N : Nat}
def bb_Rch (T : Nat → Nat → Nat → Prop) (F : Nat → Prop) (u v : Nat) : Prop :=
  ∀ S : Nat → Prop, (F u → S u) → (∀ x w, S x → T 0 x w → F w → S w) → S v
theorem bb_rch_0 {F : Nat → Prop} {u : Nat} (h : F u) : bb_Rch T F u u := fun _ h1 _ => h1 h
theorem bb_rch_s {F : Nat → Prop} {u x w : Nat} (h : bb_Rch T F u x) (hT : T 0 x w) (hF : F w) : bb_Rch T F u w := fun S h1 h2 => h2 x w (h S h1 h2) hT hF
theorem bb_rch_F {F : Nat → Prop} {u v : Nat} (h : bb_Rch T F u v) : F v := h F id (fun _ _ _ _ z => z)
theorem bb_rch_u {F : Nat → Prop} {u v : Nat} (h : bb_Rch T F u v) : F u := h (fun _ => F u) id (fun _ _ z _ _ => z)
theorem bb_rch_h {F : Nat → Prop} {u w v : Nat} (hF : F u) (hT : T 0 u w) (h : bb_Rch T F w v) : bb_Rch T F u v :=
  fun S h1 h2 => h S (fun fw => h2 u w (h1 hF) hT fw) h2
theorem bb_rch_unt {F G : Nat → Prop} {a u : Nat} : bb_Unt T F a G u ↔ ∃ v t, bb_Rch T F u v ∧ T a v t ∧ G t := by
  constructor
  · intro h
    refine bb_unt_ind (fun u => ∃ v t, bb_Rch T F u v ∧ T a v t ∧ G t) h ?_ ?_
    · intro v t f m g
      exact ⟨v, t, bb_rch_0 f, m, g⟩
    · intro v w f m _ ⟨x, t, r, m', g⟩
      exact ⟨x, t, bb_rch_h f m r, m', g⟩
  · intro ⟨v, t, r, m, g⟩
    have h := r (fun x => F x ∧ (bb_Unt T F a G x → bb_Unt T F a G u)) (fun f => ⟨f, id⟩) (fun x w hx hm fw => ⟨fw, fun q => hx.2 (bb_unt_s hx.1 hm q)⟩)
    exact h.2 (bb_unt_b h.1 m g)
def bb_WC (T : Nat → Nat → Nat → Prop) (F : Nat → Prop) (p : Nat → Bool) : Prop := ∀ x w, p x = true → T 0 x w → F w → p w = true
def bb_WI (N : Nat) (T : Nat → Nat → Nat → Prop) (F : Nat → Prop) (u i : Nat) (p : Nat → Bool) : Prop :=
  (∀ v, v < N → p v = true → bb_Rch T F u v) ∧ (F u → p u = true) ∧ (bb_WC T F p ∨ i ≤ bb_cn p N)
theorem bb_WI_s {F : Nat → Prop} {u i : Nat} {p p' : Nat → Bool} (hT : ∀ a s t, T a s t → s < N ∧ t < N) (hu : u < N) (h : bb_WI N T F u i p) (h1 : ∀ v, v < N → p v = true → p' v = true)
    (h2 : ∀ v, v < N → p' v = true → bb_Rch T F u v) (h3 : ∀ x w, p x = true → T 0 x w → F w → p' w = true) (h4 : bb_WC T F p → ∀ v, v < N → p' v = true → p v = true) : bb_WI N T F u (i + 1) p' := by
  refine ⟨h2, fun f => h1 u hu (h.2.1 f), ?_⟩
  by_cases c : bb_WC T F p
  · refine Or.inl fun x w px m f => ?_
    exact h3 x w (h4 c x (hT _ _ _ m).1 px) m f
  · refine Or.inr (Nat.lt_of_le_of_lt (h.2.2.resolve_left c) (bb_cn_lt N h1 ?_))
    refine Classical.byContradiction fun hn => c fun x w px m f => ?_
    refine Classical.byContradiction fun hp => hn ⟨w, (hT _ _ _ m).2, Bool.eq_false_iff.mpr hp, h3 x w px m f⟩
theorem bb_WI_N {F : Nat → Prop} {u v : Nat} {p : Nat → Bool} (h : bb_WI N T F u N p) (hv : v < N) : p v = true ↔ bb_Rch T F u v := by
  refine ⟨h.1 v hv, fun q => ?_⟩
  rcases h.2.2 with c | c
  · exact q (fun v => p v = true) h.2.1 c
  · exact bb_cn_all N c v hv
def bb_LC (N : Nat) (T : Nat → Nat → Nat → Prop) (p : Nat → Bool) : Prop := ∀ s, s < N → p s = true → ∃ w, T 0 s w ∧ p w = true
def bb_LI (N : Nat) (T : Nat → Nat → Nat → Prop) (F : Nat → Prop) (i : Nat) (p : Nat → Bool) : Prop :=
  (∀ s, s < N → p s = true → F s) ∧ (∀ s, s < N → bb_Div T F s → p s = true) ∧ (bb_LC N T p ∨ bb_cn p N + i ≤ N)
theorem bb_LI_s {F : Nat → Prop} {i : Nat} {p p' : Nat → Bool} (hT : ∀ a s t, T a s t → s < N ∧ t < N) (h : bb_LI N T F i p) (h1 : ∀ s, s < N → p' s = true → p s = true)
    (h2 : ∀ s, s < N → bb_Div T F s → p' s = true) (h3 : ∀ s, s < N → p' s = true → ∃ w, T 0 s w ∧ p w = true) (h4 : bb_LC N T p → ∀ s, s < N → p s = true → p' s = true) : bb_LI N T F (i + 1) p' := by
  refine ⟨fun s hs q => h.1 s hs (h1 s hs q), h2, ?_⟩
  by_cases c : bb_LC N T p
  · refine Or.inl fun s hs q => ?_
    obtain ⟨w, m, pw⟩ := h3 s hs q
    exact ⟨w, m, h4 c w (hT _ _ _ m).2 pw⟩
  · have h5 := h.2.2.resolve_left c
    have : bb_cn p' N < bb_cn p N := by
      refine bb_cn_lt N h1 ?_
      refine Classical.byContradiction fun hn => c fun s hs q => ?_
      refine Classical.byContradiction fun hw => hn ⟨s, hs, Bool.eq_false_iff.mpr fun q' => hw (h3 s hs q'), q⟩
    exact Or.inr (by omega)
theorem bb_LI_N {F : Nat → Prop} {s : Nat} {p : Nat → Bool} (hT : ∀ a s t, T a s t → s < N ∧ t < N) (h : bb_LI N T F N p) (hs : s < N) : p s = true ↔ bb_Div T F s := by
  refine ⟨fun q => ?_, h.2.1 s hs⟩
  rcases h.2.2 with c | c
  · refine ⟨fun s => s < N ∧ p s = true, ⟨hs, q⟩, fun v r => ⟨h.1 v r.1 r.2, ?_⟩⟩
    obtain ⟨w, m, pw⟩ := c v r.1 r.2
    exact ⟨w, m, (hT _ _ _ m).2, pw⟩
  · have := bb_cn_none (p := p) N (by omega) s hs
    rw [this] at q
    exact absurd q (by decide)
def bb_K (N : Nat) (c : Nat → Nat) (k : Nat) : Nat → Prop := fun v => v < N ∧ c v = k
def bb_Al (N : Nat) (T : Nat → Nat → Nat → Prop) (c : Nat → Nat) (s t : Nat) : Prop :=
  c s = c t ∧ (bb_Div T (bb_K N c (c s)) s ↔ bb_Div T (bb_K N c (c t)) t) ∧
  ∀ a k, (a = 0 → k ≠ c s) → (bb_Unt T (bb_K N c (c s)) a (bb_K N c k) s ↔ bb_Unt T (bb_K N c (c t)) a (bb_K N c k) t)
theorem bb_al_r (c : Nat → Nat) (s : Nat) : bb_Al N T c s s := ⟨rfl, Iff.rfl, fun _ _ _ => Iff.rfl⟩
theorem bb_al_s {c : Nat → Nat} {s t : Nat} (h : bb_Al N T c s t) : bb_Al N T c t s :=
  ⟨h.1.symm, h.2.1.symm, fun a k hk => (h.2.2 a k (by rw [h.1]; exact hk)).symm⟩
theorem bb_al_t {c : Nat → Nat} {s t u : Nat} (h : bb_Al N T c s t) (h' : bb_Al N T c t u) : bb_Al N T c s u :=
  ⟨h.1.trans h'.1, h.2.1.trans h'.2.1, fun a k hk => (h.2.2 a k hk).trans (h'.2.2 a k (by rw [← h.1]; exact hk))⟩
theorem bb_K_cg {c c' : Nat → Nat} (h : ∀ v, v < N → c' v = c v) (k : Nat) : bb_K N c' k = bb_K N c k := by
  funext v
  refine propext ⟨fun q => ⟨q.1, ?_⟩, fun q => ⟨q.1, ?_⟩⟩
  · rw [← h v q.1]; exact q.2
  · rw [h v q.1]; exact q.2
theorem bb_al_cg {c c' : Nat → Nat} {s t : Nat} (h : ∀ v, v < N → c' v = c v) (hs : s < N) (ht : t < N) (q : bb_Al N T c s t) : bb_Al N T c' s t := by
  obtain ⟨q1, q2, q3⟩ := q
  unfold bb_Al
  rw [h s hs, h t ht]
  refine ⟨q1, ?_, ?_⟩
  · rw [bb_K_cg h, bb_K_cg h]; exact q2
  · intro a k hk
    rw [bb_K_cg h, bb_K_cg h, bb_K_cg h]
    exact q3 a k hk
def bb_Nx (N : Nat) (T : Nat → Nat → Nat → Prop) (c c' : Nat → Nat) : Prop :=
  ∀ s, s < N → c' s ≤ s ∧ bb_Al N T c s (c' s) ∧ ∀ t, t < c' s → ¬ bb_Al N T c s t
theorem bb_nx_eq {c c' : Nat → Nat} {s t : Nat} (h : bb_Nx N T c c') (hs : s < N) (ht : t < N) : c' s = c' t ↔ bb_Al N T c s t := by
  obtain ⟨_, a1, a2⟩ := h s hs
  obtain ⟨_, b1, b2⟩ := h t ht
  constructor
  · intro e
    rw [e] at a1
    exact bb_al_t a1 (bb_al_s b1)
  · intro q
    rcases Nat.lt_trichotomy (c' s) (c' t) with l | l | l
    · exact absurd (bb_al_t (bb_al_s q) a1) (b2 _ l)
    · exact l
    · exact absurd (bb_al_t q b1) (a2 _ l)
theorem bb_nx_id {c c' : Nat → Nat} {s : Nat} (h : bb_Nx N T c c') (hs : s < N) : c' (c' s) = c' s := by
  have h1 := h s hs
  exact (bb_nx_eq h (by omega) hs).mpr (bb_al_s h1.2.1)
def bb_RI (N : Nat) (T : Nat → Nat → Nat → Prop) (r : Nat) (c : Nat → Nat) : Prop :=
  (∀ s, s < N → c s ≤ s ∧ c (c s) = c s) ∧ (∀ R, bb_Eqv N R → bb_Stb T R → ∀ s t, R s t → c s = c t) ∧
  ((∀ s t, s < N → t < N → c s = c t → bb_Al N T c s t) ∨ r + 1 ≤ bb_cn (fun s => decide (c s = s)) N)
theorem bb_cn_pos {p : Nat → Bool} : ∀ n i, i < n → p i = true → 1 ≤ bb_cn p n
  | 0, i, hi, _ => by omega
  | n + 1, i, hi, h => by
    show 1 ≤ bb_cn p n + (if p n = true then 1 else 0)
    by_cases e : i = n
    · subst e
      rw [if_pos h]; omega
    · have := bb_cn_pos n i (by omega) h
      omega
theorem bb_RI_0 (hN : 0 < N) {c : Nat → Nat} (h : ∀ s, s < N → c s = 0) : bb_RI N T 0 c := by
  refine ⟨fun s hs => ?_, fun R hE _ s t r => ?_, Or.inr ?_⟩
  · rw [h s hs]
    exact ⟨Nat.zero_le _, h 0 hN⟩
  · rw [h s (hE.2.2.2 _ _ r).1, h t (hE.2.2.2 _ _ r).2]
  · exact bb_cn_pos N 0 hN (decide_eq_true (h 0 hN))
theorem bb_co_al {c : Nat → Nat} (hT : ∀ a s t, T a s t → s < N ∧ t < N) (h : ∀ R, bb_Eqv N R → bb_Stb T R → ∀ s t, R s t → c s = c t)
    {R : Nat → Nat → Prop} (hE : bb_Eqv N R) (hS : bb_Stb T R) {s t : Nat} (hR : R s t) : bb_Al N T c s t := by
  have hK : ∀ k x y, R x y → bb_K N c k x → bb_K N c k y := fun k x y r q => ⟨(hE.2.2.2 _ _ r).2, by rw [← h R hE hS x y r]; exact q.2⟩
  have e := h R hE hS s t hR
  have hR' := hE.2.1 _ _ hR
  refine ⟨e, ?_, ?_⟩
  · rw [← e]
    exact ⟨fun d => bb_cutD hT hE hS (hK _) d hR, fun d => bb_cutD hT hE hS (hK _) d hR'⟩
  · intro a k hk
    rw [← e]
    have h0 : a = 0 → ∀ x, bb_K N c (c s) x → bb_K N c k x → False := fun ha x p q => hk ha (q.2.symm.trans p.2)
    exact ⟨fun d => bb_cutU hT hE hS (hK _) (hK _) h0 d t hR, fun d => bb_cutU hT hE hS (hK _) (hK _) h0 d s hR'⟩
theorem bb_RI_s {c c' : Nat → Nat} {r : Nat} (hT : ∀ a s t, T a s t → s < N ∧ t < N) (h : bb_RI N T r c) (hn : bb_Nx N T c c') : bb_RI N T (r + 1) c' := by
  obtain ⟨h1, h2, h3⟩ := h
  refine ⟨fun s hs => ⟨(hn s hs).1, bb_nx_id hn hs⟩, fun R hE hS s t q => ?_, ?_⟩
  · exact (bb_nx_eq hn (hE.2.2.2 _ _ q).1 (hE.2.2.2 _ _ q).2).mpr (bb_co_al hT h2 hE hS q)
  · have low : ∀ s, s < N → c s ≤ c' s := by
      intro s hs
      have a := hn s hs
      have b := (h1 (c' s) (by omega)).1
      have e := a.2.1.1
      omega
    by_cases st : ∀ s t, s < N → t < N → c s = c t → bb_Al N T c s t
    · have eq : ∀ s, s < N → c' s = c s := by
        intro s hs
        have a := hn s hs
        have b := h1 s hs
        have l := low s hs
        have : ¬ c s < c' s := fun z => a.2.2 _ z (st s (c s) hs (by omega) b.2.symm)
        omega
      refine Or.inl fun s t hs ht e => bb_al_cg eq hs ht (st s t hs ht ?_)
      rw [← eq s hs, ← eq t ht]; exact e
    · have h4 := h3.resolve_left st
      refine Or.inr (Nat.lt_of_le_of_lt h4 (bb_cn_lt N ?_ ?_))
      · intro s hs q
        have q1 : c s = s := of_decide_eq_true q
        have a := (hn s hs).1
        have l := low s hs
        exact decide_eq_true (by omega)
      · refine Classical.byContradiction fun hc => st fun s t hs ht e => ?_
        have key : ∀ s, s < N → c' s = c s := by
          intro s hs
          have a := hn s hs
          refine Classical.byContradiction fun ne => hc ⟨c' s, by omega, decide_eq_false ?_, decide_eq_true (bb_nx_id hn hs)⟩
          intro z
          have e := a.2.1.1
          omega
        exact (bb_nx_eq hn hs ht).mp (by rw [key s hs, key t ht]; exact e)
theorem bb_RI_N {c : Nat → Nat} (hT : ∀ a s t, T a s t → s < N ∧ t < N) (h : bb_RI N T N c) (s t : Nat) : (s < N ∧ t < N ∧ c s = c t) ↔ bb_Bis N T s t := by
  obtain ⟨h1, h2, h3⟩ := h
  have st : ∀ s t, s < N → t < N → c s = c t → bb_Al N T c s t := by
    rcases h3 with q | q
    · exact q
    · have := bb_cn_le (fun s => decide (c s = s)) N
      omega
  constructor
  · intro hst
    have cls : ∀ s, s < N → (fun t => s < N ∧ t < N ∧ c s = c t) = bb_K N c (c s) := by
      intro s hs
      funext t
      exact propext ⟨fun q => ⟨q.2.1, q.2.2.symm⟩, fun q => ⟨hs, q.1, q.2.symm⟩⟩
    refine ⟨fun s t => s < N ∧ t < N ∧ c s = c t, ⟨?_, ?_, ?_, ?_⟩, ⟨?_, ?_⟩, hst⟩
    · intro s hs
      exact ⟨hs, hs, rfl⟩
    · intro s t q
      exact ⟨q.2.1, q.1, q.2.2.symm⟩
    · intro s t u q q'
      exact ⟨q.1, q'.2.1, q.2.2.trans q'.2.2⟩
    · intro s t q
      exact ⟨q.1, q.2.1⟩
    · intro s t k a q h0 hu
      have al := st s t q.1 q.2.1 q.2.2
      by_cases hk : k < N
      · have e1 := cls s q.1
        have e2 := cls k hk
        dsimp only at hu ⊢
        rw [e1, e2] at hu ⊢
        have := (al.2.2 a (c k) (fun ha e => h0 ha ⟨q.1, hk, e.symm⟩)).mp hu
        rw [← q.2.2] at this
        exact this
      · refine (hu (fun _ => False) ?_ ?_).elim
        · intro v x _ _ z
          exact hk z.1
        · intro v w _ _ z
          exact z
    · intro s t q hd
      have al := st s t q.1 q.2.1 q.2.2
      have e1 := cls s q.1
      dsimp only at hd ⊢
      rw [e1] at hd ⊢
      have := al.2.1.mp hd
      rw [← q.2.2] at this
      exact this
  · intro ⟨R, hE, hS, r⟩
    exact ⟨(hE.2.2.2 _ _ r).1, (hE.2.2.2 _ _ r).2, h2 R hE hS s t r⟩
theorem bb_ldx (N : Nat) (T : Nat → Nat → Nat → Prop) : ∃ c : Nat → Nat, ∀ s t, bb_Bis N T s t → bb_Bis N T s (c s) ∧ c s ≤ t := by
  have h : ∀ s, ∃ k, ∀ t, bb_Bis N T s t → bb_Bis N T s k ∧ k ≤ t := by
    intro s
    by_cases e : ∃ t, bb_Bis N T s t
    · obtain ⟨k, hk, hl⟩ := pk_least _ e
      exact ⟨k, fun t q => ⟨hk, Nat.le_of_not_lt fun z => hl t z q⟩⟩
    · exact ⟨0, fun t q => absurd ⟨t, q⟩ e⟩
  exact ⟨fun s => Classical.choose (h s), fun s => Classical.choose_spec (h s)⟩
def bb_Ld (N : Nat) (T : Nat → Nat → Nat → Prop) (c : Nat → Nat) : Prop := ∀ s t, bb_Bis N T s t → bb_Bis N T s (c s) ∧ c s ≤ t
def bb_Sp (N : Nat) (T : Nat → Nat → Nat → Prop) (c : Nat → Nat) : Prop :=
  (∀ s, s < N → c s ≤ s ∧ c (c s) = c s) ∧ ∀ s t, (s < N ∧ t < N ∧ c s = c t) ↔ bb_Bis N T s t
theorem bb_sp_ld {c l : Nat → Nat} (h : bb_Sp N T c) (hl : bb_Ld N T l) {s : Nat} (hs : s < N) : c s = l s := by
  have h1 := h.1 s hs
  have b := hl s (c s) ((h.2 s (c s)).mp ⟨hs, by omega, h1.2.symm⟩)
  have d := (h.2 s (l s)).mpr b.1
  have e := (h.1 (l s) d.2.1).1
  have := d.2.2
  omega
theorem bb_ld_sp {l : Nat → Nat} (hl : bb_Ld N T l) (hr : ∀ s, s < N → bb_Bis N T s s) (hs : ∀ s t, bb_Bis N T s t → bb_Bis N T t s) (ht : ∀ s t u, bb_Bis N T s t → bb_Bis N T t u → bb_Bis N T s u) : bb_Sp N T l := by
  have bd : ∀ s t, bb_Bis N T s t → s < N ∧ t < N := by
    intro s t ⟨R, hE, _, r⟩
    exact hE.2.2.2 _ _ r
  have same : ∀ s t, bb_Bis N T s t → l s = l t := by
    intro s t q
    have a := hl s t q
    have b := hl t s (hs _ _ q)
    have x := (hl s (l t) (ht _ _ _ q b.1)).2
    have y := (hl t (l s) (ht _ _ _ (hs _ _ q) a.1)).2
    omega
  refine ⟨fun s h => ?_, fun s t => ⟨?_, fun q => ⟨(bd _ _ q).1, (bd _ _ q).2, same s t q⟩⟩⟩
  · have a := hl s s (hr s h)
    exact ⟨a.2, (same _ _ a.1).symm⟩
  · intro ⟨h1, h2, e⟩
    have a := (hl s s (hr s h1)).1
    have b := (hl t t (hr t h2)).1
    rw [e] at a
    exact ht _ _ _ a (hs _ _ b)
def bb_ldr (c : Nat → Nat) : Nat → Bool := fun s => decide (c s = s)
def bb_nb (c : Nat → Nat) (s : Nat) : Nat := bb_cn (bb_ldr c) (c s)
theorem bb_cn_m {p : Nat → Bool} : ∀ n m, m ≤ n → bb_cn p m ≤ bb_cn p n
  | 0, m, h => by
    cases Nat.le_zero.mp h
    exact Nat.le_refl _
  | n + 1, m, h => by
    by_cases e : m = n + 1
    · rw [e]; exact Nat.le_refl _
    · have := bb_cn_m (p := p) n m (by omega)
      exact Nat.le_trans this (Nat.le_add_right _ _)
theorem bb_cn_t {p : Nat → Bool} {u : Nat} (h : p u = true) : bb_cn p (u + 1) = bb_cn p u + 1 := by
  show bb_cn p u + (if p u = true then 1 else 0) = _
  rw [if_pos h]
theorem bb_cn_f {p : Nat → Bool} {u : Nat} (h : ¬ p u = true) : bb_cn p (u + 1) = bb_cn p u := by
  show bb_cn p u + (if p u = true then 1 else 0) = _
  rw [if_neg h]; omega
theorem bb_cn_u {p : Nat → Bool} {u n : Nat} (h : p u = true) (hu : u < n) : bb_cn p u < bb_cn p n := by
  have a := bb_cn_m (p := p) n (u + 1) hu
  rw [bb_cn_t h] at a
  omega
theorem bb_cn_inj {p : Nat → Bool} {u v : Nat} (h : p u = true) (h' : p v = true) (e : bb_cn p u = bb_cn p v) : u = v := by
  rcases Nat.lt_trichotomy u v with l | l | l
  · have := bb_cn_u h l
    omega
  · exact l
  · have := bb_cn_u h' l
    omega
theorem bb_cn_ex {p : Nat → Bool} : ∀ n i, i < bb_cn p n → ∃ u, u < n ∧ p u = true ∧ bb_cn p u = i
  | 0, i, h => by
    have : i < 0 := h
    omega
  | n + 1, i, h => by
    by_cases e : p n = true
    · rw [bb_cn_t e] at h
      by_cases e2 : i = bb_cn p n
      · exact ⟨n, by omega, e, e2.symm⟩
      · obtain ⟨u, a, b, d⟩ := bb_cn_ex (p := p) n i (by omega)
        exact ⟨u, by omega, b, d⟩
    · rw [bb_cn_f e] at h
      obtain ⟨u, a, b, d⟩ := bb_cn_ex (p := p) n i h
      exact ⟨u, by omega, b, d⟩
theorem bb_nb_lt {c : Nat → Nat} (h : ∀ s, s < N → c s ≤ s ∧ c (c s) = c s) {s : Nat} (hs : s < N) : bb_nb c s < bb_cn (bb_ldr c) N := by
  have a := h s hs
  exact bb_cn_u (decide_eq_true a.2) (by omega)
theorem bb_nb_eq {c : Nat → Nat} (h : ∀ s, s < N → c s ≤ s ∧ c (c s) = c s) {s t : Nat} (hs : s < N) (ht : t < N) : bb_nb c s = bb_nb c t ↔ c s = c t := by
  constructor
  · intro e
    exact bb_cn_inj (decide_eq_true (h s hs).2) (decide_eq_true (h t ht).2) e
  · intro e
    show bb_cn _ (c s) = bb_cn _ (c t)
    rw [e]
def bb_BS (g : Nat → Int32) (i s : Nat) : Prop := bt (g i) s = true
theorem bb_par_pm {m : Nat} {B : Nat → Nat → Prop} {π : Nat → Nat} (h : bb_Par N m B) (h1 : ∀ i, i < m → π i < m) (h2 : ∀ i, π (π i) = i) : bb_Par N m (fun i => B (π i)) := by
  refine ⟨fun i hi => h.1 _ (h1 i hi), fun i s hi => h.2.1 _ s (h1 i hi), ?_, ?_⟩
  · intro i j s hi hj a b
    have e := h.2.2.1 _ _ s (h1 i hi) (h1 j hj) a b
    rw [← h2 i, e, h2 j]
  · intro s hs
    obtain ⟨i, hi, q⟩ := h.2.2.2 s hs
    refine ⟨π i, h1 i hi, ?_⟩
    dsimp only
    rw [h2 i]; exact q
theorem bb_pr_pm {m : Nat} {B : Nat → Nat → Prop} {π : Nat → Nat} (h1 : ∀ i, i < m → π i < m) (h2 : ∀ i, π (π i) = i) (s t : Nat) : bb_PR m (fun i => B (π i)) s t ↔ bb_PR m B s t := by
  constructor
  · intro ⟨i, hi, a, b⟩
    exact ⟨π i, h1 i hi, a, b⟩
  · intro ⟨i, hi, a, b⟩
    refine ⟨π i, h1 i hi, ?_, ?_⟩
    · dsimp only
      rw [h2 i]; exact a
    · dsimp only
      rw [h2 i]; exact b
def bb_OI (N : Nat) (c : Nat → Nat) (m : Nat) (g : Nat → Int32) (s o : Nat) : Prop :=
  bb_Par N m (bb_BS g) ∧ (∀ x y, bb_PR m (bb_BS g) x y ↔ (x < N ∧ y < N ∧ c x = c y)) ∧ o = bb_cn (bb_ldr c) s ∧ o ≤ m ∧
  (∀ i, i < o → ∃ t, t < s ∧ bb_BS g i t) ∧ ∀ t i, t < s → i < m → bb_BS g i t → i = bb_nb c t
theorem bb_OI_0 {c : Nat → Nat} {m : Nat} {g : Nat → Int32} (h : bb_Par N m (bb_BS g)) (h2 : ∀ x y, bb_PR m (bb_BS g) x y ↔ (x < N ∧ y < N ∧ c x = c y)) : bb_OI N c m g 0 0 :=
  ⟨h, h2, rfl, Nat.zero_le _, fun i hi => absurd hi (Nat.not_lt_zero _), fun t i ht => absurd ht (Nat.not_lt_zero _)⟩
theorem bb_OI_a {c : Nat → Nat} {m s o k : Nat} {g : Nat → Int32} (hc : ∀ s, s < N → c s ≤ s ∧ c (c s) = c s) (h : bb_OI N c m g s o) (hs : s < N) (hk : k < m) (hb : bb_BS g k s) (ho : k < o) : bb_OI N c m g (s + 1) o := by
  obtain ⟨p, r, e, l, q1, q2⟩ := h
  obtain ⟨t, ht, bt'⟩ := q1 k ho
  have rel := (r t s).mp ⟨k, hk, bt', hb⟩
  have kn : k = bb_nb c s := by
    rw [q2 t k ht hk bt']
    exact (bb_nb_eq hc rel.1 hs).mpr rel.2.2
  refine ⟨p, r, ?_, l, ?_, ?_⟩
  · have nl : ¬ bb_ldr c s = true := by
      intro z
      have z1 : c s = s := of_decide_eq_true z
      have := (hc t rel.1).1
      have := rel.2.2
      omega
    rw [bb_cn_f nl]; exact e
  · intro i hi
    obtain ⟨t, ht, q⟩ := q1 i hi
    exact ⟨t, by omega, q⟩
  · intro t i ht hi q
    by_cases es : t = s
    · subst es
      rw [p.2.2.1 i k t hi hk q hb]; exact kn
    · exact q2 t i (by omega) hi q
theorem bb_OI_b {c : Nat → Nat} {m s o k : Nat} {g g' : Nat → Int32} (hc : ∀ s, s < N → c s ≤ s ∧ c (c s) = c s) (h : bb_OI N c m g s o) (hs : s < N) (hk : k < m) (hb : bb_BS g k s) (ho : o ≤ k)
    (hg : ∀ i, g' i = g (if i = o then k else if i = k then o else i)) : bb_OI N c m g' (s + 1) (o + 1) := by
  obtain ⟨p, r, e, l, q1, q2⟩ := h
  have eB : bb_BS g' = fun i => bb_BS g ((fun i => if i = o then k else if i = k then o else i) i) := by
    funext i s
    show (bt (g' i) s = true) = _
    rw [hg i]
    rfl
  have pi1 : ∀ i, i < m → (fun i => if i = o then k else if i = k then o else i) i < m := by
    intro i hi
    dsimp only
    split
    · exact hk
    · split
      · omega
      · exact hi
  have pi2 : ∀ i, (fun i => if i = o then k else if i = k then o else i) ((fun i => if i = o then k else if i = k then o else i) i) = i := by
    intro i
    dsimp only
    by_cases a : i = o
    · rw [if_pos a]
      by_cases b : k = o
      · rw [if_pos b]; omega
      · rw [if_neg b, if_pos rfl]; omega
    · rw [if_neg a]
      by_cases b : i = k
      · rw [if_pos b, if_pos rfl]; omega
      · rw [if_neg b, if_neg a, if_neg b]
  have cs : c s = s := by
    have a := hc s hs
    refine Classical.byContradiction fun ne => ?_
    obtain ⟨i, hi, x, y⟩ := (r s (c s)).mpr ⟨hs, by omega, a.2.symm⟩
    cases p.2.2.1 i k s hi hk x hb
    have z := q2 (c s) k (by omega) hk y
    have z2 : bb_nb c (c s) = bb_cn (bb_ldr c) (c s) := by
      show bb_cn _ (c (c s)) = _
      rw [a.2]
    have z3 := bb_cn_u (p := bb_ldr c) (u := c s) (n := s) (decide_eq_true a.2) (by omega)
    omega
  have no : bb_nb c s = o := by
    show bb_cn _ (c s) = o
    rw [cs]; exact e.symm
  refine ⟨?_, ?_, ?_, by omega, ?_, ?_⟩
  · rw [eB]; exact bb_par_pm p pi1 pi2
  · intro x y
    rw [eB, bb_pr_pm pi1 pi2]; exact r x y
  · rw [bb_cn_t (decide_eq_true cs)]; omega
  · intro i hi
    by_cases ei : i = o
    · refine ⟨s, by omega, ?_⟩
      show bt (g' i) s = true
      rw [hg, if_pos ei]; exact hb
    · obtain ⟨t, ht, q⟩ := q1 i (by omega)
      refine ⟨t, by omega, ?_⟩
      show bt (g' i) t = true
      rw [hg, if_neg ei, if_neg (by omega)]; exact q
  · intro t i ht hi q
    have q' : bt (g' i) t = true := q
    rw [hg] at q'
    by_cases es : t = s
    · subst es
      have e2 := p.2.2.1 _ k t (pi1 i hi) hk q' hb
      rw [no]
      dsimp only at e2
      by_cases a : i = o
      · exact a
      · rw [if_neg a] at e2
        by_cases b : i = k
        · rw [if_pos b] at e2; omega
        · rw [if_neg b] at e2; omega
    · have e3 := q2 t _ (by omega) (pi1 i hi) q'
      dsimp only at e3
      have e4 : bb_nb c t < o := by
        have rel := (r t t).mp ⟨_, pi1 i hi, q', q'⟩
        have a := hc t rel.1
        rw [e]
        exact bb_cn_u (decide_eq_true a.2) (by omega)
      by_cases a : i = o
      · rw [if_pos a] at e3; omega
      · rw [if_neg a] at e3
        by_cases b : i = k
        · rw [if_pos b] at e3; omega
        · rw [if_neg b] at e3; exact e3
theorem bb_OI_N {c : Nat → Nat} {m o : Nat} {g : Nat → Int32} (hc : ∀ s, s < N → c s ≤ s ∧ c (c s) = c s) (h : bb_OI N c m g N o) : m = bb_cn (bb_ldr c) N ∧ ∀ i s, i < m → (bt (g i) s = true ↔ s < N ∧ bb_nb c s = i) := by
  obtain ⟨p, r, e, l, q1, q2⟩ := h
  refine ⟨?_, fun i s hi => ⟨fun q => ?_, fun q => ?_⟩⟩
  · refine Nat.le_antisymm (Nat.le_of_not_lt fun z => ?_) (by omega)
    obtain ⟨s, q⟩ := p.1 _ z
    have hs := p.2.1 _ s z q
    have a := q2 s _ hs z q
    have b := bb_nb_lt hc hs
    omega
  · have hs := p.2.1 i s hi q
    exact ⟨hs, (q2 s i hs hi q).symm⟩
  · obtain ⟨j, hj, b⟩ := p.2.2.2 s q.1
    have a := q2 s j q.1 hj b
    have e : i = j := by omega
    rw [e]; exact b
def bb_sum (f : Nat → Nat) : Nat → Nat
  | 0 => 0
  | n + 1 => bb_sum f n + f n
theorem bb_sum_cg {f f' : Nat → Nat} : ∀ n, (∀ i, i < n → f i = f' i) → bb_sum f n = bb_sum f' n
  | 0, _ => rfl
  | n + 1, h => by
    show bb_sum f n + f n = bb_sum f' n + f' n
    rw [bb_sum_cg n (fun i hi => h i (by omega)), h n (by omega)]
theorem bb_sum_z {f : Nat → Nat} (b : Nat) (h : ∀ i, b ≤ i → f i = 0) : ∀ n, b ≤ n → bb_sum f n = bb_sum f b
  | 0, hn => by
    cases Nat.le_zero.mp hn
    rfl
  | n + 1, hn => by
    by_cases e : b = n + 1
    · rw [e]
    · show bb_sum f n + f n = _
      rw [bb_sum_z b h n (by omega), h n (by omega), Nat.add_zero]
theorem bb_sum_le {f : Nat → Nat} (b : Nat) (h : ∀ i, f i ≤ b) : ∀ n, bb_sum f n ≤ n * b
  | 0 => by
    show 0 ≤ 0 * b
    omega
  | n + 1 => by
    have := bb_sum_le b h n
    have := h n
    show bb_sum f n + f n ≤ (n + 1) * b
    rw [Nat.succ_mul]
    omega
end
end
section
section
variable {T : Nat → Nat → Nat → Prop} {N L : Nat} {xml xql xmt xmi xbT xft : Int32} {xtg xbs xfo : Nat → Int32}
theorem bb_cs (p : Int32) (n : Nat) : (∃ s, s < n ∧ p = nI s) ∨ (∀ s, s < n → p ≠ nI s) := by
  by_cases h : ∃ s, s < n ∧ p = nI s
  · exact Or.inl h
  · exact Or.inr fun s hs e => h ⟨s, hs, e⟩
theorem bb_ou {p : Int32} {n : Nat} (hn : n < 2 ^ 31) (h : ∀ s, s < n → p ≠ nI s) : p < 0 ∨ (¬ p < 0 ∧ nI n ≤ p) := by
  rcases pk_ix p hn with q | q | ⟨j, hj, e⟩
  · exact Or.inl q
  · exact Or.inr ⟨Int32.not_lt.mpr (Int32.le_trans (nI_pos' hn) q), q⟩
  · exact absurd e (h j hj)
theorem bb_ouL {p : Int32} {n : Nat} (hn : n + 1 < 2 ^ 31) (h : ∀ s, s < n + 1 → p ≠ nI s) : p < 0 ∨ (¬ p < 0 ∧ nI n < p) := by
  rcases bb_ou hn h with q | ⟨q, q2⟩
  · exact Or.inl q
  · exact Or.inr ⟨q, Int32.lt_of_lt_of_le (nI_lt (Nat.lt_succ_self n) hn) q2⟩
theorem bx_st_i {post : Int32 → Prop} {s : Nat} (hN : N ≤ 12) (hs : s < N) (h : post 1) : wpX_isState post ((nI N), (nI L), xml, xql, xmt, xmi, xbT, xft, xtg, xbs, xfo) (nI s) :=
  br_f (nI_pos (by omega)) (br_f (nI_ge hs (by omega)) h)
theorem bx_st_o {post : Int32 → Prop} {p : Int32} (hN : N ≤ 12) (hs : ∀ s, s < N → p ≠ nI s) (h : post 0) : wpX_isState post ((nI N), (nI L), xml, xql, xmt, xmi, xbT, xft, xtg, xbs, xfo) p := by
  rcases bb_ou (by omega) hs with q | ⟨q, q2⟩
  · exact br_t q h
  · exact br_f q (br_t q2 h)
theorem bx_lb_i {post : Int32 → Prop} {s : Nat} (hL : L ≤ 3) (hs : s < L + 1) (h : post 1) : wpX_isLabel post ((nI N), (nI L), xml, xql, xmt, xmi, xbT, xft, xtg, xbs, xfo) (nI s) :=
  br_f (nI_pos (by omega)) (br_f (nI_nlt (by omega) (by omega)) h)
theorem bx_lb_o {post : Int32 → Prop} {p : Int32} (hL : L ≤ 3) (hs : ∀ s, s < L + 1 → p ≠ nI s) (h : post 0) : wpX_isLabel post ((nI N), (nI L), xml, xql, xmt, xmi, xbT, xft, xtg, xbs, xfo) p := by
  rcases bb_ouL (by omega) hs with q | ⟨q, q2⟩
  · exact br_t q h
  · exact br_f q (br_t q2 h)
theorem bx_fm_i {post : Int32 → Prop} {s m : Nat} (hN : m ≤ 32) (hs : s < m) (h : post 1) : wpX_isFormula post ((nI N), (nI L), xml, xql, xmt, xmi, xbT, nI m, xtg, xbs, xfo) (nI s) :=
  br_f (nI_pos (by omega)) (br_f (nI_ge hs (by omega)) h)
theorem bx_fm_o {post : Int32 → Prop} {p : Int32} {m : Nat} (hN : m ≤ 32) (hs : ∀ s, s < m → p ≠ nI s) (h : post 0) : wpX_isFormula post ((nI N), (nI L), xml, xql, xmt, xmi, xbT, nI m, xtg, xbs, xfo) p := by
  rcases bb_ou (by omega) hs with q | ⟨q, q2⟩
  · exact br_t q h
  · exact br_f q (br_t q2 h)
theorem bb_row (a s : Nat) : nI a * 12 + nI s = nI (a * 12 + s) := by
  show nI a * nI 12 + nI s = _
  rw [pk_mul, nI_add]
theorem bx_con {post : Int32 → Prop} {x : Int32} {s : Nat} (hs : s < 32) (h1 : bt x s = true → post 1) (h0 : ¬ bt x s = true → post 0) : wpX_contains post () x (nI s) :=
  ek_if (bb_con x hs) h0 (fun z => h1 (Classical.byContradiction z))
def bx_T (N L : Nat) (T : Nat → Nat → Nat → Prop) (tg : Nat → Int32) : Prop :=
  (∀ a s t, T a s t → a ≤ L ∧ s < N ∧ t < N) ∧ ∀ a s t, a ≤ L → s < N → (bt (tg (a * 12 + s)) t = true ↔ T a s t)
theorem bx_mit {post : Int32 → Prop} {a s t : Nat} (hT : bx_T N L T xtg) (hN : N ≤ 12) (hL : L ≤ 3) (ha : a ≤ L) (hs : s < N) (ht : t < N) (h1 : T a s t → post 1) (h0 : ¬ T a s t → post 0) : wpX_moveIsThere post ((nI N), (nI L), xml, xql, xmt, xmi, xbT, xft, xtg, xbs, xfo) (nI s) (nI a) (nI t) := by
  unfold wpX_moveIsThere wpX_row
  dsimp only
  rw [bb_row]
  refine ⟨vp_in_nI (by omega) (by decide), nm_r (congrArg xtg (nI_clamp (by omega))) ?_⟩
  exact bx_con (by omega) (fun q => ⟨rfl, h1 ((hT.2 a s t ha hs).mp q)⟩) (fun q => ⟨rfl, h0 fun z => q ((hT.2 a s t ha hs).mpr z)⟩)
theorem bx_smi {post : Int32 → Prop} {a : Nat} {x : Int32} (hT : bx_T N L T xtg) (hN : N ≤ 12) (hL : L ≤ 3) (ha : a ≤ L) (hp : ∀ r, (∀ s, bt r s = true ↔ ∃ t, T a s t ∧ bt x t = true) → post r) : wpX_statesMovingInto post ((nI N), (nI L), xml, xql, xmt, xmi, xbT, xft, xtg, xbs, xfo) (nI a) x := by
  unfold wpX_statesMovingInto
  dsimp only
  refine loop_0 (fun n i (r : Int32) => wX_statesMovingInto_5 post (nI a) x (nI N) (nI L) xml xql xmt xmi xbT xft xtg xbs xfo n r (nI i)) (fun i r => ∀ s, bt r s = true ↔ s < i ∧ ∃ t, T a s t ∧ bt x t = true) N 0 ?_ ?_ ?_
  · intro s
    rw [b_0]
    exact ⟨fun q => absurd q (by decide), fun q => absurd q.1 (Nat.not_lt_zero _)⟩
  · intro n r h
    refine br_t (nI_le (Nat.le_refl _) (by omega)) (hp r fun s => ?_)
    rw [h s]
    exact ⟨fun q => q.2, fun q => ⟨by obtain ⟨t, m, _⟩ := q; exact (hT.1 _ _ _ m).2.1, q⟩⟩
  · intro n i r hi h ih
    refine br_f (nI_ge hi (by omega)) ?_
    unfold wpX_row
    dsimp only
    rw [bb_row, nI_clamp (by omega)]
    refine ⟨vp_in_nI (by omega) (by decide), br_c (fun z => nm_r (nI_1 i) (ih r ?_)) (fun z => nm_e (nm_r (nI_1 i) (ih _ ?_)))⟩
    · intro s
      rw [h s]
      refine ⟨fun q => ⟨by omega, q.2⟩, fun q => ⟨?_, q.2⟩⟩
      by_cases e : s = i
      · obtain ⟨t, m, b⟩ := q.2
        subst e
        exact absurd ((bb_andS _ _ t).mpr ⟨(hT.2 a s t ha hi).mpr m, b⟩) ((bb_z _).mp z t)
      · omega
    · intro s
      rw [bb_ins _ (by omega), h s]
      constructor
      · rintro (q | e)
        · exact ⟨by omega, q.2⟩
        · subst e
          obtain ⟨t, b⟩ := (bb_nz _).mp z
          rw [bb_andS] at b
          exact ⟨by omega, t, (hT.2 a s t ha hi).mp b.1, b.2⟩
      · intro q
        by_cases e : s = i
        · exact Or.inr e
        · exact Or.inl ⟨by omega, q.2⟩
theorem bx_div {post : Int32 → Prop} {f : Int32} (hT : bx_T N L T xtg) (hN : N ≤ 12) (hL : L ≤ 3) (hF : ∀ s, bt f s = true → s < N) (hp : ∀ r, (∀ s, bt r s = true ↔ bb_Div T (fun s => bt f s = true) s) → post r) : wpX_divergentStates post ((nI N), (nI L), xml, xql, xmt, xmi, xbT, xft, xtg, xbs, xfo) f := by
  unfold wpX_divergentStates
  dsimp only
  refine loop_0 (fun n i (r : Int32) => wX_divergentStates_4 post (nI N) (nI L) xml xql xmt xmi xbT xft xtg xbs xfo n r (nI i)) (fun i r => bb_ID N T (fun s => bt f s = true) i (bt r)) N f (bb_ID_0 (fun s => Iff.rfl) hF) ?_ ?_
  · intro n r h
    exact br_t (nI_le (Nat.le_refl _) (by omega)) (hp r (bb_ID_N h))
  · intro n i r hi h ih
    refine br_f (nI_ge hi (by omega)) (bx_smi (a := 0) hT hN hL (Nat.zero_le _) (fun q hq => nm_e (nm_r (nI_1 i) (ih _ ?_))))
    exact bb_ID_s h (fun s => by rw [bb_andS, hq s])
theorem bx_unt {post : Int32 → Prop} {f g : Int32} {a : Nat} (hT : bx_T N L T xtg) (hN : N ≤ 12) (hL : L ≤ 3) (ha : a ≤ L)
    (hp : ∀ r, (∀ s, bt r s = true ↔ bb_Unt T (fun s => bt f s = true) a (fun s => bt g s = true) s ∨ (a = 0 ∧ bt g s = true)) → post r) : wpX_untilStates post ((nI N), (nI L), xml, xql, xmt, xmi, xbT, xft, xtg, xbs, xfo) f (nI a) g := by
  have hT' : ∀ a s t, T a s t → s < N ∧ t < N := fun a s t m => (hT.1 a s t m).2
  unfold wpX_untilStates
  dsimp only
  refine bx_smi hT hN hL ha (fun q hq => nm_e ?_)
  refine loop_0 (fun n i (r : Int32) => wX_untilStates_13 post f (nI a) g (nI N) (nI L) xml xql xmt xmi xbT xft xtg xbs xfo n r (nI i)) (fun i r => bb_IU N T (fun s => bt f s = true) a (fun s => bt g s = true) i (bt r)) N (f &&& q) (bb_IU_0 (fun s => by rw [bb_andS, hq s])) ?_ ?_
  · intro n r h
    have hr := bb_IU_N hT' h
    refine br_t (nI_le (Nat.le_refl _) (by omega)) (pk_eq a 0 (fun e => hp _ fun s => ?_) (fun e => hp _ fun s => ?_))
    · rw [bb_orS, hr s]
      exact ⟨fun z => z.elim Or.inl (fun z => Or.inr ⟨e, z⟩), fun z => z.elim Or.inl (fun z => Or.inr z.2)⟩
    · rw [hr s]
      exact ⟨Or.inl, fun z => z.elim id (fun z => absurd z.1 e)⟩
  · intro n i r hi h ih
    refine br_f (nI_ge hi (by omega)) (bx_smi (a := 0) hT hN hL (Nat.zero_le _) (fun q hq => nm_e (nm_r (nI_1 i) (ih _ ?_))))
    exact bb_IU_s hT' h (fun s => by rw [bb_orS, bb_andS, hq s])
end
end
section
section
variable {T : Nat → Nat → Nat → Prop} {N L : Nat} {xml xql xmt xmi xbT xft : Int32} {xtg xbs xfo : Nat → Int32}
theorem bx_bw {post : Int32 → Prop} {s k m : Nat} (hm : m ≤ 12) (hs : s < 32) (hk : k < m) (hb : bb_BS xbs k s) (hu : ∀ i, i < m → bb_BS xbs i s → i = k) (hp : post (nI k)) : wpX_blockWith post ((nI N), (nI L), xml, xql, xmt, xmi, nI m, xft, xtg, xbs, xfo) (nI s) := by
  unfold wpX_blockWith
  dsimp only
  refine loop_0 (fun n i (r : Int32) => wX_blockWith_4 post (nI s) (nI N) (nI L) xml xql xmt xmi (nI m) xft xtg xbs xfo n r (nI i)) (fun i r => k < i → r = nI k) m 0 ?_ ?_ ?_
  · intro h
    omega
  · intro n r h
    rw [h hk]
    exact br_t (nI_le (Nat.le_refl _) (by omega)) hp
  · intro n i r hi h ih
    refine br_f (nI_ge hi (by omega)) ⟨vp_in_nI (by omega) (by decide), ?_⟩
    rw [nI_clamp (by omega)]
    refine bx_con hs (fun q => ?_) (fun q => ?_)
    · refine br_f (by decide) (nm_r (nI_1 i) (ih _ fun _ => ?_))
      rw [hu i hi q]
    · refine br_t rfl (nm_r (nI_1 i) (ih _ fun z => h ?_))
      have : i ≠ k := fun e => q (by rw [e]; exact hb)
      omega
theorem bb_bs_cut {g : Nat → Int32} {m k : Nat} {U : Int32} (hk : k < m) : bb_BS (upd (upd g k (g k &&& U)) m (g k &&& (U ^^^ (-1)))) = bb_cutB m k (bb_BS g) (fun s => bt U s = true) := by
  funext i s
  unfold bb_cutB bb_BS
  by_cases e : i = m
  · subst e
    rw [pk_us, if_pos rfl]
    exact propext (bb_diffS _ _ _)
  · rw [pk_un e, if_neg e]
    by_cases e2 : i = k
    · subst e2
      rw [pk_us, if_pos rfl]
      exact propext (bb_andS _ _ _)
    · rw [pk_un e2, if_neg e2]
theorem bx_cut {post : Int32 → St2 → Prop} {k m : Nat} {U : Int32} (hm : m ≤ 12) (hk : k < m)
    (h0 : ((∀ s, bb_BS xbs k s → bt U s = true) ∨ (∀ s, bb_BS xbs k s → ¬ bt U s = true)) → post 0 ((nI N), (nI L), xml, xql, xmt, xmi, nI m, xft, xtg, xbs, xfo))
    (hr : (∃ s, bb_BS xbs k s ∧ bt U s = true) → (∃ s, bb_BS xbs k s ∧ ¬ bt U s = true) → m < 12)
    (h1 : (∃ s, bb_BS xbs k s ∧ bt U s = true) → (∃ s, bb_BS xbs k s ∧ ¬ bt U s = true) → post 1 ((nI N), (nI L), xml, xql, xmt, xmi, nI (m + 1), xft, xtg, upd (upd xbs k (xbs k &&& U)) m (xbs k &&& (U ^^^ (-1))), xfo)) : wpX_cutBlock post ((nI N), (nI L), xml, xql, xmt, xmi, nI m, xft, xtg, xbs, xfo) (nI k) U := by
  unfold wpX_cutBlock
  dsimp only
  rw [nI_clamp (by omega), nI_clamp (by omega)]
  refine ⟨vp_in_nI (by omega) (by decide), nm_e ⟨vp_in_nI (by omega) (by decide), nm_e (br_c (fun z => h0 (Or.inr fun s b u => ?_)) (fun z => br_c (fun z2 => h0 (Or.inl fun s b => ?_)) (fun z2 => ?_)))⟩⟩
  · exact (bb_z _).mp z s ((bb_andS _ _ _).mpr ⟨b, u⟩)
  · exact Classical.byContradiction fun u => (bb_z _).mp z2 s ((bb_diffS _ _ _).mpr ⟨b, u⟩)
  · have e1 : ∃ s, bb_BS xbs k s ∧ bt U s = true := by
      obtain ⟨s, q⟩ := (bb_nz _).mp z
      exact ⟨s, (bb_andS _ _ _).mp q⟩
    have e2 : ∃ s, bb_BS xbs k s ∧ ¬ bt U s = true := by
      obtain ⟨s, q⟩ := (bb_nz _).mp z2
      exact ⟨s, (bb_diffS _ _ _).mp q⟩
    refine ⟨vp_in_nI (by omega) (by decide), nm_e ⟨vp_in_nI (hr e1 e2) (by decide), nm_e (nm_r (nI_1 m) (h1 e1 e2))⟩⟩
def bx_PC (N : Nat) (T : Nat → Nat → Nat → Prop) (m : Nat) (g : Nat → Int32) : Prop := bb_Par N m (bb_BS g) ∧ bb_Co N T m (bb_BS g)
theorem bx_cutS {post : Int32 → St2 → Prop} {k m : Nat} {U : Int32} (hN : N ≤ 12) (hP : bx_PC N T m xbs) (hk : k < m)
    (hU : ∀ R, bb_Eqv N R → bb_Stb T R → ∀ s t, R s t → bb_BS xbs k s → bt U s = true → bt U t = true)
    (h0 : (∀ s t, bb_BS xbs k s → bb_BS xbs k t → bt U s = true → bt U t = true) → post 0 ((nI N), (nI L), xml, xql, xmt, xmi, nI m, xft, xtg, xbs, xfo))
    (h1 : ∀ g', bx_PC N T (m + 1) g' → post 1 ((nI N), (nI L), xml, xql, xmt, xmi, nI (m + 1), xft, xtg, g', xfo)) : wpX_cutBlock post ((nI N), (nI L), xml, xql, xmt, xmi, nI m, xft, xtg, xbs, xfo) (nI k) U := by
  have hm := bb_par_le hP.1
  refine bx_cut (by omega) hk (fun h => h0 ?_) (fun e1 e2 => ?_) (fun e1 e2 => h1 _ ⟨?_, ?_⟩)
  · intro s t bs' bt' u
    rcases h with h | h
    · exact h t bt'
    · exact absurd u (h s bs')
  · have := bb_par_le (bb_par_cut hP.1 hk e1 e2)
    omega
  · rw [bb_bs_cut hk]
    exact bb_par_cut hP.1 hk e1 e2
  · rw [bb_bs_cut hk]
    exact bb_co_cut hP.2 hk hU
theorem bx_cbd {post : Int32 → St2 → Prop} {k m : Nat} (hT : bx_T N L T xtg) (hN : N ≤ 12) (hL : L ≤ 3) (hP : bx_PC N T m xbs) (hk : k < m)
    (h0 : (∀ s t, bb_BS xbs k s → bb_BS xbs k t → bb_Div T (bb_BS xbs k) s → bb_Div T (bb_BS xbs k) t) → post 0 ((nI N), (nI L), xml, xql, xmt, xmi, nI m, xft, xtg, xbs, xfo))
    (h1 : ∀ g', bx_PC N T (m + 1) g' → post 1 ((nI N), (nI L), xml, xql, xmt, xmi, nI (m + 1), xft, xtg, g', xfo)) : wpX_cutByDivergence post ((nI N), (nI L), xml, xql, xmt, xmi, nI m, xft, xtg, xbs, xfo) (nI k) := by
  have hm := bb_par_le hP.1
  have hT' : ∀ a s t, T a s t → s < N ∧ t < N := fun a s t m => (hT.1 a s t m).2
  unfold wpX_cutByDivergence
  dsimp only
  rw [nI_clamp (by omega)]
  refine ⟨vp_in_nI (by omega) (by decide), bx_div hT hN hL (fun s q => hP.1.2.1 k s hk q) (fun r hr => ?_)⟩
  refine bx_cutS hN hP hk ?_ (fun h => ⟨rfl, h0 fun s t a b d => ?_⟩) (fun g' hg => ⟨rfl, h1 g' hg⟩)
  · intro R hE hS s t q b u
    rw [hr] at u ⊢
    exact bb_cutD hT' hE hS (fun x y q2 b2 => hP.2 R hE hS k x y hk q2 b2) u q
  · exact (hr t).mp (h s t a b ((hr s).mpr d))
def bx_FU (T : Nat → Nat → Nat → Prop) (g : Nat → Int32) (k a c : Nat) : Prop :=
  ∀ s t, bb_BS g k s → bb_BS g k t → bb_Unt T (bb_BS g k) a (bb_BS g c) s → bb_Unt T (bb_BS g k) a (bb_BS g c) t
theorem bx_cbm37 {post : Int32 → St2 → Prop} {J7 J18 : Int32 → Int32 → Int32 → Int32 → Int32 → Int32 → Int32 → Int32 → Int32 → (Nat → Int32) → (Nat → Int32) → (Nat → Int32) → Prop} {k m a c : Nat} (hT : bx_T N L T xtg) (hN : N ≤ 12) (hL : L ≤ 3) (hP : bx_PC N T m xbs) (hk : k < m) (ha : a ≤ L) (hc : c < m) (hac : a = 0 → c ≠ k)
    (h0 : bx_FU T xbs k a c → J18 (nI (c + 1)) (nI N) (nI L) xml xql xmt xmi (nI m) xft xtg xbs xfo)
    (h1 : ∀ g', bx_PC N T (m + 1) g' → post 1 ((nI N), (nI L), xml, xql, xmt, xmi, nI (m + 1), xft, xtg, g', xfo)) : wX_cutByMoves_37 post J7 J18 (nI k) (nI m) (nI a) (nI c) (nI N) (nI L) xml xql xmt xmi (nI m) xft xtg xbs xfo := by
  have hm := bb_par_le hP.1
  have hT' : ∀ a s t, T a s t → s < N ∧ t < N := fun a s t m => (hT.1 a s t m).2
  unfold wX_cutByMoves_37
  rw [nI_clamp (by omega), nI_clamp (by omega)]
  refine ⟨vp_in_nI (by omega) (by decide), vp_in_nI (by omega) (by decide), bx_unt hT hN hL ha (fun r hr => ?_)⟩
  have hr' : ∀ s, bb_BS xbs k s → (bt r s = true ↔ bb_Unt T (bb_BS xbs k) a (bb_BS xbs c) s) := by
    intro s b
    rw [hr]
    refine ⟨fun z => z.elim id (fun z => ?_), Or.inl⟩
    exact absurd (hP.1.2.2.1 c k s hc hk z.2 b) (hac z.1)
  refine bx_cutS hN hP hk ?_ (fun h => br_t rfl (nm_r (nI_1 c) (h0 fun s t x y d => ?_))) (fun g' hg => br_f (by decide) (h1 g' hg))
  · intro R hE hS s t q b u
    have b' := hP.2 R hE hS k s t hk q b
    rw [hr' s b] at u
    rw [hr' t b']
    refine bb_cutU hT' hE hS (fun x y q2 b2 => hP.2 R hE hS k x y hk q2 b2) (fun x y q2 b2 => hP.2 R hE hS c x y hc q2 b2) ?_ u t q
    intro e x b1 b2
    exact hac e (hP.1.2.2.1 c k x hc hk b2 b1)
  · exact (hr' t y).mp (h s t x y ((hr' s x).mpr d))
theorem bx_cbm18 {post : Int32 → St2 → Prop} {J7 : Int32 → Int32 → Int32 → Int32 → Int32 → Int32 → Int32 → Int32 → Int32 → (Nat → Int32) → (Nat → Int32) → (Nat → Int32) → Prop} {k m a : Nat} (hT : bx_T N L T xtg) (hN : N ≤ 12) (hL : L ≤ 3) (hP : bx_PC N T m xbs) (hk : k < m) (ha : a ≤ L)
    (h0 : (∀ c, c < m → (a = 0 → c ≠ k) → bx_FU T xbs k a c) → J7 (nI (a + 1)) (nI N) (nI L) xml xql xmt xmi (nI m) xft xtg xbs xfo)
    (h1 : ∀ g', bx_PC N T (m + 1) g' → post 1 ((nI N), (nI L), xml, xql, xmt, xmi, nI (m + 1), xft, xtg, g', xfo)) : ∃ n, wX_cutByMoves_18 post J7 (nI k) (nI m) (nI a) n 0 (nI N) (nI L) xml xql xmt xmi (nI m) xft xtg xbs xfo := by
  have hm := bb_par_le hP.1
  refine loop_0 (fun n i (_ : Unit) => wX_cutByMoves_18 post J7 (nI k) (nI m) (nI a) n (nI i) (nI N) (nI L) xml xql xmt xmi (nI m) xft xtg xbs xfo) (fun i _ => ∀ c, c < i → (a = 0 → c ≠ k) → bx_FU T xbs k a c) m () ?_ ?_ ?_
  · intro c h
    omega
  · intro n _ h
    exact br_t (nI_le (Nat.le_refl _) (by omega)) (nm_r (nI_1 a) (h0 h))
  · intro n i _ hi h ih
    refine br_f (nI_ge hi (by omega)) ?_
    have go : (a = 0 → i ≠ k) → wX_cutByMoves_37 post J7 (wX_cutByMoves_18 post J7 (nI k) (nI m) (nI a) n) (nI k) (nI m) (nI a) (nI i) (nI N) (nI L) xml xql xmt xmi (nI m) xft xtg xbs xfo := by
      intro hac
      refine bx_cbm37 hT hN hL hP hk ha hi hac (fun f => ih () fun c hc hc2 => ?_) h1
      by_cases e : c = i
      · rw [e]; exact f
      · exact h c (by omega) hc2
    refine pk_eq a 0 (fun e => pk_eq i k (fun e2 => nm_r (nI_1 i) (ih () fun c hc hc2 => ?_)) (fun e2 => go fun _ => e2)) (fun e => go fun z => absurd z e)
    have := hc2 e
    exact h c (by omega) hc2
theorem bx_cbm {post : Int32 → St2 → Prop} {k m : Nat} (hT : bx_T N L T xtg) (hN : N ≤ 12) (hL : L ≤ 3) (hP : bx_PC N T m xbs) (hk : k < m)
    (h0 : (∀ a c, c < m → (a = 0 → c ≠ k) → bx_FU T xbs k a c) → post 0 ((nI N), (nI L), xml, xql, xmt, xmi, nI m, xft, xtg, xbs, xfo))
    (h1 : ∀ g', bx_PC N T (m + 1) g' → post 1 ((nI N), (nI L), xml, xql, xmt, xmi, nI (m + 1), xft, xtg, g', xfo)) : wpX_cutByMoves post ((nI N), (nI L), xml, xql, xmt, xmi, nI m, xft, xtg, xbs, xfo) (nI k) := by
  have hm := bb_par_le hP.1
  unfold wpX_cutByMoves
  dsimp only
  refine loop_0 (fun n i (_ : Unit) => wX_cutByMoves_7 post (nI k) (nI m) n (nI i) (nI N) (nI L) xml xql xmt xmi (nI m) xft xtg xbs xfo) (fun i _ => ∀ a c, a < i → c < m → (a = 0 → c ≠ k) → bx_FU T xbs k a c) (L + 1) () ?_ ?_ ?_
  · intro a c h
    omega
  · intro n _ h
    refine br_t (nI_lt (by omega) (by omega)) (h0 fun a c hc hac => ?_)
    by_cases ha : a < L + 1
    · exact h a c ha hc hac
    · intro s t _ _ d
      refine (d (fun _ => False) ?_ ?_).elim
      · intro v x _ q _
        have := (hT.1 _ _ _ q).1
        omega
      · intro v w _ _ z
        exact z
  · intro n i _ hi h ih
    refine br_f (nI_nlt (by omega) (by omega)) (bx_cbm18 hT hN hL hP hk (by omega) (fun f => ih () fun a c ha hc hac => ?_) h1)
    by_cases e : a = i
    · subst e
      exact f c hc hac
    · exact h a c (by omega) hc hac
theorem bx_fb41 {post : St2 → Prop} {J19 : Int32 → Int32 → Int32 → Int32 → Int32 → Int32 → Int32 → Int32 → Int32 → Int32 → (Nat → Int32) → (Nat → Int32) → (Nat → Int32) → Prop} {r b : Nat} (hT : bx_T N L T xtg) (hN : N ≤ 12) (hL : L ≤ 3) (hP : bx_PC N T b xbs)
    (h0 : (∀ k, k < b → bb_Fix T b (bb_BS xbs) k) → J19 0 (nI (r + 1)) (nI N) (nI L) xml xql xmt xmi (nI b) xft xtg xbs xfo)
    (h1 : ∀ m g', b < m → bx_PC N T m g' → J19 1 (nI (r + 1)) (nI N) (nI L) xml xql xmt xmi (nI m) xft xtg g' xfo) : ∃ n, wX_findBlocks_41 post J19 (nI r) (nI b) n 0 0 (nI N) (nI L) xml xql xmt xmi (nI b) xft xtg xbs xfo := by
  have hb := bb_par_le hP.1
  refine loop_0 (fun n i (s : Int32 × Nat × (Nat → Int32)) => wX_findBlocks_41 post J19 (nI r) (nI b) n s.1 (nI i) (nI N) (nI L) xml xql xmt xmi (nI s.2.1) xft xtg s.2.2 xfo)
    (fun i s => (s.1 = 0 ∧ s.2.1 = b ∧ s.2.2 = xbs ∧ ∀ k, k < i → bb_Fix T b (bb_BS xbs) k) ∨ (s.1 = 1 ∧ b < s.2.1 ∧ bx_PC N T s.2.1 s.2.2)) b (0, b, xbs) ?_ ?_ ?_
  · exact Or.inl ⟨rfl, rfl, rfl, fun k h => absurd h (Nat.not_lt_zero _)⟩
  · rintro n ⟨f, m, g⟩ h
    dsimp only at h ⊢
    refine br_t (nI_le (Nat.le_refl _) (by omega)) (nm_r (nI_1 r) ?_)
    rcases h with ⟨e1, e2, e3, h⟩ | ⟨e1, h, hg⟩
    · subst e1 e2 e3
      exact h0 h
    · subst e1
      exact h1 m g h hg
  · rintro n i ⟨f, m, g⟩ hi h ih
    dsimp only at h ⊢
    refine br_f (nI_ge hi (by omega)) ?_
    have hPg : bx_PC N T m g ∧ b ≤ m := by
      rcases h with ⟨e1, e2, e3, h⟩ | ⟨e1, h, hg⟩
      · subst e2 e3
        exact ⟨hP, Nat.le_refl _⟩
      · exact ⟨hg, by omega⟩
    obtain ⟨hPg, hbm⟩ := hPg
    refine bx_cbd hT hN hL hPg (by omega) (fun f1 => br_t rfl ?_) (fun g' hg => br_f (by decide) (nm_r (nI_1 i) (ih (1, m + 1, g') (Or.inr ⟨rfl, by dsimp only; omega, hg⟩))))
    refine bx_cbm hT hN hL hPg (by omega) (fun f2 => br_t rfl (nm_r (nI_1 i) (ih (f, m, g) ?_))) (fun g' hg => br_f (by decide) (nm_r (nI_1 i) (ih (1, m + 1, g') (Or.inr ⟨rfl, by dsimp only; omega, hg⟩))))
    rcases h with ⟨e1, e2, e3, h⟩ | ⟨e1, h, hg⟩
    · subst e2 e3
      refine Or.inl ⟨e1, rfl, rfl, fun k hk => ?_⟩
      by_cases e : k = i
      · subst e
        exact ⟨f1, f2⟩
      · exact h k (by omega)
    · exact Or.inr ⟨e1, h, hg⟩
theorem bx_fb {post : St2 → Prop} (hT : bx_T N L T xtg) (h2 : 2 ≤ N) (hN : N ≤ 12) (hL : L ≤ 3) (hp : ∀ m g, bx_PC N T m g → (∀ k, k < m → bb_Fix T m (bb_BS g) k) → post ((nI N), (nI L), xml, xql, xmt, xmi, nI m, xft, xtg, g, xfo)) : wpX_findBlocks post ((nI N), (nI L), xml, xql, xmt, xmi, xbT, xft, xtg, xbs, xfo) := by
  unfold wpX_findBlocks wpX_allStates
  dsimp only
  refine nm_e ?_
  refine loop_0 (fun n i (s : Int32 × Nat × (Nat → Int32)) => wX_findBlocks_19 post n s.1 (nI i) (nI N) (nI L) xml xql xmt xmi (nI s.2.1) xft xtg s.2.2 xfo)
    (fun i s => bx_PC N T s.2.1 s.2.2 ∧ ((s.1 = 0 ∧ ∀ k, k < s.2.1 → bb_Fix T s.2.1 (bb_BS s.2.2) k) ∨ (s.1 = 1 ∧ i + 1 ≤ s.2.1))) N (1, 1, upd xbs 0 (((1 : Int32) <<< ((nI N) &&& 31)) - 1)) ?_ ?_ ?_
  · have key : ∀ s, bb_BS (upd xbs 0 (((1 : Int32) <<< ((nI N) &&& 31)) - 1)) 0 s ↔ s < N := by
      intro s
      unfold bb_BS
      rw [pk_us]
      exact bb_allS (by omega) s
    refine ⟨⟨⟨?_, ?_, ?_, ?_⟩, ?_⟩, Or.inr ⟨rfl, Nat.le_refl _⟩⟩
    · intro i hi
      have e : i = 0 := Nat.lt_one_iff.mp hi
      subst e
      exact ⟨0, (key 0).mpr (by omega)⟩
    · intro i s hi q
      have e : i = 0 := Nat.lt_one_iff.mp hi
      subst e
      exact (key s).mp q
    · intro i j s hi hj _ _
      have e : i = 0 := Nat.lt_one_iff.mp hi
      have e2 : j = 0 := Nat.lt_one_iff.mp hj
      rw [e, e2]
    · intro s hs
      exact ⟨0, Nat.zero_lt_one, (key s).mpr hs⟩
    · intro R hE _ i s t hi q b
      have e : i = 0 := Nat.lt_one_iff.mp hi
      subst e
      exact (key t).mpr (hE.2.2.2 _ _ q).2
  · rintro n ⟨f, m, g⟩ ⟨hP, h⟩
    dsimp only at hP h ⊢
    refine br_t (nI_le (Nat.le_refl _) (by omega)) (hp m g hP ?_)
    rcases h with ⟨_, h⟩ | ⟨_, h⟩
    · exact h
    · have := bb_par_le hP.1
      omega
  · rintro n i ⟨f, m, g⟩ hi ⟨hP, h⟩ ih
    dsimp only at hP h ⊢
    refine br_f (nI_ge hi (by omega)) ?_
    rcases h with ⟨e, h⟩ | ⟨e, h⟩
    · exact br_t e (hp m g hP h)
    · subst e
      refine br_f (by decide) (bx_fb41 hT hN hL hP (fun f => ih (0, m, g) ⟨hP, Or.inl ⟨rfl, f⟩⟩) (fun m' g' hm hg => ih (1, m', g') ⟨hg, Or.inr ⟨rfl, ?_⟩⟩))
      dsimp only
      omega
theorem bx_ob {post : St2 → Prop} {m : Nat} {c : Nat → Nat} (hN : N ≤ 12) (hc : ∀ s, s < N → c s ≤ s ∧ c (c s) = c s) (h0 : bb_OI N c m xbs 0 0) (hp : ∀ g o, bb_OI N c m g N o → post ((nI N), (nI L), xml, xql, xmt, xmi, nI m, xft, xtg, g, xfo)) : wpX_orderBlocksByLeastState post ((nI N), (nI L), xml, xql, xmt, xmi, nI m, xft, xtg, xbs, xfo) := by
  have hm := bb_par_le h0.1
  unfold wpX_orderBlocksByLeastState
  dsimp only
  refine loop_0 (fun n i (s : Nat × (Nat → Int32)) => wX_orderBlocksByLeastState_4 post (nI N) (nI L) xml xql xmt xmi (nI m) xft n (nI s.1) (nI i) xtg s.2 xfo) (fun i s => bb_OI N c m s.2 i s.1) N (0, xbs) h0 ?_ ?_
  · rintro n ⟨o, g⟩ h
    exact br_t (nI_le (Nat.le_refl _) (by omega)) (hp g o h)
  · rintro n i ⟨o, g⟩ hi h ih
    dsimp only at h ⊢
    refine br_f (nI_ge hi (by omega)) ?_
    obtain ⟨k, hk, hb⟩ := h.1.2.2.2 i hi
    have ho := h.2.2.2.1
    refine bx_bw (k := k) (by omega) (by omega) hk hb (fun j hj q => h.1.2.2.1 j k i hj hk q hb) ?_
    refine pk_lt k o (fun z => nm_r (nI_1 i) (ih (o, g) (bb_OI_a hc h hi hk hb z))) (fun z => ?_)
    rw [nI_clamp (by omega), nI_clamp (by omega)]
    refine ⟨vp_in_nI (by omega) (by decide), nm_e ⟨vp_in_nI (by omega) (by decide), vp_in_nI (by omega) (by decide), nm_e ⟨vp_in_nI (by omega) (by decide), nm_e (nm_r (nI_1 o) (nm_r (nI_1 i) (ih (o + 1, upd (upd g k (g o)) o (g k)) (bb_OI_b hc h hi hk hb z ?_))))⟩⟩⟩
    intro j
    dsimp only
    by_cases e : j = o
    · rw [if_pos e, e, pk_us]
    · rw [if_neg e, pk_un e]
      by_cases e2 : j = k
      · rw [if_pos e2, e2, pk_us]
      · rw [if_neg e2, pk_un e2]
theorem bx_min {post : Int32 → St2 → Prop} {c : Nat → Nat} (hT : bx_T N L T xtg) (h2 : 2 ≤ N) (hN : N ≤ 12) (hL : L ≤ 3) (hl : bb_Ld N T c)
    (hp : ∀ g, (∀ s, s < N → c s ≤ s ∧ c (c s) = c s) → (∀ i s, i < bb_cn (bb_ldr c) N → (bt (g i) s = true ↔ s < N ∧ bb_nb c s = i)) → post (nI (bb_cn (bb_ldr c) N)) ((nI N), (nI L), xml, xql, xmt, 1, nI (bb_cn (bb_ldr c) N), xft, xtg, g, xfo)) : wpX_minimise post ((nI N), (nI L), xml, xql, xmt, 0, xbT, xft, xtg, xbs, xfo) := by
  have hT' : ∀ a s t, T a s t → s < N ∧ t < N := fun a s t m => (hT.1 a s t m).2
  unfold wpX_minimise
  dsimp only
  refine br_t rfl (bx_fb hT h2 hN hL (fun m g hP hF => ?_))
  have hb := bb_is_bis hP.1 hT' hP.2 hF
  have hE := bb_pr_eqv hP.1
  have hsp : bb_Sp N T c := bb_ld_sp hl (fun s hs => (hb s s).mp (hE.1 s hs)) (fun s t q => (hb t s).mp (hE.2.1 _ _ ((hb s t).mpr q))) (fun s t u q q2 => (hb s u).mp (hE.2.2.1 _ _ _ ((hb s t).mpr q) ((hb t u).mpr q2)))
  refine bx_ob hN hsp.1 (bb_OI_0 hP.1 (fun x y => (hb x y).trans (hsp.2 x y).symm)) (fun g' o h => ?_)
  obtain ⟨e, h'⟩ := bb_OI_N hsp.1 h
  subst e
  exact hp g' hsp.1 h'
end
end
section
section
variable {T : Nat → Nat → Nat → Prop} {N L fm : Nat} {xml xql xmt xmi xbT xft : Int32} {xtg xbs xfo : Nat → Int32} {c : Nat → Nat}
def bb_Fm (N L : Nat) (T : Nat → Nat → Nat → Prop) (c : Nat → Nat) (kd lf fl rt fo : Nat → Int32) (f : Nat) : Prop :=
  (kd f = nI 0 ∧ ∀ u, u < N → bt (fo f) u = true) ∨
  (kd f = nI 5 ∧ ∃ l, l < N ∧ lf f = nI l ∧ ∀ u, u < N → (bt (fo f) u = true ↔ c u = c l)) ∨
  (kd f = nI 1 ∧ ∃ l, l < f ∧ lf f = nI l ∧ ∀ u, u < N → (bt (fo f) u = true ↔ ¬ bt (fo l) u = true)) ∨
  (kd f = nI 2 ∧ ∃ l r, l < f ∧ r < f ∧ lf f = nI l ∧ rt f = nI r ∧ ∀ u, u < N → (bt (fo f) u = true ↔ bt (fo l) u = true ∧ bt (fo r) u = true)) ∨
  (kd f = nI 3 ∧ ∃ l a r, l < f ∧ a ≤ L ∧ r < f ∧ lf f = nI l ∧ fl f = nI a ∧ rt f = nI r ∧ ∀ u, u < N → (bt (fo f) u = true ↔ bb_Unt T (bb_BS fo l) a (bb_BS fo r) u ∨ (a = 0 ∧ bt (fo r) u = true))) ∨
  (kd f = nI 4 ∧ ∃ l, l < f ∧ lf f = nI l ∧ ∀ u, u < N → (bt (fo f) u = true ↔ bb_Div T (bb_BS fo l) u))
def bb_V (fm L : Nat) (p0 p1 p2 p3 : Int32) : Prop := ∃ kk, kk < 5 ∧ p0 = nI kk ∧ (kk ≠ 0 → ∃ l, l < fm ∧ p1 = nI l) ∧ ((kk = 2 ∨ kk = 3) → ∃ r, r < fm ∧ p3 = nI r) ∧ (kk = 3 → ∃ a, a < L + 1 ∧ p2 = nI a)
theorem bb_BS_up {fo : Nat → Int32} {r : Int32} {l : Nat} (hl : l < fm) : bb_BS (upd fo fm r) l = bb_BS fo l := by
  funext s
  unfold bb_BS
  rw [pk_un (by omega)]
theorem bx_sf {post : Int32 → Prop} {p0 p1 p2 p3 : Int32} (hT : bx_T N L T xtg) (hN : N ≤ 12) (hL : L ≤ 3) (hfm : fm ≤ 32) (hV : bb_V fm L p0 p1 p2 p3) (hF : ∀ f, f < fm → ∀ u, bt (xfo f) u = true → u < N)
    (hp : ∀ r, (∀ u, bt r u = true → u < N) → (∀ kd lf fl rt, bb_Fm N L T c (upd kd fm p0) (upd lf fm p1) (upd fl fm p2) (upd rt fm p3) (upd xfo fm r) fm) → post r) : wpX_statesOfForm post ((nI N), (nI L), xml, xql, xmt, xmi, xbT, xft, xtg, xbs, xfo) p0 p1 p2 p3 := by
  obtain ⟨kk, hk, e0, o1, o3, o2⟩ := hV
  have all : ∀ i, bt (((1 : Int32) <<< (nI N &&& 31)) - 1) i = true ↔ i < N := fun i => bb_allS (by omega) i
  unfold wpX_statesOfForm wpX_allStates
  dsimp only
  have hk' : kk = 0 ∨ kk = 1 ∨ kk = 2 ∨ kk = 3 ∨ kk = 4 := by omega
  rcases hk' with e | e | e | e | e
  · subst e e0
    refine br_t (by decide) (hp _ (fun u q => (all u).mp q) fun kd lf fl rt => Or.inl ⟨pk_us, fun u hu => ?_⟩)
    rw [pk_us]
    exact (all u).mpr hu
  · obtain ⟨l, hl, e1⟩ := o1 (by omega)
    subst e e0 e1
    rw [nI_clamp (n := l) (by omega)]
    refine br_f (by decide) (br_f (by decide) (br_t rfl ⟨vp_in_nI (by omega) (by decide), hp _ (fun u q => (all u).mp ((bb_diffS _ _ _).mp q).1) fun kd lf fl rt => Or.inr (Or.inr (Or.inl ⟨pk_us, l, hl, pk_us, fun u hu => ?_⟩))⟩))
    rw [pk_us, pk_un (by omega), bb_diffS]
    exact ⟨fun q => q.2, fun q => ⟨(all u).mpr hu, q⟩⟩
  · obtain ⟨l, hl, e1⟩ := o1 (by omega)
    obtain ⟨r, hr, e3⟩ := o3 (by omega)
    subst e e0 e1 e3
    rw [nI_clamp (n := l) (by omega), nI_clamp (n := r) (by omega)]
    refine br_f (by decide) (br_f (by decide) (br_f (by decide) (br_t rfl ⟨vp_in_nI (by omega) (by decide), vp_in_nI (by omega) (by decide), hp _ (fun u q => hF l hl u ((bb_andS _ _ _).mp q).1) fun kd lf fl rt => Or.inr (Or.inr (Or.inr (Or.inl ⟨pk_us, l, r, hl, hr, pk_us, pk_us, fun u hu => ?_⟩)))⟩)))
    rw [pk_us, pk_un (by omega), pk_un (by omega), bb_andS]
  · obtain ⟨l, hl, e1⟩ := o1 (by omega)
    obtain ⟨r, hr, e3⟩ := o3 (by omega)
    obtain ⟨a, ha, e2⟩ := o2 (by omega)
    subst e e0 e1 e2 e3
    rw [nI_clamp (n := l) (by omega), nI_clamp (n := r) (by omega)]
    refine br_f (by decide) (br_f (by decide) (br_f (by decide) (br_f (by decide) (br_t rfl ⟨vp_in_nI (by omega) (by decide), vp_in_nI (by omega) (by decide), bx_unt hT hN hL (by omega) (fun x hx => hp x (fun u q => ?_) fun kd lf fl rt => Or.inr (Or.inr (Or.inr (Or.inr (Or.inl ⟨pk_us, l, a, r, hl, by omega, hr, pk_us, pk_us, pk_us, fun u hu => ?_⟩)))))⟩))))
    · rcases (hx u).mp q with z | z
      · exact hF l hl u (bb_unt_F z)
      · exact hF r hr u z.2
    · rw [pk_us, bb_BS_up hl, bb_BS_up hr, pk_un (by omega)]
      exact hx u
  · obtain ⟨l, hl, e1⟩ := o1 (by omega)
    subst e e0 e1
    rw [nI_clamp (n := l) (by omega)]
    refine br_f (by decide) (br_f (by decide) (br_f (by decide) (br_f (by decide) (br_f (by decide) (br_t rfl ⟨vp_in_nI (by omega) (by decide), bx_div hT hN hL (hF l hl) (fun x hx => hp x (fun u q => ?_) fun kd lf fl rt => Or.inr (Or.inr (Or.inr (Or.inr (Or.inr ⟨pk_us, l, hl, pk_us, fun u hu => ?_⟩)))))⟩)))))
    · exact hF l hl u (bb_div_F ((hx u).mp q))
    · rw [pk_us, bb_BS_up hl]
      exact hx u
theorem bx_kf {post : Int32 → St2 → Prop} {r : Int32} (h : fm < 32) (hp : post (nI fm) ((nI N), (nI L), xml, xql, xmt, xmi, xbT, nI (fm + 1), xtg, xbs, upd xfo fm r)) : wpX_keepFormula post ((nI N), (nI L), xml, xql, xmt, xmi, xbT, nI fm, xtg, xbs, xfo) r := by
  unfold wpX_keepFormula
  dsimp only
  rw [nI_clamp (n := fm) (by omega)]
  exact ⟨vp_in_nI h (by decide), nm_e (nm_r (nI_1 fm) hp)⟩
theorem bx_make {post : Int32 → St2 → Prop} {p0 p1 p2 p3 : Int32} (hL : L ≤ 3) (hfm : fm ≤ 32) (hbad : ¬ bb_V fm L p0 p1 p2 p3 → post 101 ((nI N), (nI L), xml, xql, xmt, 1, xbT, nI fm, xtg, xbs, xfo)) (hok : bb_V fm L p0 p1 p2 p3 → wX_make_75 post p0 p1 p2 p3 (nI N) (nI L) xml xql xmt 1 xbT (nI fm) xtg xbs xfo) : wpX_make post ((nI N), (nI L), xml, xql, xmt, 1, xbT, nI fm, xtg, xbs, xfo) p0 p1 p2 p3 := by
  unfold wpX_make
  dsimp only
  refine br_f (by decide) ?_
  rcases bb_cs p0 (4 + 1) with ⟨kk, hk, e⟩ | hk
  · subst e
    have inj : ∀ j, j < 5 → nI kk = nI j → kk = j := fun j hj z => (nI_eq (by omega) (by omega)).mp z
    have vk : ∀ {P : Nat → Prop}, (∀ j, j < 5 → nI kk = nI j → P j) → P kk := fun h => h kk hk rfl
    have s59 : (kk ≠ 0 → ∃ l, l < fm ∧ p1 = nI l) → ((kk = 2 ∨ kk = 3) → ∃ r, r < fm ∧ p3 = nI r) → wX_make_59 post (nI kk) p1 p2 p3 (nI N) (nI L) xml xql xmt 1 xbT (nI fm) xtg xbs xfo := by
      intro o1 o3
      refine pk_eq kk 3 (fun e3 => ?_) (fun e3 => hok ⟨kk, hk, rfl, o1, o3, fun z => absurd z e3⟩)
      rcases bb_cs p2 (L + 1) with ⟨a, ha, e⟩ | ha
      · subst e
        exact bx_lb_i hL ha (br_f (by decide) (hok ⟨kk, hk, rfl, o1, o3, fun _ => ⟨a, ha, rfl⟩⟩))
      · refine bx_lb_o hL ha (br_t rfl (hbad fun z => ?_))
        obtain ⟨j, hj, ej, _, _, q⟩ := z
        rw [← inj j hj ej] at q
        obtain ⟨a, ha', e⟩ := q e3
        exact ha a ha' e
    have s47 : (kk ≠ 0 → ∃ l, l < fm ∧ p1 = nI l) → (kk = 2 ∨ kk = 3) → wX_make_47 post (nI kk) p1 p2 p3 (nI N) (nI L) xml xql xmt 1 xbT (nI fm) xtg xbs xfo := by
      intro o1 h23
      unfold wX_make_47
      rcases bb_cs p3 fm with ⟨r, hr, e⟩ | hr
      · refine ek_v (P := fun p3 => wpX_isFormula _ _ p3) e (bx_fm_i hfm hr (br_f (by decide) (s59 o1 fun _ => ⟨r, hr, e⟩)))
      · refine bx_fm_o hfm hr (br_t rfl (hbad fun z => ?_))
        obtain ⟨j, hj, ej, _, q, _⟩ := z
        rw [← inj j hj ej] at q
        obtain ⟨r, hr', e⟩ := q h23
        exact hr r hr' e
    have s37 : (kk ≠ 0 → ∃ l, l < fm ∧ p1 = nI l) → wX_make_37 post (nI kk) p1 p2 p3 (nI N) (nI L) xml xql xmt 1 xbT (nI fm) xtg xbs xfo := by
      intro o1
      exact pk_eq kk 2 (fun e => s47 o1 (Or.inl e)) (fun e => pk_eq kk 3 (fun e2 => s47 o1 (Or.inr e2)) (fun e2 => s59 o1 fun z => absurd z (by omega)))
    refine br_f (nI_pos (by omega)) (br_t (nI_le (b := 4) (by omega) (by decide)) (pk_eq kk 0 (fun e => s37 fun z => absurd e z) (fun e => ?_)))
    rcases bb_cs p1 fm with ⟨l, hl, e1⟩ | hl
    · refine ek_v (P := fun p1 => wpX_isFormula _ _ p1) e1 (bx_fm_i hfm hl (br_f (by decide) (s37 fun _ => ⟨l, hl, e1⟩)))
    · refine bx_fm_o hfm hl (br_t rfl (hbad fun z => ?_))
      obtain ⟨j, hj, ej, q, _, _⟩ := z
      rw [← inj j hj ej] at q
      obtain ⟨l, hl', e1⟩ := q e
      exact hl l hl' e1
  · have hb : ¬ bb_V fm L p0 p1 p2 p3 := by
      rintro ⟨kk, hk', e, _⟩
      exact hk kk hk' e
    rcases bb_ouL (by omega) hk with q | ⟨q, q2⟩
    · exact br_t q (hbad hb)
    · exact br_f q (br_f (Int32.not_le.mpr q2) (hbad hb))
end
end
section
def bl (x : Int64) (i : Nat) : Bool := x.toBitVec.getLsbD i
theorem bq_ext {x y : Int64} (h : ∀ i, i < 64 → bl x i = bl y i) : x = y := Int64.toBitVec_inj.mp (BitVec.eq_of_getLsbD_eq (fun i hi => h i hi))
theorem bq_or (x y : Int64) (i : Nat) : bl (x ||| y) i = (bl x i || bl y i) := by unfold bl; rw [Int64.toBitVec_or, BitVec.getLsbD_or]
theorem bq_0 (i : Nat) : bl 0 i = false := BitVec.getLsbD_zero
theorem bq_sl : ∀ n, n < 64 → (((nI n).toInt64 &&& 63).toBitVec.smod 64).toNat = n := by decide +kernel
theorem bq_su : ∀ n, n < 64 → (((nI n).toInt64.toUInt64 &&& Int64.toUInt64 63).toBitVec % 64).toNat = n := by decide +kernel
theorem bq_shl (n : Nat) (hn : n < 64) (x : Int64) {i : Nat} (hi : i < 64) : bl (x <<< ((nI n).toInt64 &&& 63)) i = (decide (n ≤ i) && bl x (i - n)) := by
  unfold bl
  rw [Int64.toBitVec_shiftLeft]
  show (x.toBitVec <<< (((nI n).toInt64 &&& 63).toBitVec.smod 64).toNat).getLsbD i = _
  rw [bq_sl n hn, BitVec.getLsbD_shiftLeft]
  rcases Nat.lt_or_ge i n with h | h
  · simp [h, Nat.not_le.mpr h]
  · simp [hi, h, Nat.not_lt.mpr h]
theorem bq_ushr (n : Nat) (hn : n < 64) (x : Int64) (i : Nat) : bl ((x.toUInt64 >>> ((nI n).toInt64.toUInt64 &&& Int64.toUInt64 63)).toInt64) i = bl x (n + i) := by
  show (x.toUInt64 >>> ((nI n).toInt64.toUInt64 &&& Int64.toUInt64 63)).toBitVec.getLsbD i = x.toUInt64.toBitVec.getLsbD (n + i)
  rw [UInt64.toBitVec_shiftRight]
  show (x.toUInt64.toBitVec >>> (((nI n).toInt64.toUInt64 &&& Int64.toUInt64 63).toBitVec % 64).toNat).getLsbD i = _
  rw [bq_su n hn, BitVec.getLsbD_ushiftRight]
theorem bq_lN (n i : Nat) : bl (lN n) i = (decide (i < 64) && n.testBit i) := by
  show (BitVec.ofNat 64 n).getLsbD i = _
  rw [BitVec.getLsbD_ofNat]
theorem bq_nI (n i : Nat) : bt (nI n) i = (decide (i < 32) && n.testBit i) := by
  show (BitVec.ofNat 32 n).getLsbD i = _
  rw [BitVec.getLsbD_ofNat]
theorem bq_i (x : Int64) {i : Nat} (hi : i < 32) : bt x.toInt32 i = bl x i := by
  unfold bt bl
  rw [Int64.toBitVec_toInt32, BitVec.getLsbD_signExtend, if_pos (by omega), decide_eq_true hi, Bool.true_and]
theorem bq_15 : ∀ i, i < 32 → bt 15 i = decide (i < 4) := by decide +kernel
theorem bq_4 (s : Nat) : 4 * nI s = nI (4 * s) := by
  show nI 4 * nI s = _
  rw [pk_mul]
def bq_cl (p : Int64) (x : Int32) : Int32 := (((p.toUInt64 >>> ((4 * x).toInt64.toUInt64 &&& Int64.toUInt64 63)).toInt64).toInt32) &&& 15
theorem bq_cl_bit (p : Int64) {s : Nat} (hs : s < 16) {i : Nat} (hi : i < 32) : bt (bq_cl p (nI s)) i = (decide (i < 4) && bl p (4 * s + i)) := by
  unfold bq_cl
  rw [b_and, bq_i _ hi, bq_4, bq_ushr (4 * s) (by omega), bq_15 i hi, Bool.and_comm]
theorem bq_tb {v i : Nat} (hv : v < 16) (hi : 4 ≤ i) : v.testBit i = false := Nat.testBit_lt_two_pow (Nat.lt_of_lt_of_le hv (Nat.pow_le_pow_right (n := 2) (by decide) hi))
theorem bq_put {r : Int64} {t v s : Nat} (ht : t < 16) (hv : v < 16) (hs : s < 16) (h0 : bq_cl r (nI t) = 0) :
    bq_cl (r ||| ((nI v).toInt64 <<< ((4 * nI t).toInt64 &&& 63))) (nI s) = if s = t then nI v else bq_cl r (nI s) := by
  refine b_ext fun i hi => ?_
  rw [bq_cl_bit _ hs hi, bq_or, nI_l (by omega), bq_4]
  by_cases h4 : i < 4
  · rw [bq_shl (4 * t) (by omega) _ (by omega : 4 * s + i < 64), bq_lN, decide_eq_true h4, Bool.true_and]
    by_cases e : s = t
    · subst e
      have z : bl r (4 * s + i) = false := by
        have q := bq_cl_bit r hs hi
        rw [h0, b_0, decide_eq_true h4, Bool.true_and] at q
        exact q.symm
      rw [if_pos rfl, z, bq_nI, decide_eq_true (by omega : 4 * s ≤ 4 * s + i), show 4 * s + i - 4 * s = i by omega, decide_eq_true (by omega : i < 64), decide_eq_true hi]
      simp
    · rw [if_neg e, bq_cl_bit r hs hi, decide_eq_true h4, Bool.true_and]
      by_cases l : s < t
      · rw [decide_eq_false (by omega : ¬ 4 * t ≤ 4 * s + i), Bool.false_and, Bool.or_false]
      · rw [bq_tb hv (by omega : 4 ≤ 4 * s + i - 4 * t), Bool.and_false, Bool.and_false, Bool.or_false]
  · rw [decide_eq_false h4, Bool.false_and]
    by_cases e : s = t
    · rw [if_pos e, bq_nI, bq_tb hv (by omega), Bool.and_false]
    · rw [if_neg e, bq_cl_bit r hs hi, decide_eq_false h4, Bool.false_and]
theorem bq_cl0 {s : Nat} (hs : s < 16) : bq_cl 0 (nI s) = 0 := by
  refine b_ext fun i hi => ?_
  rw [bq_cl_bit _ hs hi, bq_0, b_0, Bool.and_false]
theorem bq_l1 : ∀ i, i < 64 → bl 1 i = decide (i = 0) := by decide +kernel
theorem bq_l48 : ∀ i, i < 64 → bl 281474976710656 i = decide (i = 48) := by decide +kernel
theorem bq_bit {k : Nat} (hk : k < 64) {i : Nat} (hi : i < 64) : bl ((1 : Int64) <<< ((nI k).toInt64 &&& 63)) i = decide (i = k) := by
  rw [bq_shl k hk _ hi]
  by_cases e : i = k
  · subst e
    rw [bq_l1 _ (by omega)]
    simp
  · rw [decide_eq_false e]
    by_cases l : k ≤ i
    · rw [bq_l1 _ (by omega), decide_eq_false (by omega : ¬ i - k = 0), Bool.and_false]
    · rw [decide_eq_false l, Bool.false_and]
theorem bq_con1 (x : Int32) {s : Nat} (hs : s < 32) : ((x >>> (nI s &&& 31)) &&& 1) = 1 ↔ bt x s = true := by
  constructor
  · intro h
    refine Classical.byContradiction fun q => ?_
    rw [(bb_con x hs).mpr q] at h
    exact absurd h (by decide)
  · intro q
    refine b_ext fun i hi => ?_
    rw [bb_1, b_and, bb_1]
    by_cases e : i = 0
    · subst e
      rw [b_sshr s hs x (by decide), if_pos (by omega)]
      simp [q]
    · rw [decide_eq_false e, Bool.and_false]
end
section
section
variable {T : Nat → Nat → Nat → Prop} {N L fm Q : Nat} {xml xql xmt xmi xbT xft : Int32} {xtg xbs xfo : Nat → Int32} {c : Nat → Nat}
theorem bq_T_add {s a t : Nat} {tg : Nat → Int32} (hN : N ≤ 12) (h : bx_T N L T tg) (hs : s < N) (ha : a ≤ L) (ht : t < N) :
    bx_T N L (fun a' s' t' => T a' s' t' ∨ (a' = a ∧ s' = s ∧ t' = t)) (upd tg (a * 12 + s) (tg (a * 12 + s) ||| ((1 : Int32) <<< (nI t &&& 31)))) := by
  refine ⟨?_, ?_⟩
  · rintro a' s' t' (q | ⟨e1, e2, e3⟩)
    · exact h.1 _ _ _ q
    · exact ⟨by omega, by omega, by omega⟩
  · intro a' s' t' ha' hs'
    by_cases e : a' * 12 + s' = a * 12 + s
    · have e1 : a' = a := by omega
      have e2 : s' = s := by omega
      subst e1 e2
      rw [pk_us, bb_ins _ (by omega), h.2 _ _ _ ha' hs']
      exact ⟨fun z => z.elim Or.inl (fun z => Or.inr ⟨rfl, rfl, z⟩), fun z => z.elim Or.inl (fun z => Or.inr z.2.2)⟩
    · rw [pk_un e, h.2 _ _ _ ha' hs']
      exact ⟨Or.inl, fun z => z.elim id (fun z => absurd (by rw [z.1, z.2.1]) e)⟩
theorem bq_T_del {s a t : Nat} {tg : Nat → Int32} (hN : N ≤ 12) (h : bx_T N L T tg) (hs : s < N) (ha : a ≤ L) (ht : t < N) :
    bx_T N L (fun a' s' t' => T a' s' t' ∧ ¬ (a' = a ∧ s' = s ∧ t' = t)) (upd tg (a * 12 + s) (tg (a * 12 + s) &&& (((1 : Int32) <<< (nI t &&& 31)) ^^^ (-1)))) := by
  refine ⟨?_, ?_⟩
  · rintro a' s' t' q
    exact h.1 _ _ _ q.1
  · intro a' s' t' ha' hs'
    by_cases e : a' * 12 + s' = a * 12 + s
    · have z1 : a' = a := by omega
      have z2 : s' = s := by omega
      subst z1 z2
      rw [pk_us, bb_del _ (by omega), h.2 _ _ _ ha' hs']
      exact ⟨fun z => ⟨z.1, fun y => z.2 y.2.2⟩, fun z => ⟨z.1, fun y => z.2 ⟨rfl, rfl, y⟩⟩⟩
    · rw [pk_un e, h.2 _ _ _ ha' hs']
      exact ⟨fun z => ⟨z, fun y => e (by rw [y.1, y.2.1])⟩, fun z => z.1⟩
theorem bq_add {post : Int32 → St2 → Prop} {x a y : Nat} (hT : bx_T N L T xtg) (hN : N ≤ 12) (hL : L ≤ 3) (hx : x < N) (ha : a < L + 1) (hy : y < N)
    (hp : ∀ r T' tg' mt', bx_T N L T' tg' → post r ((nI N), (nI L), xml, xql, mt', 0, xbT, xft, tg', xbs, xfo)) : wpX_addMove post ((nI N), (nI L), xml, xql, xmt, 0, xbT, xft, xtg, xbs, xfo) (nI x) (nI a) (nI y) := by
  unfold wpX_addMove
  dsimp only
  refine br_t rfl (bx_st_i hN hx (br_f (by decide) (bx_lb_i hL ha (br_f (by decide) (bx_st_i hN hy (br_f (by decide) (bx_mit hT hN hL (by omega) hx hy (fun q => br_f (by decide) (hp 105 T xtg xmt hT)) (fun q => br_t rfl (br_c (fun z => ?_) (fun z => hp 104 T xtg xmt hT))))))))))
  unfold wpX_row
  dsimp only
  rw [bb_row, nI_clamp (n := a * 12 + x) (by omega)]
  exact ⟨vp_in_nI (by omega) (by decide), vp_in_nI (by omega) (by decide), nm_e (nm_e (hp 0 _ _ _ (bq_T_add hN hT hx (by omega) hy)))⟩
theorem bq_rem {post : Int32 → St2 → Prop} {x a y : Nat} (hT : bx_T N L T xtg) (hN : N ≤ 12) (hL : L ≤ 3) (hx : x < N) (ha : a < L + 1) (hy : y < N)
    (hp : ∀ r T' tg' mt', bx_T N L T' tg' → post r ((nI N), (nI L), xml, xql, mt', 0, xbT, xft, tg', xbs, xfo)) : wpX_removeMove post ((nI N), (nI L), xml, xql, xmt, 0, xbT, xft, xtg, xbs, xfo) (nI x) (nI a) (nI y) := by
  unfold wpX_removeMove
  dsimp only
  refine br_t rfl (bx_st_i hN hx (br_f (by decide) (bx_lb_i hL ha (br_f (by decide) (bx_st_i hN hy (br_f (by decide) (bx_mit hT hN hL (by omega) hx hy (fun q => br_f (by decide) ?_) (fun q => br_t rfl (hp 106 T xtg xmt hT)))))))))
  unfold wpX_row
  dsimp only
  rw [bb_row, nI_clamp (n := a * 12 + x) (by omega)]
  exact ⟨vp_in_nI (by omega) (by decide), vp_in_nI (by omega) (by decide), nm_e (nm_e (hp 0 _ _ _ (bq_T_del hN hT hx (by omega) hy)))⟩
theorem bq_hm {post : Int32 → Prop} {x a y : Nat} (hT : bx_T N L T xtg) (hN : N ≤ 12) (hL : L ≤ 3) (hx : x < N) (ha : a < L + 1) (hy : y < N) (h1 : T a x y → post 1) (h0 : ¬ T a x y → post 0) : wpX_hasMove post ((nI N), (nI L), xml, xql, xmt, xmi, xbT, xft, xtg, xbs, xfo) (nI x) (nI a) (nI y) := by
  unfold wpX_hasMove
  dsimp only
  exact bx_st_i hN hx (br_f (by decide) (bx_lb_i hL ha (br_f (by decide) (bx_st_i hN hy (br_f (by decide) (bx_mit hT hN hL (by omega) hx hy (fun q => br_f (by decide) (h1 q)) (fun q => br_t rfl (h0 q))))))))
theorem bq_succ {post : Int32 → Prop} {u a : Nat} (hT : bx_T N L T xtg) (hN : N ≤ 12) (hL : L ≤ 3) (hu : u < N) (ha : a < L + 1) (hp : ∀ r, (∀ v, bt r v = true ↔ T a u v) → post r) : wpL_succ post ((nI N), (nI L), xml, xql, xmt, xmi, xbT, xft, xtg, xbs, xfo) (nI u) (nI a) (nI N) := by
  unfold wpL_succ
  dsimp only
  refine loop_0 (fun n i (r : Int32) => wL_succ_6 post (nI u) (nI a) (nI N) (nI N) (nI L) xml xql xmt xmi xbT xft xtg xbs xfo n r (nI i)) (fun i r => ∀ v, bt r v = true ↔ v < i ∧ T a u v) N 0 ?_ ?_ ?_
  · intro v
    rw [b_0]
    exact ⟨fun q => absurd q (by decide), fun q => absurd q.1 (Nat.not_lt_zero _)⟩
  · intro n r h
    refine br_t (nI_le (Nat.le_refl _) (by omega)) (hp r fun v => ?_)
    rw [h v]
    exact ⟨fun q => q.2, fun q => ⟨(hT.1 _ _ _ q).2.2, q⟩⟩
  · intro n i r hi h ih
    refine br_f (nI_ge hi (by omega)) (bq_hm hT hN hL hu ha hi (fun q => br_t rfl (nm_e (nm_r (nI_1 i) (ih _ fun v => ?_)))) (fun q => br_f (by decide) (nm_r (nI_1 i) (ih _ fun v => ?_))))
    · rw [bb_ins _ (by omega), h v]
      constructor
      · rintro (z | z)
        · exact ⟨by omega, z.2⟩
        · subst z
          exact ⟨by omega, q⟩
      · intro z
        by_cases e : v = i
        · exact Or.inr e
        · exact Or.inl ⟨by omega, z.2⟩
    · rw [h v]
      refine ⟨fun z => ⟨by omega, z.2⟩, fun z => ⟨?_, z.2⟩⟩
      by_cases e : v = i
      · subst e
        exact absurd z.2 q
      · omega
def bq_Iv (N : Nat) (c : Nat → Nat) (P : Nat → Prop) : Prop := ∀ s t, s < N → t < N → c s = c t → P s → P t
def bq_Mi (N : Nat) (T : Nat → Nat → Nat → Prop) (c : Nat → Nat) (fm : Nat) (bs fo : Nat → Int32) : Prop :=
  bb_Sp N T c ∧ (∀ i s, i < bb_cn (bb_ldr c) N → (bt (bs i) s = true ↔ s < N ∧ bb_nb c s = i)) ∧ ∀ f, f < fm → (∀ u, bt (fo f) u = true → u < N) ∧ bq_Iv N c (bb_BS fo f)
theorem bq_bw {post : Int32 → Prop} {s : Nat} (hN : N ≤ 12) (hM : bq_Mi N T c fm xbs xfo) (hs : s < N) (hp : post (nI (bb_nb c s))) : wpX_blockWith post ((nI N), (nI L), xml, xql, xmt, xmi, nI (bb_cn (bb_ldr c) N), xft, xtg, xbs, xfo) (nI s) := by
  have hB := bb_cn_le (bb_ldr c) N
  have hc := hM.1.1
  exact bx_bw (k := bb_nb c s) (by omega) (by omega) (bb_nb_lt hc hs) ((hM.2.1 _ s (bb_nb_lt hc hs)).mpr ⟨hs, rfl⟩) (fun i hi q => ((hM.2.1 i s hi).mp q).2.symm) hp
theorem bq_bo {post : Int32 → Prop} {s : Nat} (hN : N ≤ 12) (hM : bq_Mi N T c fm xbs xfo) (hs : s < N) (hp : post (nI (bb_nb c s))) : wpX_blockOf post ((nI N), (nI L), xml, xql, xmt, 1, nI (bb_cn (bb_ldr c) N), xft, xtg, xbs, xfo) (nI s) := by
  unfold wpX_blockOf
  dsimp only
  exact br_f (by decide) (bx_st_i hN hs (br_f (by decide) (bq_bw hN hM hs hp)))
theorem bq_ho {post : Int32 → Prop} {f s : Nat} (hN : N ≤ 12) (hfm : fm ≤ 32) (hf : f < fm) (hs : s < N) (h1 : bt (xfo f) s = true → post 1) (h0 : ¬ bt (xfo f) s = true → post 0) : wpX_holds post ((nI N), (nI L), xml, xql, xmt, 1, xbT, nI fm, xtg, xbs, xfo) (nI f) (nI s) := by
  unfold wpX_holds
  dsimp only
  refine br_f (by decide) (bx_fm_i hfm hf (br_f (by decide) (bx_st_i hN hs (br_f (by decide) ?_))))
  rw [nI_clamp (n := f) (by omega)]
  exact ⟨vp_in_nI (by omega) (by decide), bx_con (by omega) (fun q => br_f (by decide) (h1 q)) (fun q => br_t rfl (h0 q))⟩
theorem bq_unt {F G : Nat → Prop} {u : Nat} (h : bb_Unt T F 0 G u) : G u ∨ bb_Unt T (fun v => F v ∧ ¬ G v) 0 G u := by
  refine bb_unt_ind (fun u => G u ∨ bb_Unt T (fun v => F v ∧ ¬ G v) 0 G u) h ?_ ?_
  · intro v t f m g
    by_cases e : G v
    · exact Or.inl e
    · exact Or.inr (bb_unt_b (F := fun v => F v ∧ ¬ G v) ⟨f, e⟩ m g)
  · intro v w f m _ ih
    by_cases e : G v
    · exact Or.inl e
    · rcases ih with ih | ih
      · exact Or.inr (bb_unt_b (F := fun v => F v ∧ ¬ G v) ⟨f, e⟩ m ih)
      · exact Or.inr (bb_unt_s (F := fun v => F v ∧ ¬ G v) ⟨f, e⟩ m ih)
theorem bq_IvU {F G : Nat → Prop} {a : Nat} (hb : ∀ a s t, T a s t → s < N ∧ t < N) (hS : bb_Sp N T c) (hF : bq_Iv N c F) (hG : bq_Iv N c G) : bq_Iv N c (fun u => bb_Unt T F a G u ∨ (a = 0 ∧ G u)) := by
  intro s t hs ht e h
  obtain ⟨R, hE, hSt, r⟩ := (hS.2 s t).mp ⟨hs, ht, e⟩
  have cl : ∀ P, bq_Iv N c P → ∀ x y, R x y → P x → P y := fun P hP x y q p => by
    have z := (hS.2 x y).mpr ⟨R, hE, hSt, q⟩
    exact hP x y z.1 z.2.1 z.2.2 p
  rcases h with h | h
  · by_cases ea : a = 0
    · subst ea
      rcases bq_unt h with g | u
      · exact Or.inr ⟨rfl, cl G hG _ _ r g⟩
      · have hK : ∀ x y, R x y → (F x ∧ ¬ G x) → (F y ∧ ¬ G y) := fun x y q p => ⟨cl F hF _ _ q p.1, fun z => p.2 (cl G hG _ _ (hE.2.1 _ _ q) z)⟩
        have u' := bb_cutU hb hE hSt hK (cl G hG) (fun _ x p q => p.2 q) u t r
        exact Or.inl (bb_unt_mono (fun x p => p.1) (fun x p => p) u')
    · exact Or.inl (bb_cutU hb hE hSt (cl F hF) (cl G hG) (fun z => absurd z ea) h t r)
  · exact Or.inr ⟨h.1, cl G hG _ _ r h.2⟩
theorem bq_IvD {F : Nat → Prop} (hb : ∀ a s t, T a s t → s < N ∧ t < N) (hS : bb_Sp N T c) (hF : bq_Iv N c F) : bq_Iv N c (fun u => bb_Div T F u) := by
  intro s t hs ht e h
  obtain ⟨R, hE, hSt, r⟩ := (hS.2 s t).mp ⟨hs, ht, e⟩
  refine bb_cutD hb hE hSt (fun x y q p => ?_) h r
  have z := (hS.2 x y).mpr ⟨R, hE, hSt, q⟩
  exact hF x y z.1 z.2.1 z.2.2 p
theorem bq_IvF {kd lf fl rt fo : Nat → Int32} {f : Nat} (hb : ∀ a s t, T a s t → s < N ∧ t < N) (hS : bb_Sp N T c) (hI : ∀ l, l < f → bq_Iv N c (bb_BS fo l)) (h : bb_Fm N L T c kd lf fl rt fo f) : bq_Iv N c (bb_BS fo f) := by
  rcases h with ⟨_, h⟩ | ⟨_, l, _, _, h⟩ | ⟨_, l, hl, _, h⟩ | ⟨_, l, r, hl, hr, _, _, h⟩ | ⟨_, l, a, r, hl, _, hr, _, _, _, h⟩ | ⟨_, l, hl, _, h⟩
  · intro s t hs ht e p
    exact h t ht
  · intro s t hs ht e p
    exact (h t ht).mpr (e ▸ (h s hs).mp p)
  · intro s t hs ht e p
    exact (h t ht).mpr fun z => (h s hs).mp p (hI l hl t s ht hs e.symm z)
  · intro s t hs ht e p
    have q := (h s hs).mp p
    exact (h t ht).mpr ⟨hI l hl s t hs ht e q.1, hI r hr s t hs ht e q.2⟩
  · intro s t hs ht e p
    exact (h t ht).mpr (bq_IvU hb hS (hI l hl) (hI r hr) s t hs ht e ((h s hs).mp p))
  · intro s t hs ht e p
    exact (h t ht).mpr (bq_IvD hb hS (hI l hl) s t hs ht e ((h s hs).mp p))
theorem bq_Mi_add {bs fo : Nat → Int32} {r : Int32} (h : bq_Mi N T c fm bs fo) (h1 : ∀ u, bt r u = true → u < N) (h2 : bq_Iv N c (bb_BS (upd fo fm r) fm)) : bq_Mi N T c (fm + 1) bs (upd fo fm r) := by
  refine ⟨h.1, h.2.1, fun f hf => ?_⟩
  by_cases e : f = fm
  · subst e
    refine ⟨?_, h2⟩
    rw [pk_us]; exact h1
  · have q := h.2.2 f (by omega)
    refine ⟨?_, ?_⟩
    · rw [pk_un e]; exact q.1
    · rw [bb_BS_up (by omega)]; exact q.2
theorem bq_make {post : Int32 → St2 → Prop} {p0 p1 p2 p3 : Int32} (hT : bx_T N L T xtg) (hN : N ≤ 12) (hL : L ≤ 3) (hQ : Q ≤ 32) (hfm : fm ≤ Q) (hM : bq_Mi N T c fm xbs xfo) (hV : bb_V fm L p0 p1 p2 p3)
    (hp : ∀ r fm' fo', fm ≤ fm' → fm' ≤ Q → (∀ f, f < fm → fo' f = xfo f) → bq_Mi N T c fm' xbs fo' → post r ((nI N), (nI L), xml, nI Q, xmt, 1, xbT, nI fm', xtg, xbs, fo')) : wpX_make post ((nI N), (nI L), xml, nI Q, xmt, 1, xbT, nI fm, xtg, xbs, xfo) p0 p1 p2 p3 := by
  have hb : ∀ a s t, T a s t → s < N ∧ t < N := fun a s t m => (hT.1 a s t m).2
  refine bx_make hL (by omega) (fun z => absurd hV z) (fun _ => ?_)
  refine pk_lt fm Q (fun z => bx_sf (c := c) hT hN hL (by omega) hV (fun f hf => (hM.2.2 f hf).1) (fun r hr hn => bx_kf (by omega) (hp _ (fm + 1) _ (by omega) (by omega) (fun f hf => pk_un (by omega)) (bq_Mi_add hM hr ?_)))) (fun z => hp _ fm xfo (Nat.le_refl _) hfm (fun _ _ => rfl) hM)
  refine bq_IvF hb hM.1 (fun l hl => ?_) (hn (fun _ => 0) (fun _ => 0) (fun _ => 0) (fun _ => 0))
  rw [bb_BS_up hl]
  exact (hM.2.2 l hl).2
theorem bq_tell {post : Int32 → St2 → Prop} {x y : Nat} (hN : N ≤ 12) (hQ : Q ≤ 32) (hfm : fm ≤ Q) (hM : bq_Mi N T c fm xbs xfo) (hx : x < N) (hy : y < N)
    (h0 : c x = c y → post 107 ((nI N), (nI L), xml, nI Q, xmt, 1, nI (bb_cn (bb_ldr c) N), nI fm, xtg, xbs, xfo)) (h2 : ¬ c x = c y → Q ≤ fm → post 104 ((nI N), (nI L), xml, nI Q, xmt, 1, nI (bb_cn (bb_ldr c) N), nI fm, xtg, xbs, xfo))
    (h1 : ¬ c x = c y → fm < Q → ∀ fo', (∀ f, f < fm → fo' f = xfo f) → (∀ s, s < N → (bt (fo' fm) s = true ↔ c s = c x)) → bq_Mi N T c (fm + 1) xbs fo' → post (nI fm) ((nI N), (nI L), xml, nI Q, xmt, 1, nI (bb_cn (bb_ldr c) N), nI (fm + 1), xtg, xbs, fo')) : wpX_tell post ((nI N), (nI L), xml, nI Q, xmt, 1, nI (bb_cn (bb_ldr c) N), nI fm, xtg, xbs, xfo) (nI x) (nI y) := by
  have hB := bb_cn_le (bb_ldr c) N
  have hc := hM.1.1
  have hnx := bb_nb_lt hc hx
  have hny := bb_nb_lt hc hy
  unfold wpX_tell
  dsimp only
  refine br_f (by decide) (bx_st_i hN hx (br_f (by decide) (bx_st_i hN hy (br_f (by decide) (bq_bw hN hM hx (bq_bw hN hM hy (pk_eq (bb_nb c x) (bb_nb c y) (fun e => h0 ((bb_nb_eq hc hx hy).mp e)) (fun e => pk_lt fm Q (fun z => ?_) (fun z => h2 (fun q => e ((bb_nb_eq hc hx hy).mpr q)) z)))))))))
  rw [nI_clamp (n := bb_nb c x) (by omega)]
  have key : ∀ s, s < N → (bt (upd xfo fm (xbs (bb_nb c x)) fm) s = true ↔ c s = c x) := by
    intro s hs
    rw [pk_us, hM.2.1 _ s hnx]
    exact ⟨fun q => (bb_nb_eq hc q.1 hx).mp q.2, fun q => ⟨hs, (bb_nb_eq hc hs hx).mpr q⟩⟩
  refine ⟨vp_in_nI (by omega) (by decide), bx_kf (by omega) (h1 (fun q => e ((bb_nb_eq hc hx hy).mpr q)) z _ (fun f hf => pk_un (by omega)) key (bq_Mi_add hM (fun u q => ((hM.2.1 _ u hnx).mp q).1) ?_))⟩
  intro s t hs ht e' p
  exact (key t ht).mpr (e'.symm.trans ((key s hs).mp p))
end
end
section
section
variable {T : Nat → Nat → Nat → Prop} {N L : Nat} {xml xql xmt xmi xbT xft : Int32} {xtg xbs xfo : Nat → Int32} {c : Nat → Nat}
theorem bb_WI_c {F : Nat → Prop} {u i v : Nat} {p : Nat → Bool} (h : bb_WI N T F u i p) (hc : bb_WC T F p) (hv : v < N) : p v = true ↔ bb_Rch T F u v :=
  ⟨h.1 v hv, fun q => q (fun v => p v = true) h.2.1 hc⟩
theorem bb_LI_c {F : Nat → Prop} {i s : Nat} {p : Nat → Bool} (hT : ∀ a s t, T a s t → s < N ∧ t < N) (h : bb_LI N T F i p) (hc : bb_LC N T p) (hs : s < N) : p s = true ↔ bb_Div T F s := by
  refine ⟨fun q => ⟨fun s => s < N ∧ p s = true, ⟨hs, q⟩, fun v r => ⟨h.1 v r.1 r.2, ?_⟩⟩, h.2.1 s hs⟩
  obtain ⟨w, m, pw⟩ := hc v r.1 r.2
  exact ⟨w, m, (hT _ _ _ m).2, pw⟩
theorem bb_div_rch {F : Nat → Prop} {s : Nat} : bb_Div T (fun v => bb_Rch T F s v) s ↔ bb_Div T F s := by
  constructor
  · intro ⟨S, h1, h2⟩
    exact ⟨S, h1, fun v q => ⟨bb_rch_F (h2 v q).1, (h2 v q).2⟩⟩
  · intro h
    refine ⟨fun v => bb_Rch T F s v ∧ bb_Div T F v, ⟨bb_rch_0 (bb_div_F h), h⟩, ?_⟩
    rintro v ⟨r, d⟩
    obtain ⟨w, m, d'⟩ := bb_div_s d
    exact ⟨r, w, m, bb_rch_s r m (bb_div_F d'), d'⟩
def bq_R (N : Nat) (p : Int64) (c : Nat → Nat) : Prop := ∀ s, s < N → bq_cl p (nI s) = nI (c s) ∧ c s < N
def bq_D (N : Nat) (T : Nat → Nat → Nat → Prop) (c : Nat → Nat) (s a k : Nat) : Prop := (a = 0 → k ≠ c s) ∧ bb_Unt T (bb_K N c (c s)) a (bb_K N c k) s
def bq_SG (N : Nat) (T : Nat → Nat → Nat → Prop) (c : Nat → Nat) (s i : Nat) : Prop :=
  (∃ a k, a ≤ 3 ∧ k < 12 ∧ i = 12 * a + k ∧ bq_D N T c s a k) ∨ (i = 48 ∧ bb_Div T (bb_K N c (c s)) s)
theorem bq_s336 {post : Int64 → Prop} {s : Nat} {g : Int64} {live : Int32} {P : Prop} (hN : N ≤ 12) (hs : s < N) (hl : bt live s = true ↔ P) (hp : ∀ g', (∀ i, i < 64 → (bl g' i = true ↔ bl g i = true ∨ (i = 48 ∧ P))) → post g') : wL_sig_336 post (nI s) g live (nI N) (nI L) xml xql xmt xmi xbT xft xtg xbs xfo := by
  refine ek_if (bq_con1 live (by omega)) (fun q => hp _ fun i hi => ?_) (fun q => hp _ fun i hi => ?_)
  · rw [bq_or, bq_l48 i hi, Bool.or_eq_true, decide_eq_true_eq]
    exact ⟨fun z => z.elim Or.inl (fun z => Or.inr ⟨z, hl.mp q⟩), fun z => z.elim Or.inl (fun z => Or.inr z.1)⟩
  · exact ⟨Or.inl, fun z => z.elim id (fun z => absurd (hl.mpr z.2) q)⟩
theorem bq_s266 {post : Int64 → Prop} {J252 : Int32 → Int32 → Prop} {s i : Nat} {g : Int64} {live : Int32} (hT : bx_T N L T xtg) (hN : N ≤ 12) (hL : L ≤ 3) (hl : ∀ v, bt live v = true → v < N)
    (h1 : bb_LC N T (bt live) → wL_sig_336 post (nI s) g live (nI N) (nI L) xml xql xmt xmi xbT xft xtg xbs xfo) (h2 : ∀ next, (∀ v, bt next v = true ↔ bt live v = true ∧ ∃ w, T 0 v w ∧ bt live w = true) → J252 next (nI (i + 1))) : ∃ n, wL_sig_266 post J252 (nI s) (nI N) g live (nI i) (nI N) (nI L) xml xql xmt xmi xbT xft xtg xbs xfo n live 0 := by
  refine loop_0 (fun n j (r : Int32) => wL_sig_266 post J252 (nI s) (nI N) g live (nI i) (nI N) (nI L) xml xql xmt xmi xbT xft xtg xbs xfo n r (nI j)) (fun j r => ∀ v, bt r v = true ↔ bt live v = true ∧ (v < j → ∃ w, T 0 v w ∧ bt live w = true)) N live ?_ ?_ ?_
  · intro v
    exact ⟨fun q => ⟨q, fun z => absurd z (Nat.not_lt_zero _)⟩, fun q => q.1⟩
  · intro n r h
    refine br_t (nI_le (Nat.le_refl _) (by omega)) (br_c (fun e => h1 ?_) (fun e => nm_r (nI_1 i) (h2 r fun v => ?_)))
    · subst e
      intro v hv q
      exact ((h v).mp q).2 hv
    · rw [h v]
      exact ⟨fun q => ⟨q.1, q.2 (hl v q.1)⟩, fun q => ⟨q.1, fun _ => q.2⟩⟩
  · intro n j r hj h ih
    refine br_f (nI_ge hj (by omega)) (ek_if (bq_con1 live (by omega)) (fun q => bq_succ (a := 0) hT hN hL hj (by omega) (fun m hm => br_c (fun z => nm_e (nm_r (nI_1 j) (ih _ fun v => ?_))) (fun z => nm_r (nI_1 j) (ih _ fun v => ?_)))) (fun q => nm_r (nI_1 j) (ih _ fun v => ?_)))
    · rw [bb_del _ (by omega), h v]
      constructor
      · intro y
        exact ⟨y.1.1, fun w => y.1.2 (by omega)⟩
      · intro y
        refine ⟨⟨y.1, fun w => y.2 (by omega)⟩, fun e => ?_⟩
        subst e
        obtain ⟨w, mw, lw⟩ := y.2 (by omega)
        exact (bb_z _).mp z w ((bb_andS _ _ _).mpr ⟨(hm w).mpr mw, lw⟩)
    · rw [h v]
      refine ⟨fun y => ⟨y.1, fun w => ?_⟩, fun y => ⟨y.1, fun w => y.2 (by omega)⟩⟩
      by_cases e : v = j
      · subst e
        obtain ⟨w, b⟩ := (bb_nz _).mp z
        rw [bb_andS] at b
        exact ⟨w, (hm w).mp b.1, b.2⟩
      · exact y.2 (by omega)
    · rw [h v]
      refine ⟨fun y => ⟨y.1, fun w => ?_⟩, fun y => ⟨y.1, fun w => y.2 (by omega)⟩⟩
      by_cases e : v = j
      · subst e
        exact absurd y.1 q
      · exact y.2 (by omega)
theorem bq_s252 {post : Int64 → Prop} {F : Nat → Prop} {s : Nat} {g : Int64} {reach : Int32} (hT : bx_T N L T xtg) (hN : N ≤ 12) (hL : L ≤ 3) (hs : s < N) (hF : ∀ v, F v → v < N) (hr : ∀ v, bt reach v = true ↔ bb_Rch T F s v)
    (hp : ∀ g', (∀ i, i < 64 → (bl g' i = true ↔ bl g i = true ∨ (i = 48 ∧ bb_Div T F s))) → post g') : ∃ n, wL_sig_252 post (nI s) (nI N) g (nI N) (nI L) xml xql xmt xmi xbT xft xtg xbs xfo n reach 0 := by
  have hb : ∀ a s t, T a s t → s < N ∧ t < N := fun a s t m => (hT.1 a s t m).2
  have fin : ∀ live, (bt live s = true ↔ bb_Div T (fun v => bb_Rch T F s v) s) → wL_sig_336 post (nI s) g live (nI N) (nI L) xml xql xmt xmi xbT xft xtg xbs xfo := by
    intro live q
    exact bq_s336 hN hs (q.trans bb_div_rch) hp
  refine loop_0 (fun n i (r : Int32) => wL_sig_252 post (nI s) (nI N) g (nI N) (nI L) xml xql xmt xmi xbT xft xtg xbs xfo n r (nI i)) (fun i r => (∀ v, bt r v = true → v < N) ∧ bb_LI N T (fun v => bb_Rch T F s v) i (bt r)) N reach ?_ ?_ ?_
  · exact ⟨fun v q => hF v (bb_rch_F ((hr v).mp q)), fun v _ q => (hr v).mp q, fun v _ d => (hr v).mpr (bb_div_F d), Or.inr (bb_cn_le _ _)⟩
  · intro n r ⟨_, h⟩
    exact br_t (nI_le (Nat.le_refl _) (by omega)) (fin r (bb_LI_N hb h hs))
  · intro n i r hi ⟨hl, h⟩ ih
    refine br_f (nI_ge hi (by omega)) (bq_s266 hT hN hL hl (fun lc => fin r (bb_LI_c hb h lc hs)) (fun next hn => ih next ⟨fun v q => hl v ((hn v).mp q).1, ?_⟩))
    refine bb_LI_s hb h (fun v _ q => ((hn v).mp q).1) (fun v hv d => ?_) (fun v _ q => ((hn v).mp q).2) (fun lc v hv q => (hn v).mpr ⟨q, lc v hv q⟩)
    obtain ⟨w, m, d'⟩ := bb_div_s d
    exact (hn v).mpr ⟨h.2.1 v hv d, w, m, h.2.1 w (hb _ _ _ m).2 d'⟩
theorem bq_12 (a k : Nat) : 12 * nI a + nI k = nI (12 * a + k) := by
  show nI 12 * nI a + nI k = _
  rw [pk_mul, nI_add]
theorem bq_s190 {post : Int64 → Prop} {J131 J154 : Int64 → Int32 → Prop} {p g : Int64} {x3 x5 x6 x7 x10 m : Int32} {a : Nat} (hN : N ≤ 12) (ha : a ≤ 3) (hR : bq_R N p c) (hm : ∀ v, bt m v = true → v < N)
    (hJ : ∀ g', (∀ i, i < 64 → (bl g' i = true ↔ bl g i = true ∨ ∃ v, bt m v = true ∧ i = 12 * a + c v)) → J154 g' (nI (a + 1))) : ∃ n, wL_sig_190 post J131 J154 p x3 (nI N) x5 x6 x7 x10 (nI a) m (nI N) (nI L) xml xql xmt xmi xbT xft xtg xbs xfo n g 0 := by
  refine loop_0 (fun n j (r : Int64) => wL_sig_190 post J131 J154 p x3 (nI N) x5 x6 x7 x10 (nI a) m (nI N) (nI L) xml xql xmt xmi xbT xft xtg xbs xfo n r (nI j)) (fun j r => ∀ i, i < 64 → (bl r i = true ↔ bl g i = true ∨ ∃ v, v < j ∧ bt m v = true ∧ i = 12 * a + c v)) N g ?_ ?_ ?_
  · intro i _
    exact ⟨Or.inl, fun q => q.elim id (fun ⟨v, h, _⟩ => absurd h (Nat.not_lt_zero _))⟩
  · intro n r h
    refine br_t (nI_le (Nat.le_refl _) (by omega)) (nm_r (nI_1 a) (hJ r fun i hi => ?_))
    rw [h i hi]
    constructor
    · rintro (q | ⟨v, _, q⟩)
      · exact Or.inl q
      · exact Or.inr ⟨v, q⟩
    · rintro (q | ⟨v, q⟩)
      · exact Or.inl q
      · exact Or.inr ⟨v, hm v q.1, q⟩
  · intro n j r hj h ih
    have cj := hR j hj
    have hcj := cj.2
    refine br_f (nI_ge hj (by omega)) (ek_if (bq_con1 m (by omega)) (fun q => ?_) (fun q => nm_r (nI_1 j) (ih _ fun i hi => ?_)))
    · show ∀ x8_27 : Int64, x8_27 = r ||| ((1 : Int64) <<< (((12 * nI a) + bq_cl p (nI j)).toInt64 &&& 63)) → _
      rw [cj.1, bq_12]
      refine nm_e (nm_r (nI_1 j) (ih _ fun i hi => ?_))
      rw [bq_or, bq_bit (by omega) hi, Bool.or_eq_true, decide_eq_true_eq, h i hi]
      constructor
      · rintro ((z | ⟨v, z1, z2⟩) | z)
        · exact Or.inl z
        · exact Or.inr ⟨v, by omega, z2⟩
        · exact Or.inr ⟨j, by omega, q, z⟩
      · rintro (z | ⟨v, z1, z2⟩)
        · exact Or.inl (Or.inl z)
        · by_cases e : v = j
          · subst e
            exact Or.inr z2.2
          · exact Or.inl (Or.inr ⟨v, by omega, z2⟩)
    · rw [h i hi]
      constructor
      · rintro (z | ⟨v, z1, z2⟩)
        · exact Or.inl z
        · exact Or.inr ⟨v, by omega, z2⟩
      · rintro (z | ⟨v, z1, z2⟩)
        · exact Or.inl z
        · by_cases e : v = j
          · subst e
            exact absurd z2.1 q
          · exact Or.inr ⟨v, by omega, z2⟩
theorem bq_s154 {post : Int64 → Prop} {J131 : Int64 → Int32 → Prop} {p g : Int64} {x3 x7 own : Int32} {u : Nat} (hT : bx_T N L T xtg) (hN : N ≤ 12) (hL : L ≤ 3) (hR : bq_R N p c) (hu : u < N)
    (hJ : ∀ g', (∀ i, i < 64 → (bl g' i = true ↔ bl g i = true ∨ ∃ a v, T a u v ∧ (a = 0 → ¬ bt own v = true) ∧ i = 12 * a + c v)) → J131 g' (nI (u + 1))) : ∃ n, wL_sig_154 post J131 p x3 (nI N) (nI L) own x7 (nI u) (nI N) (nI L) xml xql xmt xmi xbT xft xtg xbs xfo n g 0 := by
  refine loop_0 (fun n j (r : Int64) => wL_sig_154 post J131 p x3 (nI N) (nI L) own x7 (nI u) (nI N) (nI L) xml xql xmt xmi xbT xft xtg xbs xfo n r (nI j)) (fun j r => ∀ i, i < 64 → (bl r i = true ↔ bl g i = true ∨ ∃ a v, a < j ∧ T a u v ∧ (a = 0 → ¬ bt own v = true) ∧ i = 12 * a + c v)) (L + 1) g ?_ ?_ ?_
  · intro i _
    exact ⟨Or.inl, fun q => q.elim id (fun ⟨a, v, h, _⟩ => absurd h (Nat.not_lt_zero _))⟩
  · intro n r h
    refine br_t (nI_lt (by omega) (by omega)) (nm_r (nI_1 u) (hJ r fun i hi => ?_))
    rw [h i hi]
    constructor
    · rintro (q | ⟨a, v, _, q⟩)
      · exact Or.inl q
      · exact Or.inr ⟨a, v, q⟩
    · rintro (q | ⟨a, v, q⟩)
      · exact Or.inl q
      · have := (hT.1 _ _ _ q.1).1
        exact Or.inr ⟨a, v, by omega, q⟩
  · intro n j r hj h ih
    have go : ∀ m : Int32, (∀ v, bt m v = true ↔ T j u v ∧ (j = 0 → ¬ bt own v = true)) → ∃ n', wL_sig_190 post J131 (wL_sig_154 post J131 p x3 (nI N) (nI L) own x7 (nI u) (nI N) (nI L) xml xql xmt xmi xbT xft xtg xbs xfo n) p x3 (nI N) (nI L) own x7 (nI u) (nI j) m (nI N) (nI L) xml xql xmt xmi xbT xft xtg xbs xfo n' r 0 := by
      intro m hm
      refine bq_s190 hN (by omega) hR (fun v q => (hT.1 _ _ _ ((hm v).mp q).1).2.2) (fun g' hg => ih g' fun i hi => ?_)
      rw [hg i hi, h i hi]
      constructor
      · rintro ((z | ⟨a, v, z1, z2⟩) | ⟨v, z1, z2⟩)
        · exact Or.inl z
        · exact Or.inr ⟨a, v, by omega, z2⟩
        · have y := (hm v).mp z1
          exact Or.inr ⟨j, v, by omega, y.1, y.2, z2⟩
      · rintro (z | ⟨a, v, z1, z2, z3, z4⟩)
        · exact Or.inl (Or.inl z)
        · by_cases e : a = j
          · subst e
            exact Or.inr ⟨v, (hm v).mpr ⟨z2, z3⟩, z4⟩
          · exact Or.inl (Or.inr ⟨a, v, by omega, z2, z3, z4⟩)
    refine br_f (nI_nlt (by omega) (by omega)) (bq_succ hT hN hL hu hj (fun m hm => pk_eq j 0 (fun e => nm_e (go _ fun v => ?_)) (fun e => go m fun v => ?_)))
    · rw [bb_diffS, hm v]
      exact ⟨fun q => ⟨q.1, fun _ => q.2⟩, fun q => ⟨q.1, q.2 e⟩⟩
    · rw [hm v]
      exact ⟨fun q => ⟨q, fun z => absurd z e⟩, fun q => q.1⟩
theorem bq_s131 {post : Int64 → Prop} {p : Int64} {reach own : Int32} {s : Nat} (hT : bx_T N L T xtg) (hN : N ≤ 12) (hL : L ≤ 3) (hR : bq_R N p c) (hs : s < N) (ho : ∀ v, bt own v = true ↔ bb_K N c (c s) v) (hr : ∀ v, bt reach v = true ↔ bb_Rch T (bb_K N c (c s)) s v)
    (hp : ∀ g, (∀ i, i < 64 → (bl g i = true ↔ bq_SG N T c s i)) → post g) : ∃ n, wL_sig_131 post p (nI s) (nI N) (nI L) own reach (nI N) (nI L) xml xql xmt xmi xbT xft xtg xbs xfo n 0 0 := by
  refine loop_0 (fun n j (r : Int64) => wL_sig_131 post p (nI s) (nI N) (nI L) own reach (nI N) (nI L) xml xql xmt xmi xbT xft xtg xbs xfo n r (nI j)) (fun j r => ∀ i, i < 64 → (bl r i = true ↔ ∃ u a v, u < j ∧ bb_Rch T (bb_K N c (c s)) s u ∧ T a u v ∧ (a = 0 → ¬ bt own v = true) ∧ i = 12 * a + c v)) N 0 ?_ ?_ ?_
  · intro i _
    rw [bq_0]
    exact ⟨fun q => absurd q (by decide), fun ⟨u, a, v, h, _⟩ => absurd h (Nat.not_lt_zero _)⟩
  · intro n r h
    refine br_t (nI_le (Nat.le_refl _) (by omega)) (bq_s252 hT hN hL hs (fun v q => q.1) hr (fun g' hg => hp g' fun i hi => ?_))
    rw [hg i hi, h i hi]
    constructor
    · rintro (⟨u, a, v, hu, ru, m, z, e⟩ | z)
      · have b := hT.1 _ _ _ m
        have cv := (hR v b.2.2).2
        refine Or.inl ⟨a, c v, by omega, by omega, e, fun e0 e1 => z e0 ((ho v).mpr ⟨b.2.2, e1⟩), bb_rch_unt.mpr ⟨u, v, ru, m, b.2.2, rfl⟩⟩
      · exact Or.inr z
    · rintro (⟨a, k, ha, hk, e, z, un⟩ | z)
      · obtain ⟨u, v, ru, m, kv⟩ := bb_rch_unt.mp un
        have b := hT.1 _ _ _ m
        refine Or.inl ⟨u, a, v, b.2.1, ru, m, fun e0 q => z e0 (kv.2.symm.trans ((ho v).mp q).2), ?_⟩
        rw [kv.2]; exact e
      · exact Or.inr z
  · intro n j r hj h ih
    refine br_f (nI_ge hj (by omega)) (ek_if (bb_con reach (by omega)) (fun q => nm_r (nI_1 j) (ih r fun i hi => ?_)) (fun q => bq_s154 hT hN hL hR hj (fun g' hg => ih g' fun i hi => ?_)))
    · rw [h i hi]
      constructor
      · rintro ⟨u, a, v, hu, z⟩
        exact ⟨u, a, v, by omega, z⟩
      · rintro ⟨u, a, v, hu, z⟩
        by_cases e : u = j
        · subst e
          exact absurd ((hr u).mpr z.1) q
        · exact ⟨u, a, v, by omega, z⟩
    · have q' := (hr j).mp (Classical.byContradiction q)
      rw [hg i hi, h i hi]
      constructor
      · rintro (⟨u, a, v, hu, z⟩ | ⟨a, v, z⟩)
        · exact ⟨u, a, v, by omega, z⟩
        · exact ⟨j, a, v, by omega, q', z⟩
      · rintro ⟨u, a, v, hu, z⟩
        by_cases e : u = j
        · subst e
          exact Or.inr ⟨a, v, z.2⟩
        · exact Or.inl ⟨u, a, v, by omega, z⟩
theorem bq_s50 {post : Int64 → Prop} {p : Int64} {own : Int32} {s : Nat} (hT : bx_T N L T xtg) (hN : N ≤ 12) (hL : L ≤ 3) (hR : bq_R N p c) (hs : s < N) (ho : ∀ v, bt own v = true ↔ bb_K N c (c s) v)
    (hp : ∀ g, (∀ i, i < 64 → (bl g i = true ↔ bq_SG N T c s i)) → post g) : ∃ n, wL_sig_50 post p (nI s) (nI N) (nI L) own (nI N) (nI L) xml xql xmt xmi xbT xft xtg xbs xfo n ((1 : Int32) <<< (nI s &&& 31)) 0 := by
  have hb : ∀ a s t, T a s t → s < N ∧ t < N := fun a s t m => (hT.1 a s t m).2
  refine loop_0 (fun n j (r : Int32) => wL_sig_50 post p (nI s) (nI N) (nI L) own (nI N) (nI L) xml xql xmt xmi xbT xft xtg xbs xfo n r (nI j)) (fun j r => (∀ v, bt r v = true → v < N) ∧ bb_WI N T (bb_K N c (c s)) s j (bt r)) N _ ?_ ?_ ?_
  · have key : ∀ v, bt ((1 : Int32) <<< (nI s &&& 31)) v = true ↔ v = s := by
      intro v
      rw [bb_shl (by omega), decide_eq_true_eq]
    refine ⟨fun v q => ?_, fun v _ q => ?_, fun _ => (key s).mpr rfl, Or.inr (Nat.zero_le _)⟩
    · rw [(key v).mp q]; exact hs
    · rw [(key v).mp q]
      exact bb_rch_0 ⟨hs, rfl⟩
  · intro n r ⟨h1, h2⟩
    refine br_t (nI_le (Nat.le_refl _) (by omega)) (bq_s131 hT hN hL hR hs ho (fun v => ?_) hp)
    exact ⟨fun q => (bb_WI_N h2 (h1 v q)).mp q, fun q => (bb_WI_N h2 (bb_rch_F q).1).mpr q⟩
  · intro n j r hj ⟨h1, h2⟩ ih
    refine br_f (nI_ge hj (by omega)) ?_
    refine loop_0 (fun n' j' (r' : Int32) => wL_sig_64 post (wL_sig_50 post p (nI s) (nI N) (nI L) own (nI N) (nI L) xml xql xmt xmi xbT xft xtg xbs xfo n) p (nI s) (nI N) (nI L) own r (nI j) (nI N) (nI L) xml xql xmt xmi xbT xft xtg xbs xfo n' r' (nI j')) (fun j' r' => ∀ v, bt r' v = true ↔ bt r v = true ∨ (bb_K N c (c s) v ∧ ∃ u, u < j' ∧ bt r u = true ∧ T 0 u v)) N r ?_ ?_ ?_
    · intro v
      exact ⟨Or.inl, fun q => q.elim id (fun ⟨_, u, h, _⟩ => absurd h (Nat.not_lt_zero _))⟩
    · intro n' r' h
      have h' : ∀ x w, bt r x = true → T 0 x w → bb_K N c (c s) w → bt r' w = true := fun x w px m f => (h w).mpr (Or.inr ⟨f, x, h1 x px, px, m⟩)
      refine br_t (nI_le (Nat.le_refl _) (by omega)) (br_c (fun e => bq_s131 hT hN hL hR hs ho (fun v => ?_) hp) (fun e => nm_r (nI_1 j) (ih r' ⟨fun v q => ?_, ?_⟩)))
      · have wc : bb_WC T (bb_K N c (c s)) (bt r) := by
          intro x w px m f
          rw [e] at h'
          exact h' x w px m f
        exact ⟨fun q => (bb_WI_c h2 wc (h1 v q)).mp q, fun q => (bb_WI_c h2 wc (bb_rch_F q).1).mpr q⟩
      · rcases (h v).mp q with z | z
        · exact h1 v z
        · exact z.1.1
      · refine bb_WI_s hb hs h2 (fun v _ q => (h v).mpr (Or.inl q)) (fun v hv q => ?_) h' (fun wc v hv q => ?_)
        · rcases (h v).mp q with z | ⟨f, u, hu, z, m⟩
          · exact h2.1 v hv z
          · exact bb_rch_s (h2.1 u hu z) m f
        · rcases (h v).mp q with z | ⟨f, u, hu, z, m⟩
          · exact z
          · exact wc u v z m f
    · intro n' j' r' hj' h ih'
      refine br_f (nI_ge hj' (by omega)) (ek_if (bq_con1 r (by omega)) (fun q => bq_succ (a := 0) hT hN hL hj' (by omega) (fun m hm => nm_e (nm_r (nI_1 j') (ih' _ fun v => ?_)))) (fun q => nm_r (nI_1 j') (ih' _ fun v => ?_)))
      · rw [bb_orS, bb_andS, hm v, ho v, h v]
        constructor
        · rintro ((z | ⟨f, u, hu, z⟩) | ⟨z1, z2⟩)
          · exact Or.inl z
          · exact Or.inr ⟨f, u, by omega, z⟩
          · exact Or.inr ⟨z2, j', by omega, q, z1⟩
        · rintro (z | ⟨f, u, hu, z⟩)
          · exact Or.inl (Or.inl z)
          · by_cases e : u = j'
            · subst e
              exact Or.inr ⟨z.2, f⟩
            · exact Or.inl (Or.inr ⟨f, u, by omega, z⟩)
      · rw [h v]
        constructor
        · rintro (z | ⟨f, u, hu, z⟩)
          · exact Or.inl z
          · exact Or.inr ⟨f, u, by omega, z⟩
        · rintro (z | ⟨f, u, hu, z⟩)
          · exact Or.inl z
          · by_cases e : u = j'
            · subst e
              exact absurd z.1 q
            · exact Or.inr ⟨f, u, by omega, z⟩
theorem bq_sig {post : Int64 → Prop} {p : Int64} {s : Nat} (hT : bx_T N L T xtg) (hN : N ≤ 12) (hL : L ≤ 3) (hR : bq_R N p c) (hs : s < N)
    (hp : ∀ g, (∀ i, i < 64 → (bl g i = true ↔ bq_SG N T c s i)) → post g) : wpL_sig post ((nI N), (nI L), xml, xql, xmt, xmi, xbT, xft, xtg, xbs, xfo) p (nI s) (nI N) (nI L) := by
  unfold wpL_sig
  dsimp only
  refine loop_0 (fun n j (r : Int32) => wL_sig_6 post p (nI s) (nI N) (nI L) (nI N) (nI L) xml xql xmt xmi xbT xft xtg xbs xfo n r (nI j)) (fun j r => ∀ v, bt r v = true ↔ v < j ∧ c v = c s) N 0 ?_ ?_ ?_
  · intro v
    rw [b_0]
    exact ⟨fun q => absurd q (by decide), fun q => absurd q.1 (Nat.not_lt_zero _)⟩
  · intro n r h
    exact br_t (nI_le (Nat.le_refl _) (by omega)) (nm_e (bq_s50 hT hN hL hR hs h hp))
  · intro n j r hj h ih
    have cj := hR j hj
    have cs := hR s hs
    have hcj := cj.2
    have hcs := cs.2
    refine br_f (nI_ge hj (by omega)) ?_
    show (bq_cl p (nI j) = bq_cl p (nI s) → _) ∧ (¬ bq_cl p (nI j) = bq_cl p (nI s) → _)
    rw [cj.1, cs.1]
    refine pk_eq (c j) (c s) (fun e => nm_e (nm_r (nI_1 j) (ih _ fun v => ?_))) (fun e => nm_r (nI_1 j) (ih _ fun v => ?_))
    · rw [bb_ins _ (by omega), h v]
      constructor
      · rintro (z | z)
        · exact ⟨by omega, z.2⟩
        · subst z
          exact ⟨by omega, e⟩
      · intro z
        by_cases e' : v = j
        · exact Or.inr e'
        · exact Or.inl ⟨by omega, z.2⟩
    · rw [h v]
      refine ⟨fun z => ⟨by omega, z.2⟩, fun z => ⟨?_, z.2⟩⟩
      by_cases e' : v = j
      · subst e'
        exact absurd z.2 e
      · omega
end
end
section
section
variable {T : Nat → Nat → Nat → Prop} {N L : Nat} {xml xql xmt xmi xbT xft : Int32} {xtg xbs xfo : Nat → Int32} {c c' : Nat → Nat}
theorem bq_SG_a {s a k : Nat} (ha : a ≤ 3) (hk : k < 12) : bq_SG N T c s (12 * a + k) ↔ bq_D N T c s a k := by
  constructor
  · rintro (⟨a', k', h1, h2, e, d⟩ | ⟨e, _⟩)
    · have e1 : a' = a := by omega
      have e2 : k' = k := by omega
      subst e1 e2
      exact d
    · omega
  · intro d
    exact Or.inl ⟨a, k, ha, hk, rfl, d⟩
theorem bq_SG_d {s : Nat} : bq_SG N T c s 48 ↔ bb_Div T (bb_K N c (c s)) s := by
  constructor
  · rintro (⟨a', k', h1, h2, e, d⟩ | ⟨_, d⟩)
    · omega
    · exact d
  · intro d
    exact Or.inr ⟨rfl, d⟩
theorem bq_sigeq {g g' : Int64} {s t : Nat} (hb : ∀ a s t, T a s t → a ≤ L ∧ s < N ∧ t < N) (hN : N ≤ 12) (hL : L ≤ 3) (hC : ∀ v, v < N → c v < N) (hg : ∀ i, i < 64 → (bl g i = true ↔ bq_SG N T c s i)) (hg' : ∀ i, i < 64 → (bl g' i = true ↔ bq_SG N T c t i)) (e : c s = c t) : g = g' ↔ bb_Al N T c s t := by
  constructor
  · intro eg
    have key : ∀ i, i < 64 → (bq_SG N T c s i ↔ bq_SG N T c t i) := fun i hi => by
      rw [← hg i hi, ← hg' i hi, eg]
    refine ⟨e, ?_, fun a k hk => ?_⟩
    · rw [← bq_SG_d, ← bq_SG_d]
      exact key 48 (by omega)
    · by_cases hr : a ≤ 3 ∧ k < 12
      · have q := key (12 * a + k) (by omega)
        rw [bq_SG_a hr.1 hr.2, bq_SG_a hr.1 hr.2] at q
        have hk' : a = 0 → k ≠ c t := by rw [← e]; exact hk
        exact ⟨fun u => (q.mp ⟨hk, u⟩).2, fun u => (q.mpr ⟨hk', u⟩).2⟩
      · have no : ∀ F x, ¬ bb_Unt T F a (bb_K N c k) x := by
          intro F x u
          refine u (fun _ => False) ?_ (fun _ _ _ _ z => z)
          intro v t _ m q
          have b := hb _ _ _ m
          have ct := hC t q.1
          have := q.2
          omega
        exact ⟨fun u => absurd u (no _ _), fun u => absurd u (no _ _)⟩
  · intro al
    refine bq_ext fun i hi => Bool.eq_iff_iff.mpr ?_
    rw [hg i hi, hg' i hi]
    constructor
    · rintro (⟨a, k, h1, h2, ei, d1, d2⟩ | ⟨ei, d⟩)
      · exact Or.inl ⟨a, k, h1, h2, ei, by rw [← e]; exact d1, (al.2.2 a k d1).mp d2⟩
      · exact Or.inr ⟨ei, al.2.1.mp d⟩
    · rintro (⟨a, k, h1, h2, ei, d1, d2⟩ | ⟨ei, d⟩)
      · rw [← e] at d1
        exact Or.inl ⟨a, k, h1, h2, ei, d1, (al.2.2 a k d1).mpr d2⟩
      · exact Or.inr ⟨ei, al.2.1.mpr d⟩
theorem bb_nx_ex (N : Nat) (T : Nat → Nat → Nat → Prop) (c : Nat → Nat) : ∃ c', bb_Nx N T c c' := by
  have h : ∀ s, ∃ k, k ≤ s ∧ bb_Al N T c s k ∧ ∀ t, t < k → ¬ bb_Al N T c s t := by
    intro s
    obtain ⟨k, hk, hl⟩ := pk_least (fun t => bb_Al N T c s t) ⟨s, bb_al_r c s⟩
    exact ⟨k, Nat.le_of_not_lt fun z => hl s z (bb_al_r c s), hk, hl⟩
  exact ⟨fun s => Classical.choose (h s), fun s _ => Classical.choose_spec (h s)⟩
def bq_CI (N : Nat) (c' : Nat → Nat) (P : Nat → Prop) (r : Int64) (d : Int32) : Prop :=
  (∀ v, bt d v = true ↔ v < N ∧ P v) ∧ ∀ v, v < N → (P v → bq_cl r (nI v) = nI (c' v)) ∧ (¬ P v → bq_cl r (nI v) = 0)
theorem bq_CI_cg {P P' : Nat → Prop} {r : Int64} {d : Int32} (e : ∀ v, v < N → (P v ↔ P' v)) (h : bq_CI N c' P r d) : bq_CI N c' P' r d := by
  refine ⟨fun v => ?_, fun v hv => ⟨fun q => (h.2 v hv).1 ((e v hv).mpr q), fun q => (h.2 v hv).2 fun z => q ((e v hv).mp z)⟩⟩
  rw [h.1 v]
  exact ⟨fun q => ⟨q.1, (e v q.1).mp q.2⟩, fun q => ⟨q.1, (e v q.1).mpr q.2⟩⟩
theorem bq_c55 {post : Int64 → Prop} {J5 : Int64 → Int32 → Prop} {J20 : Int64 → Int32 → Int32 → Prop} {p g r : Int64} {x5 d : Int32} {s : Nat} (hT : bx_T N L T xtg) (hN : N ≤ 12) (hL : L ≤ 3) (hR : bq_R N p c) (hn : bb_Nx N T c c') (hs : s < N) (es : c' s = s)
    (hg : ∀ i, i < 64 → (bl g i = true ↔ bq_SG N T c s i)) (h0 : bq_CI N c' (fun v => c' v < s) r d) (hJ : ∀ r d, bq_CI N c' (fun v => c' v < s + 1) r d → J20 r d (nI (s + 1))) :
    ∃ n, wL_coarsest_55 post J5 J20 (nI N) (nI L) p x5 (nI s) g (nI N) (nI L) xml xql xmt xmi xbT xft xtg xbs xfo n r d (nI s) := by
  refine pk_loop (fun n t (z : Int64 × Int32) => wL_coarsest_55 post J5 J20 (nI N) (nI L) p x5 (nI s) g (nI N) (nI L) xml xql xmt xmi xbT xft xtg xbs xfo n z.1 z.2 (nI t)) (fun t z => s ≤ t ∧ bq_CI N c' (fun v => c' v < s ∨ (c' v = s ∧ v < t)) z.1 z.2) N s (r, d) (by omega) ?_ ?_ ?_
  · refine ⟨Nat.le_refl _, bq_CI_cg (fun v hv => ?_) h0⟩
    have := (hn v hv).1
    exact ⟨Or.inl, fun z => z.elim id (fun z => by omega)⟩
  · rintro n ⟨r, d⟩ ⟨_, h⟩
    dsimp only at h ⊢
    refine br_t (nI_le (Nat.le_refl _) (by omega)) (nm_r (nI_1 s) (hJ r d (bq_CI_cg (fun v hv => ?_) h)))
    constructor
    · rintro (z | z) <;> omega
    · intro z
      by_cases e : c' v = s
      · exact Or.inr ⟨e, hv⟩
      · exact Or.inl (by omega)
  · rintro n t ⟨r, d⟩ ht ⟨hst, h⟩ ih
    dsimp only at h ⊢
    have skip : c' t ≠ s → wL_coarsest_55 post J5 J20 (nI N) (nI L) p x5 (nI s) g (nI N) (nI L) xml xql xmt xmi xbT xft xtg xbs xfo n r d (nI (t + 1)) := by
      intro ne
      refine ih (r, d) ⟨by omega, bq_CI_cg (fun v hv => ?_) h⟩
      constructor
      · rintro (z | z)
        · exact Or.inl z
        · exact Or.inr ⟨z.1, by omega⟩
      · rintro (z | z)
        · exact Or.inl z
        · refine Or.inr ⟨z.1, ?_⟩
          have : v ≠ t := fun e => ne (e ▸ z.1)
          omega
    have ct := hR t ht
    have cs := hR s hs
    have hct := ct.2
    have hcs := cs.2
    refine br_f (nI_ge ht (by omega)) (ek_if (bq_con1 d (by omega)) (fun q => nm_r (nI_1 t) (skip ?_)) (fun q => ?_))
    · rcases ((h.1 t).mp q).2 with z | z <;> omega
    · have np : ¬ (c' t < s ∨ (c' t = s ∧ t < t)) := fun z => q ((h.1 t).mpr ⟨ht, z⟩)
      have add : c' t = s → wL_coarsest_112 post J5 J20 (wL_coarsest_55 post J5 J20 (nI N) (nI L) p x5 (nI s) g (nI N) (nI L) xml xql xmt xmi xbT xft xtg xbs xfo n) (nI N) (nI L) p x5 r d (nI s) g (nI t) (nI N) (nI L) xml xql xmt xmi xbT xft xtg xbs xfo := by
        intro e
        refine nm_e (nm_e (nm_r (nI_1 t) (ih (_, _) ⟨by omega, fun v => ?_, fun v hv => ?_⟩)))
        · dsimp only
          rw [bb_ins _ (by omega), h.1 v]
          constructor
          · rintro (⟨z1, z2 | z2⟩ | z)
            · exact ⟨z1, Or.inl z2⟩
            · exact ⟨z1, Or.inr ⟨z2.1, by omega⟩⟩
            · subst z
              exact ⟨ht, Or.inr ⟨e, by omega⟩⟩
          · rintro ⟨z1, z2 | z2⟩
            · exact Or.inl ⟨z1, Or.inl z2⟩
            · by_cases e' : v = t
              · exact Or.inr e'
              · exact Or.inl ⟨z1, Or.inr ⟨z2.1, by omega⟩⟩
        · dsimp only
          rw [bq_put (by omega) (by omega) (by omega) ((h.2 t ht).2 np)]
          by_cases e' : v = t
          · subst e'
            rw [if_pos rfl]
            exact ⟨fun _ => by rw [e], fun z => absurd (Or.inr ⟨e, by omega⟩) z⟩
          · rw [if_neg e']
            refine ⟨fun z => (h.2 v hv).1 ?_, fun z => (h.2 v hv).2 fun y => z ?_⟩
            · rcases z with z | z
              · exact Or.inl z
              · exact Or.inr ⟨z.1, by omega⟩
            · rcases y with y | y
              · exact Or.inl y
              · exact Or.inr ⟨y.1, by omega⟩
      show (bq_cl p (nI t) = bq_cl p (nI s) → _) ∧ (¬ bq_cl p (nI t) = bq_cl p (nI s) → _)
      rw [ct.1, cs.1]
      refine pk_eq (c t) (c s) (fun e => pk_eq t s (fun e2 => add (by rw [e2]; exact es)) (fun e2 => bq_sig hT hN hL hR ht (fun g' hg' => ?_))) (fun e => nm_r (nI_1 t) (skip fun z => e ?_))
      · have al := bq_sigeq hT.1 hN hL (fun v hv => (hR v hv).2) hg' hg e
        refine br_c (fun z => add ?_) (fun z => nm_r (nI_1 t) (skip fun y => z (al.mpr ?_)))
        · rw [(bb_nx_eq hn ht hs).mpr (al.mp z)]; exact es
        · exact (bb_nx_eq hn ht hs).mp (y.trans es.symm)
      · exact ((bb_nx_eq hn ht hs).mp (z.trans es.symm)).1
theorem bq_c20 {post : Int64 → Prop} {J5 : Int64 → Int32 → Prop} {p : Int64} {i : Nat} (hT : bx_T N L T xtg) (hN : N ≤ 12) (hL : L ≤ 3) (hR : bq_R N p c) (hn : bb_Nx N T c c')
    (h1 : bq_R N p c' → post p) (h2 : ∀ r, bq_R N r c' → J5 r (nI (i + 1))) : ∃ n, wL_coarsest_20 post J5 (nI N) (nI L) p (nI i) (nI N) (nI L) xml xql xmt xmi xbT xft xtg xbs xfo n 0 0 0 := by
  refine loop_0 (fun n s (z : Int64 × Int32) => wL_coarsest_20 post J5 (nI N) (nI L) p (nI i) (nI N) (nI L) xml xql xmt xmi xbT xft xtg xbs xfo n z.1 z.2 (nI s)) (fun s z => bq_CI N c' (fun v => c' v < s) z.1 z.2) N (0, 0) ?_ ?_ ?_
  · refine ⟨fun v => ?_, fun v hv => ⟨fun z => absurd z (Nat.not_lt_zero _), fun _ => bq_cl0 (by omega)⟩⟩
    dsimp only
    rw [b_0]
    exact ⟨fun q => absurd q (by decide), fun q => absurd q.2 (Nat.not_lt_zero _)⟩
  · rintro n ⟨r, d⟩ h
    dsimp only at h ⊢
    have hr : bq_R N r c' := fun v hv => by
      have := (hn v hv).1
      exact ⟨(h.2 v hv).1 (by omega), by omega⟩
    refine br_t (nI_le (Nat.le_refl _) (by omega)) (br_c (fun e => h1 ?_) (fun e => nm_r (nI_1 i) (h2 r hr)))
    rw [← e]; exact hr
  · rintro n s ⟨r, d⟩ hs h ih
    dsimp only at h ⊢
    refine br_f (nI_ge hs (by omega)) (ek_if (bq_con1 d (by omega)) (fun q => nm_r (nI_1 s) (ih (r, d) (bq_CI_cg (fun v hv => ?_) h))) (fun q => bq_sig hT hN hL hR hs (fun g hg => bq_c55 hT hN hL hR hn hs ?_ hg h (fun r d h' => ih (r, d) h'))))
    · have z := ((h.1 s).mp q).2
      refine ⟨fun y => by omega, fun y => ?_⟩
      have : c' v ≠ s := fun e => by
        have y2 := bb_nx_id hn hv
        rw [e] at y2
        omega
      omega
    · have z : ¬ c' s < s := fun z => q ((h.1 s).mpr ⟨hs, z⟩)
      have := (hn s hs).1
      omega
theorem bb_RI_w {r : Nat} (h : bb_RI N T r c) (hr : N ≤ r) : bb_RI N T N c :=
  ⟨h.1, h.2.1, h.2.2.elim Or.inl (fun z => Or.inr (by omega))⟩
theorem bq_coa {post : Int64 → Prop} (hT : bx_T N L T xtg) (h2 : 2 ≤ N) (hN : N ≤ 12) (hL : L ≤ 3) (hp : ∀ p c, bb_Sp N T c → bq_R N p c → post p) : wpL_coarsest post ((nI N), (nI L), xml, xql, xmt, xmi, xbT, xft, xtg, xbs, xfo) (nI N) (nI L) := by
  have hb : ∀ a s t, T a s t → s < N ∧ t < N := fun a s t m => (hT.1 a s t m).2
  unfold wpL_coarsest
  dsimp only
  refine loop_0 (fun n i (p : Int64) => wL_coarsest_5 post (nI N) (nI L) (nI N) (nI L) xml xql xmt xmi xbT xft xtg xbs xfo n p (nI i)) (fun i p => ∃ c, bq_R N p c ∧ bb_RI N T i c) (N + 1) 0 ?_ ?_ ?_
  · exact ⟨fun _ => 0, fun s hs => ⟨bq_cl0 (by omega), by show 0 < N; omega⟩, bb_RI_0 (by omega) (fun _ _ => rfl)⟩
  · rintro n p ⟨c, hR, h⟩
    have hw := bb_RI_w h (by omega)
    exact br_t (nI_lt (by omega) (by omega)) (hp p c ⟨hw.1, bb_RI_N hb hw⟩ hR)
  · rintro n i p hi ⟨c, hR, h⟩ ih
    obtain ⟨c', hn⟩ := bb_nx_ex N T c
    refine br_f (nI_nlt (by omega) (by omega)) (bq_c20 hT hN hL hR hn (fun q => ?_) (fun r hr => ih r ⟨c', hr, bb_RI_s hb h hn⟩))
    have e : ∀ v, v < N → c' v = c v := by
      intro v hv
      have a := q v hv
      have b := hR v hv
      have a2 := a.2
      have b2 := b.2
      exact (nI_eq (by omega) (by omega)).mp (a.1.symm.trans b.1)
    have hw : bb_RI N T N c := ⟨h.1, h.2.1, Or.inl fun s t hs ht z => (bb_nx_eq hn hs ht).mp (by rw [e s hs, e t ht]; exact z)⟩
    exact hp p c ⟨hw.1, bb_RI_N hb hw⟩ hR
end
end
section
section
variable {T : Nat → Nat → Nat → Prop} {N L fm Q : Nat} {xml xql xmt xmi xbT xft : Int32} {xtg xbs xfo : Nat → Int32} {c : Nat → Nat}
def bq_tg (lo hi : Int64) (f : Nat) : Int32 := bq_cl (if f < 16 then lo else hi) (nI (f % 16))
def bq_Tg (N : Nat) (c : Nat → Nat) (fm : Nat) (fo : Nat → Int32) (lo hi : Int64) : Prop :=
  ∀ f, f < 32 → bq_tg lo hi f = 0 ∨ (f < fm ∧ ∃ k, k < N ∧ bq_tg lo hi f = nI (k + 1) ∧ ∀ s, s < N → (bt (fo f) s = true ↔ c s = k))
theorem bq_cls {post : Int32 → Prop} {p : Int64} {s : Nat} (hR : bq_R N p c) (hs : s < N) (hp : post (nI (c s))) : wpL_cls post () p (nI s) := by
  show post (bq_cl p (nI s))
  rw [(hR s hs).1]
  exact hp
theorem bq_a130 {post : Int32 → Prop} {J85 : Int32 → Prop} {p x4 x6 : Int64} {x8 x10 : Int32} {f : Nat} (hN : N ≤ 12) (hfm : fm ≤ 32) (hf : f < fm) (hM : bq_Mi N T c fm xbs xfo) (hR : bq_R N p c)
    (ht : x10 = 0 ∨ ∃ k, k < N ∧ x10 = nI (k + 1) ∧ ∀ s, s < N → (bt (xfo f) s = true ↔ c s = k)) (hJ : J85 (nI (f + 1))) : ∃ n, wL_agree_130 post J85 p (nI N) x4 x6 x8 (nI f) x10 (nI N) (nI L) xml xql xmt 1 xbT (nI fm) xtg xbs xfo n 0 := by
  refine loop_0 (fun n j (_ : Unit) => wL_agree_130 post J85 p (nI N) x4 x6 x8 (nI f) x10 (nI N) (nI L) xml xql xmt 1 xbT (nI fm) xtg xbs xfo n (nI j)) (fun _ _ => True) N () trivial ?_ ?_
  · intro n _ _
    exact br_t (nI_le (Nat.le_refl _) (by omega)) (nm_r (nI_1 f) hJ)
  · intro n s _ hs _ ih
    have nx := ih () trivial
    have cs := hR s hs
    have hcs := cs.2
    have hid := (hM.1.1 s hs).2
    have iv := (hM.2.2 f hf).2
    have fin : ∀ b : Int32, ((b = 1 ∧ bt (xfo f) s = true) ∨ (b = 0 ∧ ¬ bt (xfo f) s = true)) → wpL_cls (fun r_14 => ((r_14 = (x10 - 1) → (wL_agree_183 post J85 (wL_agree_130 post J85 p (nI N) x4 x6 x8 (nI f) x10 (nI N) (nI L) xml xql xmt 1 xbT (nI fm) xtg xbs xfo n) p (nI N) x4 x6 x8 (nI f) x10 (nI s) b 1 (nI N) (nI L) xml xql xmt 1 xbT (nI fm) xtg xbs xfo)) ∧ (¬ r_14 = (x10 - 1) → (wL_agree_183 post J85 (wL_agree_130 post J85 p (nI N) x4 x6 x8 (nI f) x10 (nI N) (nI L) xml xql xmt 1 xbT (nI fm) xtg xbs xfo n) p (nI N) x4 x6 x8 (nI f) x10 (nI s) b 0 (nI N) (nI L) xml xql xmt 1 xbT (nI fm) xtg xbs xfo)))) () p (nI s) := by
      intro b hb
      show (bq_cl p (nI s) = (x10 - 1) → _) ∧ (¬ bq_cl p (nI s) = (x10 - 1) → _)
      rw [cs.1]
      rcases ht with e | ⟨k, hk, e, h⟩
      · subst e
        exact br_c (fun _ => br_t (by decide) (nm_r (nI_1 s) nx)) (fun _ => br_t (by decide) (nm_r (nI_1 s) nx))
      · subst e
        rw [nI_pred]
        refine pk_eq (c s) k (fun e => br_f (nI_nle (by omega) (by omega)) (br_t ?_ (nm_r (nI_1 s) nx))) (fun e => br_f (nI_nle (by omega) (by omega)) (br_t ?_ (nm_r (nI_1 s) nx)))
        · rcases hb with z | z
          · exact z.1
          · exact absurd ((h s hs).mpr e) z.2
        · rcases hb with z | z
          · exact absurd ((h s hs).mp z.2) e
          · exact z.1
    refine br_f (nI_ge hs (by omega)) (bq_ho hN hfm hf hs (fun q => ?_) (fun q => ?_))
    · exact bq_cls hR hs (bq_ho hN hfm hf hcs (fun _ => br_t rfl (fin 1 (Or.inl ⟨rfl, q⟩))) (fun z => absurd (iv s (c s) hs hcs hid.symm q) z))
    · exact bq_cls hR hs (bq_ho hN hfm hf hcs (fun z => absurd (iv (c s) s hcs hs hid z) q) (fun _ => br_t rfl (fin 0 (Or.inr ⟨rfl, q⟩))))
theorem bq_agree {post : Int32 → Prop} {p lo hi : Int64} (hN : N ≤ 12) (hfm : fm ≤ 32) (hM : bq_Mi N T c fm xbs xfo) (hR : bq_R N p c) (hG : bq_Tg N c fm xfo lo hi) (hp : post 1) : wpL_agree post ((nI N), (nI L), xml, xql, xmt, 1, nI (bb_cn (bb_ldr c) N), nI fm, xtg, xbs, xfo) p (nI N) lo hi := by
  have hB := bb_cn_le (bb_ldr c) N
  have hc := hM.1.1
  unfold wpL_agree
  dsimp only
  refine loop_0 (fun n j (_ : Unit) => wL_agree_3 post p (nI N) lo hi (nI N) (nI L) xml xql xmt 1 (nI (bb_cn (bb_ldr c) N)) (nI fm) xtg xbs xfo n (nI j)) (fun _ _ => True) N () trivial ?_ ?_
  · intro n _ _
    refine br_t (nI_le (Nat.le_refl _) (by omega)) ?_
    show ∃ fu85 : Nat, wL_agree_85 post p (nI N) lo hi (nI fm) (nI N) (nI L) xml xql xmt 1 (nI (bb_cn (bb_ldr c) N)) (nI fm) xtg xbs xfo fu85 0
    refine loop_0 (fun n f (_ : Unit) => wL_agree_85 post p (nI N) lo hi (nI fm) (nI N) (nI L) xml xql xmt 1 (nI (bb_cn (bb_ldr c) N)) (nI fm) xtg xbs xfo n (nI f)) (fun _ _ => True) fm () trivial ?_ ?_
    · intro n _ _
      exact br_c (fun _ => hp) (fun _ => br_t (nI_le (Nat.le_refl _) (by omega)) hp)
    · intro n f _ hf _ ih
      have nx := ih () trivial
      refine br_f (nI_ge (b := 32) (by omega) (by decide)) (br_f (nI_ge hf (by omega)) ?_)
      have go : ∀ z : Int64, z = (if f < 16 then lo else hi) → wL_agree_113 post (wL_agree_85 post p (nI N) lo hi (nI fm) (nI N) (nI L) xml xql xmt 1 (nI (bb_cn (bb_ldr c) N)) (nI fm) xtg xbs xfo n) p (nI N) lo hi (nI fm) (nI f) z (nI N) (nI L) xml xql xmt 1 (nI (bb_cn (bb_ldr c) N)) (nI fm) xtg xbs xfo := by
        intro z ez
        refine ⟨by decide, ?_⟩
        have er : nI f - nI f / 16 * 16 = nI (f % 16) := pk_rem (d := 16) (by omega) (by omega) (by omega)
        show ∀ x10_7 : Int32, x10_7 = bq_cl z (nI f - nI f / 16 * 16) → _
        rw [er]
        refine nm_e (bq_a130 hN hfm hf hM hR ?_ nx)
        rcases hG f (by omega) with q | ⟨_, q⟩
        · refine Or.inl ?_
          rw [ez]; exact q
        · refine Or.inr ?_
          rw [ez]; exact q
      refine pk_le 16 f (fun z => go hi ?_) (fun z => go lo ?_)
      · rw [if_neg (by omega)]
      · rw [if_pos z]
  · intro n s _ hs _ ih
    have nx := ih () trivial
    refine br_f (nI_ge hs (by omega)) ?_
    refine loop_0 (fun n' t (_ : Unit) => wL_agree_12 post (wL_agree_3 post p (nI N) lo hi (nI N) (nI L) xml xql xmt 1 (nI (bb_cn (bb_ldr c) N)) (nI fm) xtg xbs xfo n) p (nI N) lo hi (nI s) (nI N) (nI L) xml xql xmt 1 (nI (bb_cn (bb_ldr c) N)) (nI fm) xtg xbs xfo n' (nI t)) (fun _ _ => True) s () trivial ?_ ?_
    · intro n' _ _
      exact br_t (nI_le (Nat.le_refl _) (by omega)) (nm_r (nI_1 s) nx)
    · intro n' t _ ht _ ih'
      have nx' := ih' () trivial
      have cs := hR s hs
      have ct := hR t (by omega)
      have hcs := cs.2
      have hct := ct.2
      have ns := bb_nb_lt hc hs
      have nt := bb_nb_lt hc (s := t) (by omega)
      have iff := bb_nb_eq hc hs (t := t) (by omega)
      refine br_f (nI_ge ht (by omega)) (bq_bo hN hM hs (bq_bo hN hM (by omega) (pk_eq (bb_nb c s) (bb_nb c t) (fun e => ?_) (fun e => ?_))))
      · show (bq_cl p (nI s) = bq_cl p (nI t) → _) ∧ (¬ bq_cl p (nI s) = bq_cl p (nI t) → _)
        rw [cs.1, ct.1]
        exact pk_eq (c s) (c t) (fun _ => br_t rfl (nm_r (nI_1 t) nx')) (fun z => absurd (iff.mp e) z)
      · show (bq_cl p (nI s) = bq_cl p (nI t) → _) ∧ (¬ bq_cl p (nI s) = bq_cl p (nI t) → _)
        rw [cs.1, ct.1]
        exact pk_eq (c s) (c t) (fun z => absurd (iff.mpr z) e) (fun _ => br_t rfl (nm_r (nI_1 t) nx'))
theorem bq_edit {post : St2 → Prop} {o x a y : Nat} (hT : bx_T N L T xtg) (hN : N ≤ 12) (hL : L ≤ 3) (ho : o < 16) (hx : x < N) (ha : a < L + 1) (hy : y < N)
    (hp : ∀ T' tg' mt', bx_T N L T' tg' → post ((nI N), (nI L), xml, xql, mt', 0, xbT, xft, tg', xbs, xfo)) : wpL_edit post ((nI N), (nI L), xml, xql, xmt, 0, xbT, xft, xtg, xbs, xfo) (nI o) (nI x) (nI a) (nI y) (nI N) (nI L) := by
  unfold wpL_edit
  dsimp only
  refine pk_le 10 o (fun _ => pk_le 12 o (fun _ => pk_le 14 o (fun _ => ?_) (fun _ => ?_)) (fun _ => ?_)) (fun _ => ?_)
  · refine loop_0 (fun n v (s : Int32 × (Nat → Int32)) => wL_edit_113 post (nI x) (nI a) (nI N) n (nI v) (nI N) (nI L) xml xql s.1 0 xbT xft s.2 xbs xfo) (fun _ s => ∃ T', bx_T N L T' s.2) N (xmt, xtg) ⟨T, hT⟩ ?_ ?_
    · rintro n ⟨mt, tg⟩ ⟨T', h⟩
      exact br_t (nI_le (Nat.le_refl _) (by omega)) (hp T' tg mt h)
    · rintro n v ⟨mt, tg⟩ hv ⟨T', h⟩ ih
      exact br_f (nI_ge hv (by omega)) (bq_rem h hN hL hx ha hv (fun r T'' tg' mt' h' => nm_r (nI_1 v) (ih (mt', tg') ⟨T'', h'⟩)))
  · refine loop_0 (fun n b (s : Int32 × (Nat → Int32)) => wL_edit_54 post (nI x) (nI y) (nI N) (nI L) n (nI b) (nI N) (nI L) xml xql s.1 0 xbT xft s.2 xbs xfo) (fun _ s => ∃ T', bx_T N L T' s.2) (L + 1) (xmt, xtg) ⟨T, hT⟩ ?_ ?_
    · rintro n ⟨mt, tg⟩ ⟨T', h⟩
      exact br_t (nI_lt (by omega) (by omega)) (hp T' tg mt h)
    · rintro n b ⟨mt, tg⟩ hb ⟨T', h⟩ ih
      refine br_f (nI_nlt (by omega) (by omega)) ?_
      refine loop_0 (fun n' v (s : Int32 × (Nat → Int32)) => wL_edit_64 post (wL_edit_54 post (nI x) (nI y) (nI N) (nI L) n) (nI x) (nI y) (nI N) (nI L) (nI b) n' (nI v) (nI N) (nI L) xml xql s.1 0 xbT xft s.2 xbs xfo) (fun _ s => ∃ T', bx_T N L T' s.2) N (mt, tg) ⟨T', h⟩ ?_ ?_
      · rintro n' ⟨mt, tg⟩ ⟨T', h⟩
        exact br_t (nI_le (Nat.le_refl _) (by omega)) (nm_r (nI_1 b) (ih (mt, tg) ⟨T', h⟩))
      · rintro n' v ⟨mt, tg⟩ hv ⟨T', h⟩ ih'
        exact br_f (nI_ge hv (by omega)) (bq_hm h hN hL hx hb hv (fun _ => br_t rfl (bq_add h hN hL hy hb hv (fun r T'' tg' mt' h' => nm_r (nI_1 v) (ih' (mt', tg') ⟨T'', h'⟩)))) (fun _ => br_f (by decide) (nm_r (nI_1 v) (ih' (mt, tg) ⟨T', h⟩))))
  · exact bq_add (a := 0) hT hN hL hx (by omega) hy (fun r T' tg' mt' h' => bq_add (a := 0) h' hN hL hy (by omega) hx (fun r T'' tg'' mt'' h'' => hp T'' tg'' mt'' h''))
  · exact bq_add hT hN hL hx ha hy (fun r T' tg' mt' h' => hp T' tg' mt' h')
theorem bq_pick {post : Int32 → Prop} {Ln k m : Nat} {xs : Nat → Int32} (hLn : Ln ≤ 260) (hk : k < 2 ^ 30) (hm : 0 < m) (hm2 : m < 2 ^ 30) (hp : ∀ j, j < m → post (nI j)) : wpL_pick post Ln xs () (nI k) (nI m) := by
  have fin : ∀ r : Int32, ¬ nI m = 0 ∧ post ((r &&& 2147483647) - (r &&& 2147483647) / nI m * nI m) := by
    intro r
    obtain ⟨j, hj, e⟩ := pk_andE r (m := 2147483647) 31 (by decide)
    rw [e, pk_rem (by omega) hm (by omega)]
    exact ⟨nI_ne0 hm (by omega), hp _ (Nat.mod_lt _ hm)⟩
  unfold wpL_pick wpL_cell
  refine pk_le Ln k (fun _ => fin 0) (fun z => ⟨vp_in_nI z (by omega), fin _⟩)
theorem bb_sp_to {c : Nat → Nat} (h : bb_Sp N T c) : bb_Ld N T c := by
  intro s t q
  have b := (h.2 s t).mpr q
  have h1 := h.1 s b.1
  have h2 := h.1 t b.2.1
  refine ⟨(h.2 s (c s)).mp ⟨b.1, by omega, h1.2.symm⟩, ?_⟩
  have := b.2.2
  omega
theorem bb_sp_ex (hb : ∀ a s t, T a s t → s < N ∧ t < N) (h0 : 0 < N) : ∃ c, bb_Sp N T c := by
  have h : ∀ r, ∃ c, bb_RI N T r c := by
    intro r
    induction r with
    | zero => exact ⟨fun _ => 0, bb_RI_0 h0 (fun _ _ => rfl)⟩
    | succ r ih =>
      obtain ⟨c, h⟩ := ih
      obtain ⟨c', hn⟩ := bb_nx_ex N T c
      exact ⟨c', bb_RI_s hb h hn⟩
  obtain ⟨c, h⟩ := h N
  exact ⟨c, h.1, bb_RI_N hb h⟩
theorem bq_Tg_add {fo fo' : Nat → Int32} {lo hi : Int64} {k : Nat} (hN : N ≤ 12) (h : bq_Tg N c fm fo lo hi) (hf : fm < 32) (hk : k < N) (h1 : ∀ f, f < fm → fo' f = fo f) (h2 : ∀ s, s < N → (bt (fo' fm) s = true ↔ c s = k)) :
    (fm < 16 → bq_Tg N c (fm + 1) fo' (lo ||| ((nI (k + 1)).toInt64 <<< ((4 * nI (fm % 16)).toInt64 &&& 63))) hi) ∧ (16 ≤ fm → bq_Tg N c (fm + 1) fo' lo (hi ||| ((nI (k + 1)).toInt64 <<< ((4 * nI (fm % 16)).toInt64 &&& 63)))) := by
  have z : bq_tg lo hi fm = 0 := by
    rcases h fm hf with q | q
    · exact q
    · omega
  have old : ∀ f, f < 32 → f ≠ fm → bq_tg lo hi f = 0 ∨ (f < fm + 1 ∧ ∃ k, k < N ∧ bq_tg lo hi f = nI (k + 1) ∧ ∀ s, s < N → (bt (fo' f) s = true ↔ c s = k)) := by
    intro f hf' ne
    rcases h f hf' with q | ⟨q1, k, q2, q3, q4⟩
    · exact Or.inl q
    · refine Or.inr ⟨by omega, k, q2, q3, ?_⟩
      rw [h1 f q1]; exact q4
  unfold bq_tg at z
  constructor
  · intro l
    rw [if_pos l] at z
    intro f hf'
    unfold bq_tg
    by_cases lf : f < 16
    · rw [if_pos lf, bq_put (by omega) (by omega) (by omega) z]
      by_cases e : f = fm
      · subst e
        rw [if_pos rfl]
        exact Or.inr ⟨by omega, k, hk, rfl, h2⟩
      · rw [if_neg (by omega)]
        have q := old f hf' e
        unfold bq_tg at q
        rw [if_pos lf] at q
        exact q
    · rw [if_neg lf]
      have q := old f hf' (by omega)
      unfold bq_tg at q
      rw [if_neg lf] at q
      exact q
  · intro l
    rw [if_neg (by omega)] at z
    intro f hf'
    unfold bq_tg
    by_cases lf : f < 16
    · rw [if_pos lf]
      have q := old f hf' (by omega)
      unfold bq_tg at q
      rw [if_pos lf] at q
      exact q
    · rw [if_neg lf, bq_put (by omega) (by omega) (by omega) z]
      by_cases e : f = fm
      · subst e
        rw [if_pos rfl]
        exact Or.inr ⟨by omega, k, hk, rfl, h2⟩
      · rw [if_neg (by omega)]
        have q := old f hf' e
        unfold bq_tg at q
        rw [if_neg lf] at q
        exact q
end
end
section
section
variable {T : Nat → Nat → Nat → Prop} {N L fm Q Ln st i : Nat} {xs : Nat → Int32} {xml xql xmt xmi xbT xft : Int32} {xtg xbs xfo : Nat → Int32} {c : Nat → Nat} {post : Int32 → Prop} {kc ks : Nat} {ref lo hi : Int64} {x5 : Int32}
  {J88 : Int64 → Int64 → Int64 → Int32 → Int32 → Int32 → Int32 → Int32 → Int32 → Int32 → Int32 → Int32 → Int32 → Int32 → (Nat → Int32) → (Nat → Int32) → (Nat → Int32) → Prop}
def bq_Mn (N L Q : Nat) (T : Nat → Nat → Nat → Prop) (c : Nat → Nat) (fm : Nat) (ref lo hi : Int64) (tg bs fo : Nat → Int32) : Prop :=
  bx_T N L T tg ∧ fm ≤ Q ∧ bq_Mi N T c fm bs fo ∧ bq_R N ref c ∧ bq_Tg N c fm fo lo hi
def bq_Inv (N L Q : Nat) (ref lo hi : Int64) (mn dt mi bT ft : Int32) (tg bs fo : Nat → Int32) : Prop :=
  ∃ T, (mn = 0 ∧ mi = 0 ∧ ft = nI 0 ∧ bx_T N L T tg ∧ (dt = 0 → ∃ c, bb_Sp N T c ∧ bq_R N ref c)) ∨
    (mn = 1 ∧ mi = 1 ∧ dt = 0 ∧ ∃ c fm, ft = nI fm ∧ bT = nI (bb_cn (bb_ldr c) N) ∧ bq_Mn N L Q T c fm ref lo hi tg bs fo)
def bq_HJ (N L Q i : Nat) (xml : Int32) (J88 : Int64 → Int64 → Int64 → Int32 → Int32 → Int32 → Int32 → Int32 → Int32 → Int32 → Int32 → Int32 → Int32 → Int32 → (Nat → Int32) → (Nat → Int32) → (Nat → Int32) → Prop) : Prop :=
  ∀ ref lo hi mn dt mt mi bT ft tg bs fo, bq_Inv N L Q ref lo hi mn dt mi bT ft tg bs fo → J88 ref lo hi mn dt (nI (i + 1)) (nI N) (nI L) xml (nI Q) mt mi bT ft tg bs fo
theorem bq_643 (hN : N ≤ 12) (hQ : Q ≤ 32) (hJ : bq_HJ N L Q i xml J88) (hM : bq_Mn N L Q T c fm ref lo hi xtg xbs xfo) :
    wL_law_643 post Ln xs J88 (nI N) (nI L) (nI Q) x5 ref lo hi 1 0 (nI i) kc ks (nI N) (nI L) xml (nI Q) xmt 1 (nI (bb_cn (bb_ldr c) N)) (nI fm) xtg xbs xfo := by
  have h := hM.2.1
  refine bq_agree hN (by omega) hM.2.2.1 hM.2.2.2.1 hM.2.2.2.2 (br_f (by decide) (nm_r (nI_1 i) (hJ _ _ _ _ _ _ _ _ _ _ _ _ ⟨T, Or.inr ⟨rfl, rfl, rfl, c, fm, rfl, rfl, hM⟩⟩)))
theorem bq_p2 (k : Nat) : nI k + 2 = nI (k + 2) := nI_add k 2
theorem bq_p3 (k : Nat) : nI k + 3 = nI (k + 3) := nI_add k 3
theorem bq_418 {k m kk a : Nat} (hLn : Ln ≤ 260) (hN : N ≤ 12) (hL : L ≤ 3) (hQ : Q ≤ 32) (hk : k < 2 ^ 20) (hm : 0 < m) (hm2 : m ≤ 32) (hJ : bq_HJ N L Q i xml J88) (hM : bq_Mn N L Q T c fm ref lo hi xtg xbs xfo)
    (hV : ∀ l r, l < m → r < m → bb_V fm L (nI kk) (nI l) (nI a) (nI r)) : wL_law_418 post Ln xs J88 (nI N) (nI L) (nI Q) x5 ref lo hi 1 0 (nI i) (nI k) (nI a) (nI kk) (nI m) kc ks (nI N) (nI L) xml (nI Q) xmt 1 (nI (bb_cn (bb_ldr c) N)) (nI fm) xtg xbs xfo := by
  unfold wL_law_418
  rw [nI_1, bq_p2]
  refine bq_pick hLn (by omega) hm (by omega) (fun l hl => bq_pick hLn (by omega) hm (by omega) (fun r hr => bq_make hM.1 hN hL hQ hM.2.1 hM.2.2.1 (hV l r hl hr) (fun _ fm' fo' h1 h2 h3 h4 => bq_643 hN hQ hJ ⟨hM.1, h2, h4, hM.2.2.2.1, ?_⟩)))
  intro f hf
  rcases hM.2.2.2.2 f hf with q | ⟨q1, k, q2, q3, q4⟩
  · exact Or.inl q
  · refine Or.inr ⟨by omega, k, q2, q3, ?_⟩
    rw [h3 f q1]; exact q4
theorem bq_405 {k kk a : Nat} (hLn : Ln ≤ 260) (hN : N ≤ 12) (hL : L ≤ 3) (hQ : Q ≤ 32) (hk : k < 2 ^ 20) (ha : a < L + 1) (h5 : kk < 5) (h0 : fm = 0 → kk = 0) (hJ : bq_HJ N L Q i xml J88) (hM : bq_Mn N L Q T c fm ref lo hi xtg xbs xfo) :
    wL_law_405 post Ln xs J88 (nI N) (nI L) (nI Q) x5 ref lo hi 1 0 (nI i) (nI k) (nI a) (nI fm) (nI kk) kc ks (nI N) (nI L) xml (nI Q) xmt 1 (nI (bb_cn (bb_ldr c) N)) (nI fm) xtg xbs xfo := by
  have hfm := hM.2.1
  refine pk_lt 0 fm (fun z => bq_418 hLn hN hL hQ hk z (by omega) hJ hM (fun l r hl hr => ⟨kk, h5, rfl, fun _ => ⟨l, hl, rfl⟩, fun _ => ⟨r, hr, rfl⟩, fun _ => ⟨a, ha, rfl⟩⟩)) (fun z => bq_418 (m := 1) hLn hN hL hQ hk (by omega) (by omega) hJ hM (fun l r hl hr => ?_))
  have e := h0 (by omega)
  exact ⟨kk, h5, rfl, fun z => absurd e z, fun z => by omega, fun z => by omega⟩
theorem bq_345 {k o x y a : Nat} (hLn : Ln ≤ 260) (hN : N ≤ 12) (hL : L ≤ 3) (hQ : Q ≤ 32) (hk : k < 2 ^ 20) (ho : o < 16) (hx : x < N) (hy : y < N) (ha : a < L + 1) (hJ : bq_HJ N L Q i xml J88) (hM : bq_Mn N L Q T c fm ref lo hi xtg xbs xfo) :
    wL_law_345 post Ln xs J88 (nI N) (nI L) (nI Q) x5 ref lo hi 1 0 (nI i) (nI k) (nI o) (nI x) (nI y) (nI a) kc ks (nI N) (nI L) xml (nI Q) xmt 1 (nI (bb_cn (bb_ldr c) N)) (nI fm) xtg xbs xfo := by
  have hfm := hM.2.1
  have hR := hM.2.2.2.1
  have cx := (hR x hx).2
  have cy := (hR y hy).2
  have s643 := bq_643 (post := post) (Ln := Ln) (xs := xs) (x5 := x5) (xmt := xmt) (kc := kc) (ks := ks) hN hQ hJ hM
  have s405 : ∀ kk, kk < 5 → (fm = 0 → kk = 0) → wL_law_405 post Ln xs J88 (nI N) (nI L) (nI Q) x5 ref lo hi 1 0 (nI i) (nI k) (nI a) (nI fm) (nI kk) kc ks (nI N) (nI L) xml (nI Q) xmt 1 (nI (bb_cn (bb_ldr c) N)) (nI fm) xtg xbs xfo := fun kk h5 h0 => bq_405 hLn hN hL hQ hk ha h5 h0 hJ hM
  have s369 : wL_law_369 post Ln xs J88 (nI N) (nI L) (nI Q) x5 ref lo hi 1 0 (nI i) (nI k) (nI a) (nI fm) kc ks (nI N) (nI L) xml (nI Q) xmt 1 (nI (bb_cn (bb_ldr c) N)) (nI fm) xtg xbs xfo := s405 0 (by omega) (fun _ => rfl)
  unfold wL_law_345 wpX_formulaCount
  dsimp only
  refine pk_le 8 o (fun z8 => pk_le 13 o (fun z13 => pk_eq o 13 (fun _ => ?_) (fun _ => pk_eq o 14 (fun _ => ?_) (fun _ => ?_))) (fun z13 => ?_)) (fun z8 => pk_le fm 0 (fun z => s369) (fun z => pk_eq o 0 (fun _ => s369) (fun _ => pk_le 3 o (fun _ => pk_eq o 3 (fun _ => s405 2 (by omega) (fun e => by omega)) (fun _ => pk_le 7 o (fun _ => s405 4 (by omega) (fun e => by omega)) (fun _ => s405 3 (by omega) (fun e => by omega)))) (fun _ => s405 1 (by omega) (fun e => by omega)))))
  · exact br_f (by decide : ¬ (1 : Int32) = 0) (br_f (by decide : ¬ (1 : Int32) = 0) s643)
  · exact br_f (by decide) s643
  · refine br_f (by decide) (nm_r (nI_1 i) (hJ _ _ _ _ _ _ _ _ _ _ _ _ ⟨T, Or.inl ⟨rfl, rfl, rfl, hM.1, fun _ => ⟨c, hM.2.2.1.1, hR⟩⟩⟩))
  · refine bq_tell hN hQ hfm hM.2.2.1 hx hy (fun e => bq_cls hR hx (bq_cls hR hy (br_t (by rw [e]) (br_t rfl (br_t rfl s643))))) (fun e q => bq_cls hR hx (bq_cls hR hy (br_f (fun z => e ((nI_eq (by omega) (by omega)).mp z)) (br_t (nI_le q (by omega)) s643)))) (fun e q fo' h1 h2 h3 => bq_cls hR hx (bq_cls hR hy (br_f (fun z => e ((nI_eq (by omega) (by omega)).mp z)) (br_f (nI_ge q (by omega)) (br_t rfl (br_t (nI_1 fm).symm (bq_cls hR hx ⟨by decide, ?_⟩)))))))
    have er : nI fm - nI fm / 16 * 16 = nI (fm % 16) := pk_rem (d := 16) (by omega) (by omega) (by omega)
    have ad := bq_Tg_add hN hM.2.2.2.2 (by omega) cx h1 h2
    rw [er, nI_1 (c x)]
    exact nm_e (pk_le 16 fm (fun z => nm_e (bq_643 hN hQ hJ ⟨hM.1, by omega, h3, hR, ad.2 z⟩)) (fun z => nm_e (bq_643 hN hQ hJ ⟨hM.1, by omega, h3, hR, ad.1 z⟩)))
theorem bq_Tg0 {fo : Nat → Int32} : bq_Tg N c 0 fo 0 0 := by
  intro f hf
  refine Or.inl ?_
  unfold bq_tg
  have e : (if f < 16 then (0 : Int64) else 0) = 0 := by split <;> rfl
  rw [e]
  exact bq_cl0 (by omega)
theorem bq_308 {k o x y a : Nat} {x15 : Int32} (hLn : Ln ≤ 260) (hN : N ≤ 12) (hL : L ≤ 3) (hQ : Q ≤ 32) (hk : k < 2 ^ 20) (ho : o < 16) (hx : x < N) (hy : y < N) (ha : a < L + 1) (hJ : bq_HJ N L Q i xml J88) (hT : bx_T N L T xtg) (hM : bq_Mi N T c 0 xbs xfo) (hR : bq_R N ref c) :
    wL_law_308 post Ln xs J88 (nI N) (nI L) (nI Q) x5 ref (nI i) x15 (nI k) (nI o) (nI x) (nI y) (nI a) kc ks (nI N) (nI L) xml (nI Q) xmt 1 (nI (bb_cn (bb_ldr c) N)) (nI 0) xtg xbs xfo := by
  have hMn : bq_Mn N L Q T c 0 ref 0 0 xtg xbs xfo := ⟨hT, Nat.zero_le _, hM, hR, bq_Tg0⟩
  exact bq_agree hN (by omega) hM hR bq_Tg0 (br_f (by decide) (br_c (fun _ => nm_r (nI_1 i) (hJ _ _ _ _ _ _ _ _ _ _ _ _ ⟨T, Or.inr ⟨rfl, rfl, rfl, c, 0, rfl, rfl, hMn⟩⟩)) (fun _ => bq_345 hLn hN hL hQ hk ho hx hy ha hJ hMn)))
theorem bq_288 {k o x y a : Nat} {x13 x15 : Int32} (hLn : Ln ≤ 260) (h2 : 2 ≤ N) (hN : N ≤ 12) (hL : L ≤ 3) (hQ : Q ≤ 32) (hk : k < 2 ^ 20) (ho : o < 16) (hx : x < N) (hy : y < N) (ha : a < L + 1) (hJ : bq_HJ N L Q i xml J88) (hT : bx_T N L T xtg) (hd : x13 = 0 → ∃ c, bb_Sp N T c ∧ bq_R N ref c) :
    wL_law_288 post Ln xs J88 (nI N) (nI L) (nI Q) x5 ref x13 (nI i) x15 (nI k) (nI o) (nI x) (nI y) (nI a) kc ks (nI N) (nI L) xml (nI Q) xmt 0 xbT (nI 0) xtg xbs xfo := by
  have hb : ∀ a s t, T a s t → s < N ∧ t < N := fun a s t m => (hT.1 a s t m).2
  obtain ⟨c, hS⟩ := bb_sp_ex hb (by omega)
  have mv : ∀ c2 p, bb_Sp N T c2 → bq_R N p c2 → bq_R N p c := by
    intro c2 p hS2 hR s hs
    rw [← bb_sp_ld hS2 (bb_sp_to hS) hs]
    exact hR s hs
  refine bx_min hT h2 hN hL (bb_sp_to hS) (fun g hc hg => ?_)
  have hMi : ∀ fo, bq_Mi N T c 0 g fo := fun fo => ⟨hS, hg, fun f hf => absurd hf (Nat.not_lt_zero _)⟩
  refine br_c (fun z => ?_) (fun _ => bq_coa hT h2 hN hL (fun p c2 hS2 hR => bq_308 hLn hN hL hQ hk ho hx hy ha hJ hT (hMi _) (mv c2 p hS2 hR)))
  obtain ⟨c2, hS2, hR⟩ := hd z
  exact bq_308 hLn hN hL hQ hk ho hx hy ha hJ hT (hMi _) (mv c2 ref hS2 hR)
theorem bq_250 {k o x y a : Nat} {mn dt x15 : Int32} (hLn : Ln ≤ 260) (h2 : 2 ≤ N) (hN : N ≤ 12) (hL : L ≤ 3) (hQ : Q ≤ 32) (hk : k < 2 ^ 20) (ho : o < 16) (hx : x < N) (hy : y < N) (ha : a < L + 1) (hJ : bq_HJ N L Q i xml J88) (hI : bq_Inv N L Q ref lo hi mn dt xmi xbT xft xtg xbs xfo) :
    wL_law_250 post Ln xs J88 (nI N) (nI L) (nI Q) x5 ref lo hi mn dt (nI i) x15 (nI k) (nI o) (nI x) (nI y) (nI a) kc ks (nI N) (nI L) xml (nI Q) xmt xmi xbT xft xtg xbs xfo := by
  obtain ⟨T, ⟨e1, e2, e3, hT, hd⟩ | ⟨e1, e2, e3, c, fm, e4, e5, hM⟩⟩ := hI
  · subst e1 e2 e3
    have s288 := bq_288 (post := post) (x15 := x15) (x5 := x5) (xs := xs) (kc := kc) (ks := ks) (xmt := xmt) (xbT := xbT) (xbs := xbs) (xfo := xfo) hLn h2 hN hL hQ hk ho hx hy ha hJ hT hd
    refine br_t rfl (br_c (fun _ => br_c (fun _ => s288) (fun _ => bq_edit hT hN hL ho hx ha hy (fun T' tg' mt' h' => nm_r (nI_1 i) (hJ _ _ _ _ _ _ _ _ _ _ _ _ ⟨T', Or.inl ⟨rfl, rfl, rfl, h', fun z => absurd z (by decide)⟩⟩)))) (fun _ => s288))
  · subst e1 e2 e3 e4 e5
    exact br_f (by decide) (bq_345 hLn hN hL hQ hk ho hx hy ha hJ hM)
theorem bq_220 {k o x y a : Nat} {mn dt x15 : Int32} (hLn : Ln ≤ 260) (h2 : 2 ≤ N) (hN : N ≤ 12) (hL : L ≤ 3) (hQ : Q ≤ 32) (hk : k < 2 ^ 20) (ho : o < 16) (hx : x < N) (hy : y < N) (ha : a < L + 1) (hJ : bq_HJ N L Q i xml J88) (hI : bq_Inv N L Q ref lo hi mn dt xmi xbT xft xtg xbs xfo) :
    wL_law_220 post Ln xs J88 (nI N) (nI L) (nI Q) x5 ref lo hi mn dt (nI i) x15 (nI k) (nI o) (nI x) (nI y) (nI a) kc ks (nI N) (nI L) xml (nI Q) xmt xmi xbT xft xtg xbs xfo := by
  have s250 := bq_250 (post := post) (x15 := x15) (x5 := x5) (xs := xs) (kc := kc) (ks := ks) (xmt := xmt) hLn h2 hN hL hQ hk ho hx hy ha hJ hI
  refine br_c (fun _ => s250) (fun z => br_c (fun _ => s250) (fun _ => br_c (fun _ => s250) (fun _ => ?_)))
  obtain ⟨T, ⟨e1, e2, e3, hT, hd⟩ | ⟨e1, e2, e3, c, fm, e4, e5, hM⟩⟩ := hI
  · exact absurd e1 z
  · subst e1 e2 e3 e4 e5
    exact br_f (by decide) (bq_250 hLn h2 hN hL hQ hk ho hx hy ha hJ ⟨T, Or.inl ⟨rfl, rfl, rfl, hM.1, fun _ => ⟨c, hM.2.2.1.1, hM.2.2.2.1⟩⟩⟩)
theorem bq_191 {k o x y : Nat} {mn dt x15 : Int32} (hLn : Ln ≤ 260) (h2 : 2 ≤ N) (hN : N ≤ 12) (hL : L ≤ 3) (hQ : Q ≤ 32) (hk : k < 2 ^ 20) (ho : o < 16) (hx : x < N) (hy : y < N) (hJ : bq_HJ N L Q i xml J88) (hI : bq_Inv N L Q ref lo hi mn dt xmi xbT xft xtg xbs xfo) :
    wL_law_191 post Ln xs J88 (nI N) (nI L) (nI Q) x5 ref lo hi mn dt (nI i) x15 (nI k) (nI o) (nI x) (nI y) kc ks (nI N) (nI L) xml (nI Q) xmt xmi xbT xft xtg xbs xfo := by
  have e : 2 * nI L + 2 = nI (2 * L + 2) := by
    show nI 2 * nI L + nI 2 = _
    rw [pk_mul, nI_add]
  unfold wL_law_191
  rw [bq_p3, e]
  exact bq_pick hLn (by omega) (by omega) (by omega) (fun j hj => pk_lt L j (fun z => bq_220 (a := 0) hLn h2 hN hL hQ hk ho hx hy (by omega) hJ hI) (fun z => bq_220 hLn h2 hN hL hQ hk ho hx hy (by omega) hJ hI))
theorem bq_111 {mn dt x15 : Int32} (hLn : Ln ≤ 260) (h2 : 2 ≤ N) (hN : N ≤ 12) (hL : L ≤ 3) (hQ : Q ≤ 32) (hlt : i < st + N * N) (hst : st ≤ 64) (h15 : (x15 = 0) ∨ (x15 = 1 ∧ st ≤ i)) (hJ : bq_HJ N L Q i xml J88) (hI : bq_Inv N L Q ref lo hi mn dt xmi xbT xft xtg xbs xfo) :
    wL_law_111 post Ln xs J88 (nI N) (nI L) (nI Q) (nI st) ref lo hi mn dt (nI i) x15 kc ks (nI N) (nI L) xml (nI Q) xmt xmi xbT xft xtg xbs xfo := by
  have hNN : N * N ≤ 144 := Nat.mul_le_mul hN hN
  have e4 : 4 + 4 * nI i = nI (4 + 4 * i) := by
    show nI 4 + nI 4 * nI i = _
    rw [pk_mul, nI_add]
  refine nm_r e4 ?_
  rcases h15 with e | ⟨e, hsi⟩
  · subst e
    refine br_t rfl (bq_pick (m := 16) hLn (by omega) (by omega) (by omega) (fun o ho => ?_))
    refine br_t rfl ?_
    rw [nI_1]
    refine bq_pick hLn (by omega) (by omega) (by omega) (fun x hx => ?_)
    refine br_t rfl ?_
    rw [bq_p2]
    exact bq_pick hLn (by omega) (by omega) (by omega) (fun y hy => bq_191 hLn h2 hN hL hQ (by omega) ho hx hy hJ hI)
  · subst e
    have ex : (nI i - nI st) / nI N = nI ((i - st) / N) := by
      rw [pk_sub hsi, pk_div (by omega) (by omega) (by omega)]
    have ey : (nI i - nI st) - (nI i - nI st) / nI N * nI N = nI ((i - st) % N) := by
      rw [pk_sub hsi, pk_rem (by omega) (by omega) (by omega)]
    have hx : (i - st) / N < N := Nat.div_lt_of_lt_mul (by omega)
    have hy : (i - st) % N < N := Nat.mod_lt _ (by omega)
    have n0 : ¬ nI N = 0 := nI_ne0 (by omega) (by omega)
    refine br_f (by decide) (br_f (by decide) ⟨n0, br_f (by decide) ⟨n0, ?_⟩⟩)
    rw [ey, ex]
    exact bq_191 (o := 8) hLn h2 hN hL hQ (by omega) (by omega) hx hy hJ hI
end
theorem bq_68 {post : Int32 → Prop} {Ln : Nat} {xs : Nat → Int32} {N L Q st kc ks : Nat} {xml : Int32} (hLn : Ln ≤ 260) (h2 : 2 ≤ N) (hN : N ≤ 12) (hL : L ≤ 3) (hQ : Q ≤ 32) (hst : st ≤ 64) (hp : post 1) :
    wL_law_68 post Ln xs (nI N) (nI L) (nI Q) (nI st) kc ks (nI N) (nI L) xml (nI Q) 0 0 0 0 (fun _ => 0) (fun _ => 0) (fun _ => 0) := by
  have hNN : N * N ≤ 144 := Nat.mul_le_mul hN hN
  have e0 : nI st + nI N * nI N = nI (st + N * N) := by rw [pk_mul, nI_add]
  refine loop_0 (fun n i (s : (Int64 × Int64 × Int64 × Int32 × Int32) × (Int32 × Int32 × Int32 × Int32) × ((Nat → Int32) × (Nat → Int32) × (Nat → Int32))) => wL_law_88 post Ln xs (nI N) (nI L) (nI Q) (nI st) kc ks n s.1.1 s.1.2.1 s.1.2.2.1 s.1.2.2.2.1 s.1.2.2.2.2 (nI i) (nI N) (nI L) xml (nI Q) s.2.1.1 s.2.1.2.1 s.2.1.2.2.1 s.2.1.2.2.2 s.2.2.1 s.2.2.2.1 s.2.2.2.2)
    (fun i s => bq_Inv N L Q s.1.1 s.1.2.1 s.1.2.2.1 s.1.2.2.2.1 s.1.2.2.2.2 s.2.1.2.1 s.2.1.2.2.1 s.2.1.2.2.2 s.2.2.1 s.2.2.2.1 s.2.2.2.2) (st + N * N) ((0, 0, 0, 0, 1), (0, 0, 0, 0), (fun _ => 0, fun _ => 0, fun _ => 0)) ?_ ?_ ?_
  · refine ⟨fun _ _ _ => False, Or.inl ⟨rfl, rfl, rfl, ⟨fun _ _ _ z => z.elim, fun a s t _ _ => ?_⟩, fun z => absurd z (by decide)⟩⟩
    rw [b_0]
    exact ⟨fun z => absurd z (by decide), fun z => z.elim⟩
  · rintro n ⟨⟨ref, lo, hi, mn, dt⟩, ⟨mt, mi, bT, ft⟩, tg, bs, fo⟩ _
    refine br_t ?_ hp
    rw [e0]
    exact nI_le (Nat.le_refl _) (by omega)
  · rintro n i ⟨⟨ref, lo, hi, mn, dt⟩, ⟨mt, mi, bT, ft⟩, tg, bs, fo⟩ hlt hI ih
    dsimp only at hI ⊢
    have hJ : bq_HJ N L Q i xml (wL_law_88 post Ln xs (nI N) (nI L) (nI Q) (nI st) kc ks n) := fun ref lo hi mn dt mt mi bT ft tg bs fo h => ih ((ref, lo, hi, mn, dt), (mt, mi, bT, ft), tg, bs, fo) h
    refine br_f ?_ (pk_lt i st (fun z => bq_111 hLn h2 hN hL hQ hlt hst (Or.inl rfl) hJ hI) (fun z => bq_111 hLn h2 hN hL hQ hlt hst (Or.inr ⟨rfl, z⟩) hJ hI))
    rw [e0]
    exact nI_ge hlt (by omega)
theorem bq_clamp {post : Int32 → Prop} {n lo hi : Nat} (h1 : lo ≤ n) (h2 : n ≤ hi) (hh : hi < 2 ^ 31) (hp : post (nI n)) : wpX_clamp post () (nI n) (nI lo) (nI hi) :=
  br_t (nI_le h1 (by omega)) (br_t (nI_le h2 hh) hp)
theorem i_vc (xs : Nat → Int32) (L : Nat) (hL : L ≤ 260) : wpL_law (fun r => r = 1) L xs := by
  unfold wpL_law
  have s2 : ∀ j, 2 + nI j = nI (2 + j) := fun j => nI_add 2 j
  have s1 : ∀ j, 1 + nI j = nI (1 + j) := fun j => nI_add 1 j
  have s32 : ∀ j, j < 25 → 32 - nI j = nI (32 - j) := fun j hj => pk_sub (a := 32) (by omega)
  refine bq_pick (k := 0) (m := 11) hL (by omega) (by omega) (by omega) (fun j0 h0 => nm_r (s2 j0) ?_)
  refine bq_pick (k := 1) (m := 3) hL (by omega) (by omega) (by omega) (fun j1 h1 => nm_r (s1 j1) ?_)
  refine bq_pick (k := 3) (m := 25) hL (by omega) (by omega) (by omega) (fun j3 h3 => nm_r (s32 j3 h3) ?_)
  refine bq_pick (k := 2) (m := 25) hL (by omega) (by omega) (by omega) (fun j2 h2 => ?_)
  rw [s32 j2 h2]
  refine ⟨3, 92, by omega, by omega, ?_⟩
  refine ⟨by omega, by omega, by omega, by omega, by omega, by omega, ?_⟩
  refine bq_clamp (lo := 2) (hi := 12) (by omega) (by omega) (by omega) (bq_clamp (lo := 1) (hi := 3) (by omega) (by omega) (by omega) (bq_clamp (lo := 8) (hi := 32) (by omega) (by omega) (by omega) (bq_clamp (lo := 8) (hi := 32) (by omega) (by omega) (by omega) ?_)))
  refine pk_le L 4 (fun z => bq_68 (st := 0) hL (by omega) (by omega) (by omega) (by omega) (by omega) rfl) (fun z => ⟨by decide, ?_⟩)
  have e : (Int32.ofNat L - 1) / 4 = nI ((L - 1) / 4) := by
    show (nI L - nI 1) / nI 4 = _
    rw [pk_sub (by omega), pk_div (by omega) (by omega) (by omega)]
  rw [e]
  exact bq_68 hL (by omega) (by omega) (by omega) (by omega) (by omega) rfl
end
