section
section
def bb_Unt (T : Nat → Nat → Nat → Prop) (F : Nat → Prop) (a : Nat) (G : Nat → Prop) (u : Nat) : Prop :=
  ∀ S : Nat → Prop, (∀ v t, F v → T a v t → G t → S v) → (∀ v w, F v → T 0 v w → S w → S v) → S u
def bb_Div (T : Nat → Nat → Nat → Prop) (F : Nat → Prop) (u : Nat) : Prop :=
  ∃ S : Nat → Prop, S u ∧ ∀ v, S v → F v ∧ ∃ w, T 0 v w ∧ S w
variable {T : Nat → Nat → Nat → Prop} {N : Nat}
theorem bb_unt_b {F G : Nat → Prop} {a v t : Nat} (hF : F v) (hT : T a v t) (hG : G t) : bb_Unt T F a G v := fun _ h1 _ => h1 v t hF hT hG
theorem bb_unt_s {F G : Nat → Prop} {a v w : Nat} (hF : F v) (hT : T 0 v w) (h : bb_Unt T F a G w) : bb_Unt T F a G v := fun S h1 h2 => h2 v w hF hT (h S h1 h2)
theorem bb_unt_ind {F G : Nat → Prop} {a u : Nat} (P : Nat → Prop) (h : bb_Unt T F a G u) (h1 : ∀ v t, F v → T a v t → G t → P v) (h2 : ∀ v w, F v → T 0 v w → bb_Unt T F a G w → P w → P v) : P u :=
  (h (fun v => bb_Unt T F a G v ∧ P v) (fun v t x y z => ⟨bb_unt_b x y z, h1 v t x y z⟩) (fun v w x y z => ⟨bb_unt_s x y z.1, h2 v w x y z.1 z.2⟩)).2
theorem bb_unt_F {F G : Nat → Prop} {a u : Nat} (h : bb_Unt T F a G u) : F u := h F (fun _ _ x _ _ => x) (fun _ _ x _ _ => x)
theorem bb_unt_mono {F G F' G' : Nat → Prop} {a u : Nat} (hF : ∀ x, F x → F' x) (hG : ∀ x, G x → G' x) (h : bb_Unt T F a G u) : bb_Unt T F' a G' u :=
  h _ (fun _ _ x y z => bb_unt_b (hF _ x) y (hG _ z)) (fun _ _ x y z => bb_unt_s (hF _ x) y z)
theorem bb_div_F {F : Nat → Prop} {u : Nat} (h : bb_Div T F u) : F u := by
  obtain ⟨S, hu, hS⟩ := h
  exact (hS u hu).1
theorem bb_div_s {F : Nat → Prop} {u : Nat} (h : bb_Div T F u) : ∃ w, T 0 u w ∧ bb_Div T F w := by
  obtain ⟨S, hu, hS⟩ := h
  obtain ⟨_, w, hw, sw⟩ := hS u hu
  exact ⟨w, hw, S, sw, hS⟩
def bb_Eqv (N : Nat) (R : Nat → Nat → Prop) : Prop :=
  (∀ s, s < N → R s s) ∧ (∀ s t, R s t → R t s) ∧ (∀ s t u, R s t → R t u → R s u) ∧ (∀ s t, R s t → s < N ∧ t < N)
def bb_Stb (T : Nat → Nat → Nat → Prop) (R : Nat → Nat → Prop) : Prop :=
  (∀ s t c a, R s t → (a = 0 → ¬ R s c) → bb_Unt T (R s) a (R c) s → bb_Unt T (R s) a (R c) t) ∧
  (∀ s t, R s t → bb_Div T (R s) s → bb_Div T (R s) t)
def bb_Bis (N : Nat) (T : Nat → Nat → Nat → Prop) (s t : Nat) : Prop := ∃ R, bb_Eqv N R ∧ bb_Stb T R ∧ R s t
theorem bb_cutU {R : Nat → Nat → Prop} {K C : Nat → Prop} {a u : Nat} (hT : ∀ a s t, T a s t → s < N ∧ t < N) (hE : bb_Eqv N R) (hS : bb_Stb T R) (hK : ∀ x y, R x y → K x → K y) (hC : ∀ x y, R x y → C x → C y)
    (h0 : a = 0 → ∀ x, K x → C x → False) (h : bb_Unt T K a C u) : ∀ t, R u t → bb_Unt T K a C t := by
  refine bb_unt_ind (fun u => ∀ t, R u t → bb_Unt T K a C t) h ?_ ?_
  · intro v c hv hm hc t hR
    have h1 : bb_Unt T (R v) a (R c) v := bb_unt_b (hE.1 v (hT _ _ _ hm).1) hm (hE.1 c (hT _ _ _ hm).2)
    have h2 := hS.1 v t c a hR (fun ha hvc => h0 ha c (hK _ _ hvc hv) hc) h1
    exact bb_unt_mono (fun x hx => hK _ _ hx hv) (fun x hx => hC _ _ hx hc) h2
  · intro v w hv hm hw ih t hR
    by_cases e : R v w
    · exact ih t (hE.2.2.1 _ _ _ (hE.2.1 _ _ e) hR)
    · have h1 : bb_Unt T (R v) 0 (R w) v := bb_unt_b (hE.1 v (hT _ _ _ hm).1) hm (hE.1 w (hT _ _ _ hm).2)
      have h2 := hS.1 v t w 0 hR (fun _ => e) h1
      refine bb_unt_ind (fun x => bb_Unt T K a C x) h2 ?_ ?_
      · intro x y hx hxy hy
        exact bb_unt_s (hK _ _ hx hv) hxy (ih y hy)
      · intro x y hx hxy _ ih2
        exact bb_unt_s (hK _ _ hx hv) hxy ih2
theorem bb_leave {R : Nat → Nat → Prop} {K : Nat → Prop} {y : Nat} (hT : ∀ a s t, T a s t → s < N ∧ t < N) (hE : bb_Eqv N R) (hy : y < N) (h : bb_Div T K y) (hn : ¬ bb_Div T (R y) y) :
    ∃ z, ¬ R y z ∧ bb_Div T K z ∧ bb_Unt T (R y) 0 (R z) y := by
  refine Classical.byContradiction fun hc => hn ?_
  refine ⟨fun w => R y w ∧ bb_Div T K w ∧ ∀ z, ¬ R y z → bb_Div T K z → ¬ bb_Unt T (R y) 0 (R z) w, ⟨hE.1 y hy, h, fun z a b c => hc ⟨z, a, b, c⟩⟩, ?_⟩
  intro w hw
  obtain ⟨r, d, g⟩ := hw
  refine ⟨r, ?_⟩
  obtain ⟨w', m, d'⟩ := bb_div_s d
  have hr : R y w' := Classical.byContradiction fun e => g w' e d' (bb_unt_b r m (hE.1 w' (hT _ _ _ m).2))
  exact ⟨w', m, hr, d', fun z a b c => g z a b (bb_unt_s r m c)⟩
theorem bb_cutD {R : Nat → Nat → Prop} {K : Nat → Prop} {u t : Nat} (hT : ∀ a s t, T a s t → s < N ∧ t < N) (hE : bb_Eqv N R) (hS : bb_Stb T R) (hK : ∀ x y, R x y → K x → K y)
    (h : bb_Div T K u) (hR : R u t) : bb_Div T K t := by
  refine ⟨fun x => ∃ y, R y x ∧ bb_Div T K y, ⟨u, hR, h⟩, ?_⟩
  intro x hx
  obtain ⟨y, r, d⟩ := hx
  refine ⟨hK _ _ r (bb_div_F d), ?_⟩
  have hyN := (hE.2.2.2 _ _ r).1
  by_cases e : bb_Div T (R y) y
  · obtain ⟨x', m, d'⟩ := bb_div_s (hS.2 y x r e)
    exact ⟨x', m, y, bb_div_F d', d⟩
  · obtain ⟨z, nz, dz, uz⟩ := bb_leave hT hE hyN d e
    have h2 := hS.1 y x z 0 r (fun _ => nz) uz
    refine bb_unt_ind (fun x => ∃ w, T 0 x w ∧ ∃ y, R y w ∧ bb_Div T K y) h2 ?_ ?_
    · intro v w _ m q
      exact ⟨w, m, z, q, dz⟩
    · intro v w _ m q _
      exact ⟨w, m, y, bb_unt_F q, d⟩
theorem bb_ph : ∀ (n m : Nat) (f : Nat → Nat), (∀ i, i < m → f i < n) → (∀ i j, i < m → j < m → f i = f j → i = j) → m ≤ n := by
  intro n
  induction n with
  | zero => intro m f hf _; exact Nat.le_of_not_lt fun h => absurd (hf 0 h) (Nat.not_lt_zero _)
  | succ n ih =>
    intro m f hf hi
    cases m with
    | zero => exact Nat.zero_le _
    | succ m =>
      refine Nat.succ_le_succ (ih m (fun i => if f i = n then f m else f i) ?_ ?_)
      · intro i h
        have h1 := hf i (by omega)
        have h2 := hf m (by omega)
        split
        · rename_i e
          by_cases e2 : f m = n
          · have := hi i m (by omega) (by omega) (e.trans e2.symm)
            omega
          · omega
        · omega
      · intro i j h1 h2
        intro e
        have a1 := hi i m (by omega) (by omega)
        have a2 := hi j m (by omega) (by omega)
        have a3 := hi i j (by omega) (by omega)
        split at e
        · split at e
          · rename_i e1 e2
            exact a3 (e1.trans e2.symm)
          · have := a2 e.symm
            omega
        · split at e
          · have := a1 e
            omega
          · exact a3 e
def bb_Par (N m : Nat) (B : Nat → Nat → Prop) : Prop :=
  (∀ i, i < m → ∃ s, B i s) ∧ (∀ i s, i < m → B i s → s < N) ∧ (∀ i j s, i < m → j < m → B i s → B j s → i = j) ∧ (∀ s, s < N → ∃ i, i < m ∧ B i s)
theorem bb_par_le {m : Nat} {B : Nat → Nat → Prop} (h : bb_Par N m B) : m ≤ N := by
  refine bb_ph N m (fun i => if hi : i < m then Classical.choose (h.1 i hi) else 0) ?_ ?_
  · intro i hi
    rw [dif_pos hi]
    exact h.2.1 i _ hi (Classical.choose_spec (h.1 i hi))
  · intro i j hi hj
    rw [dif_pos hi, dif_pos hj]
    intro e
    have h1 := Classical.choose_spec (h.1 i hi)
    have h2 := Classical.choose_spec (h.1 j hj)
    rw [e] at h1
    exact h.2.2.1 i j _ hi hj h1 h2
def bb_Co (N : Nat) (T : Nat → Nat → Nat → Prop) (m : Nat) (B : Nat → Nat → Prop) : Prop :=
  ∀ R, bb_Eqv N R → bb_Stb T R → ∀ i s t, i < m → R s t → B i s → B i t
def bb_cutB (m k : Nat) (B : Nat → Nat → Prop) (U : Nat → Prop) : Nat → Nat → Prop := fun i s => if i = m then B k s ∧ ¬ U s else if i = k then B k s ∧ U s else B i s
theorem bb_par_cut {m k : Nat} {B : Nat → Nat → Prop} {U : Nat → Prop} (h : bb_Par N m B) (hk : k < m) (hi : ∃ s, B k s ∧ U s) (ho : ∃ s, B k s ∧ ¬ U s) : bb_Par N (m + 1) (bb_cutB m k B U) := by
  obtain ⟨h1, h2, h3, h4⟩ := h
  have key : ∀ i s, i < m + 1 → bb_cutB m k B U i s → (i = m ∧ B k s ∧ ¬ U s) ∨ (i < m ∧ i = k ∧ B k s ∧ U s) ∨ (i < m ∧ i ≠ k ∧ B i s) := by
    intro i s hi hb
    unfold bb_cutB at hb
    split at hb
    · exact Or.inl ⟨‹_›, hb⟩
    · split at hb
      · exact Or.inr (Or.inl ⟨by omega, ‹_›, hb⟩)
      · exact Or.inr (Or.inr ⟨by omega, ‹_›, hb⟩)
  refine ⟨?_, ?_, ?_, ?_⟩
  · intro i him
    unfold bb_cutB
    split
    · exact ho
    · split
      · exact hi
      · exact h1 i (by omega)
  · intro i s him hb
    rcases key i s him hb with ⟨_, q, _⟩ | ⟨_, _, q, _⟩ | ⟨x, _, q⟩
    · exact h2 k s hk q
    · exact h2 k s hk q
    · exact h2 i s x q
  · intro i j s him hjm hbi hbj
    rcases key i s him hbi with ⟨e1, q1, n1⟩ | ⟨l1, e1, q1, n1⟩ | ⟨l1, e1, q1⟩ <;> rcases key j s hjm hbj with ⟨e2, q2, n2⟩ | ⟨l2, e2, q2, n2⟩ | ⟨l2, e2, q2⟩
    · omega
    · exact absurd n2 n1
    · exact absurd (h3 j k s l2 hk q2 q1) e2
    · exact absurd n1 n2
    · omega
    · exact absurd (h3 j k s l2 hk q2 q1) e2
    · exact absurd (h3 i k s l1 hk q1 q2) e1
    · exact absurd (h3 i k s l1 hk q1 q2) e1
    · exact h3 i j s l1 l2 q1 q2
  · intro s hs
    obtain ⟨i, him, hb⟩ := h4 s hs
    by_cases e : i = k
    · subst e
      by_cases u : U s
      · refine ⟨i, by omega, ?_⟩
        unfold bb_cutB
        rw [if_neg (by omega), if_pos rfl]
        exact ⟨hb, u⟩
      · refine ⟨m, by omega, ?_⟩
        unfold bb_cutB
        rw [if_pos rfl]
        exact ⟨hb, u⟩
    · refine ⟨i, by omega, ?_⟩
      unfold bb_cutB
      rw [if_neg (by omega), if_neg e]
      exact hb
theorem bb_co_cut {m k : Nat} {B : Nat → Nat → Prop} {U : Nat → Prop} (h : bb_Co N T m B) (hk : k < m) (hU : ∀ R, bb_Eqv N R → bb_Stb T R → ∀ s t, R s t → B k s → U s → U t) : bb_Co N T (m + 1) (bb_cutB m k B U) := by
  intro R hE hS i s t hi hR hb
  have hst := hE.2.1 _ _ hR
  unfold bb_cutB at hb ⊢
  split at hb
  · rw [if_pos ‹_›]
    have hbt := h R hE hS k s t hk hR hb.1
    exact ⟨hbt, fun ut => hb.2 (hU R hE hS t s hst hbt ut)⟩
  · rw [if_neg ‹_›]
    split at hb
    · rw [if_pos ‹_›]
      exact ⟨h R hE hS k s t hk hR hb.1, hU R hE hS s t hR hb.1 hb.2⟩
    · rw [if_neg ‹_›]
      exact h R hE hS i s t (by omega) hR hb
def bb_Fix (T : Nat → Nat → Nat → Prop) (m : Nat) (B : Nat → Nat → Prop) (k : Nat) : Prop :=
  (∀ s t, B k s → B k t → bb_Div T (B k) s → bb_Div T (B k) t) ∧
  (∀ a c, c < m → (a = 0 → c ≠ k) → ∀ s t, B k s → B k t → bb_Unt T (B k) a (B c) s → bb_Unt T (B k) a (B c) t)
def bb_PR (m : Nat) (B : Nat → Nat → Prop) (s t : Nat) : Prop := ∃ i, i < m ∧ B i s ∧ B i t
theorem bb_pr_eqv {m : Nat} {B : Nat → Nat → Prop} (h : bb_Par N m B) : bb_Eqv N (bb_PR m B) := by
  obtain ⟨h1, h2, h3, h4⟩ := h
  refine ⟨?_, ?_, ?_, ?_⟩
  · intro s hs
    obtain ⟨i, hi, hb⟩ := h4 s hs
    exact ⟨i, hi, hb, hb⟩
  · intro s t ⟨i, hi, a, b⟩
    exact ⟨i, hi, b, a⟩
  · intro s t u ⟨i, hi, a, b⟩ ⟨j, hj, c, d⟩
    cases h3 i j t hi hj b c
    exact ⟨i, hi, a, d⟩
  · intro s t ⟨i, hi, a, b⟩
    exact ⟨h2 i s hi a, h2 i t hi b⟩
theorem bb_pr_cls {m k s : Nat} {B : Nat → Nat → Prop} (h : bb_Par N m B) (hk : k < m) (hs : B k s) : bb_PR m B s = B k := by
  funext t
  refine propext ⟨?_, fun q => ⟨k, hk, hs, q⟩⟩
  intro ⟨i, hi, a, b⟩
  cases h.2.2.1 i k s hi hk a hs
  exact b
theorem bb_pr_stb {m : Nat} {B : Nat → Nat → Prop} (h : bb_Par N m B) (hT : ∀ a s t, T a s t → s < N ∧ t < N) (hF : ∀ k, k < m → bb_Fix T m B k) : bb_Stb T (bb_PR m B) := by
  refine ⟨?_, ?_⟩
  · intro s t c a ⟨k, hk, hs, ht⟩ h0 hu
    rw [bb_pr_cls h hk hs] at hu ⊢
    by_cases hc : c < N
    · obtain ⟨j, hj, hcj⟩ := h.2.2.2 c hc
      rw [bb_pr_cls h hj hcj] at hu ⊢
      refine (hF k hk).2 a j hj ?_ s t hs ht hu
      intro ha e
      subst e
      exact h0 ha ⟨j, hj, hs, hcj⟩
    · refine (hu (fun _ => False) ?_ ?_).elim
      · intro v x _ _ q
        exact hc (bb_pr_eqv h |>.2.2.2 _ _ q).1
      · intro v w _ _ q
        exact q
  · intro s t ⟨k, hk, hs, ht⟩ hd
    rw [bb_pr_cls h hk hs] at hd ⊢
    exact (hF k hk).1 s t hs ht hd
theorem bb_is_bis {m : Nat} {B : Nat → Nat → Prop} (h : bb_Par N m B) (hT : ∀ a s t, T a s t → s < N ∧ t < N) (hC : bb_Co N T m B) (hF : ∀ k, k < m → bb_Fix T m B k) (s t : Nat) : bb_PR m B s t ↔ bb_Bis N T s t := by
  refine ⟨fun q => ⟨bb_PR m B, bb_pr_eqv h, bb_pr_stb h hT hF, q⟩, ?_⟩
  intro ⟨R, hE, hS, r⟩
  obtain ⟨i, hi, hb⟩ := h.2.2.2 s (hE.2.2.2 _ _ r).1
  exact ⟨i, hi, hb, hC R hE hS i s t hi r hb⟩
def bb_cn (p : Nat → Bool) : Nat → Nat
  | 0 => 0
  | n + 1 => bb_cn p n + (if p n = true then 1 else 0)
theorem bb_cn_le (p : Nat → Bool) : ∀ n, bb_cn p n ≤ n
  | 0 => Nat.le_refl 0
  | n + 1 => by
    have := bb_cn_le p n
    show bb_cn p n + (if p n = true then 1 else 0) ≤ n + 1
    split <;> omega
theorem bb_cn_mono {p q : Nat → Bool} : ∀ n, (∀ i, i < n → p i = true → q i = true) → bb_cn p n ≤ bb_cn q n
  | 0, _ => Nat.le_refl 0
  | n + 1, h => by
    have := bb_cn_mono n (fun i hi => h i (by omega))
    have h2 := h n (by omega)
    show bb_cn p n + (if p n = true then 1 else 0) ≤ bb_cn q n + (if q n = true then 1 else 0)
    by_cases e : p n = true
    · rw [if_pos e, if_pos (h2 e)]; omega
    · rw [if_neg e]; omega
theorem bb_cn_lt {p q : Nat → Bool} : ∀ n, (∀ i, i < n → p i = true → q i = true) → (∃ i, i < n ∧ p i = false ∧ q i = true) → bb_cn p n < bb_cn q n
  | 0, _, h => by obtain ⟨i, hi, _⟩ := h; omega
  | n + 1, h, hx => by
    have hm := bb_cn_mono n (fun i hi => h i (by omega))
    have h2 := h n (by omega)
    show bb_cn p n + (if p n = true then 1 else 0) < bb_cn q n + (if q n = true then 1 else 0)
    obtain ⟨i, hi, a, b⟩ := hx
    by_cases e : i = n
    · subst e
      rw [if_pos b, a]
      simp
      omega
    · have hl := bb_cn_lt n (fun i hi => h i (by omega)) ⟨i, by omega, a, b⟩
      by_cases e : p n = true
      · rw [if_pos e, if_pos (h2 e)]; omega
      · rw [if_neg e]; omega
theorem bb_cn_all {p : Nat → Bool} : ∀ n, n ≤ bb_cn p n → ∀ i, i < n → p i = true
  | 0, _, i, hi => by omega
  | n + 1, h, i, hi => by
    have hl := bb_cn_le p n
    have h' : n + 1 ≤ bb_cn p n + (if p n = true then 1 else 0) := h
    by_cases e : p n = true
    · rw [if_pos e] at h'
      by_cases e2 : i = n
      · rw [e2]; exact e
      · exact bb_cn_all n (by omega) i (by omega)
    · rw [if_neg e] at h'; omega
theorem bb_cn_none {p : Nat → Bool} : ∀ n, bb_cn p n = 0 → ∀ i, i < n → p i = false
  | 0, _, i, hi => by omega
  | n + 1, h, i, hi => by
    have h' : bb_cn p n + (if p n = true then 1 else 0) = 0 := h
    by_cases e : p n = true
    · rw [if_pos e] at h'; omega
    · rw [if_neg e] at h'
      by_cases e2 : i = n
      · rw [e2]; exact Bool.eq_false_iff.mpr e
      · exact bb_cn_none n (by omega) i (by omega)
def bb_IU (N : Nat) (T : Nat → Nat → Nat → Prop) (F : Nat → Prop) (a : Nat) (G : Nat → Prop) (i : Nat) (p : Nat → Bool) : Prop :=
  (∀ s, p s = true → bb_Unt T F a G s) ∧ (∀ s t, F s → T a s t → G t → p s = true) ∧ ((∀ s w, F s → T 0 s w → p w = true → p s = true) ∨ i ≤ bb_cn p N)
theorem bb_IU_0 {F G : Nat → Prop} {a : Nat} {p : Nat → Bool} (h : ∀ s, p s = true ↔ F s ∧ ∃ t, T a s t ∧ G t) : bb_IU N T F a G 0 p :=
  ⟨fun s q => by
    obtain ⟨f, t, m, g⟩ := (h s).mp q
    exact bb_unt_b f m g, fun s t f m g => (h s).mpr ⟨f, t, m, g⟩, Or.inr (Nat.zero_le _)⟩
theorem bb_IU_s {F G : Nat → Prop} {a i : Nat} {p p' : Nat → Bool} (hT : ∀ a s t, T a s t → s < N ∧ t < N) (h : bb_IU N T F a G i p) (e : ∀ s, p' s = true ↔ p s = true ∨ (F s ∧ ∃ w, T 0 s w ∧ p w = true)) : bb_IU N T F a G (i + 1) p' := by
  obtain ⟨h1, h2, h3⟩ := h
  refine ⟨?_, fun s t f m g => (e s).mpr (Or.inl (h2 s t f m g)), ?_⟩
  · intro s q
    rcases (e s).mp q with q | ⟨f, w, m, q⟩
    · exact h1 s q
    · exact bb_unt_s f m (h1 w q)
  · by_cases c : ∀ s w, F s → T 0 s w → p w = true → p s = true
    · refine Or.inl fun s w f m q => (e s).mpr (Or.inl ?_)
      rcases (e w).mp q with q | ⟨f', w', m', q⟩
      · exact c s w f m q
      · exact c s w f m (c w w' f' m' q)
    · have h4 := h3.resolve_left c
      refine Or.inr (Nat.lt_of_le_of_lt h4 (bb_cn_lt N (fun s _ q => (e s).mpr (Or.inl q)) ?_))
      refine Classical.byContradiction fun hn => c fun s w f m q => ?_
      refine Classical.byContradiction fun hp => hn ⟨s, (hT _ _ _ m).1, Bool.eq_false_iff.mpr hp, (e s).mpr (Or.inr ⟨f, w, m, q⟩)⟩
theorem bb_IU_N {F G : Nat → Prop} {a : Nat} {p : Nat → Bool} (hT : ∀ a s t, T a s t → s < N ∧ t < N) (h : bb_IU N T F a G N p) (s : Nat) : p s = true ↔ bb_Unt T F a G s := by
  obtain ⟨h1, h2, h3⟩ := h
  refine ⟨h1 s, fun q => ?_⟩
  rcases h3 with c | c
  · exact q (fun s => p s = true) h2 c
  · exact q (fun s => p s = true) h2 fun v w _ m _ => bb_cn_all N c v (hT _ _ _ m).1
def bb_ID (N : Nat) (T : Nat → Nat → Nat → Prop) (F : Nat → Prop) (i : Nat) (p : Nat → Bool) : Prop :=
  (∀ s, p s = true → F s ∧ s < N) ∧ (∀ s, bb_Div T F s → p s = true) ∧ ((∀ s, p s = true → ∃ w, T 0 s w ∧ p w = true) ∨ bb_cn p N + i ≤ N)
theorem bb_ID_0 {F : Nat → Prop} {p : Nat → Bool} (h : ∀ s, p s = true ↔ F s) (hN : ∀ s, F s → s < N) : bb_ID N T F 0 p :=
  ⟨fun s q => ⟨(h s).mp q, hN s ((h s).mp q)⟩, fun s d => (h s).mpr (bb_div_F d), Or.inr (bb_cn_le p N)⟩
theorem bb_ID_s {F : Nat → Prop} {i : Nat} {p p' : Nat → Bool} (h : bb_ID N T F i p) (e : ∀ s, p' s = true ↔ p s = true ∧ ∃ w, T 0 s w ∧ p w = true) : bb_ID N T F (i + 1) p' := by
  obtain ⟨h1, h2, h3⟩ := h
  refine ⟨fun s q => h1 s ((e s).mp q).1, ?_, ?_⟩
  · intro s d
    obtain ⟨w, m, d'⟩ := bb_div_s d
    exact (e s).mpr ⟨h2 s d, w, m, h2 w d'⟩
  · by_cases c : ∀ s, p s = true → ∃ w, T 0 s w ∧ p w = true
    · refine Or.inl fun s q => ?_
      obtain ⟨w, m, q'⟩ := c s ((e s).mp q).1
      exact ⟨w, m, (e w).mpr ⟨q', c w q'⟩⟩
    · have h4 := h3.resolve_left c
      refine Or.inr ?_
      have : bb_cn p' N < bb_cn p N := by
        refine bb_cn_lt N (fun s _ q => ((e s).mp q).1) ?_
        refine Classical.byContradiction fun hn => c fun s q => ?_
        refine Classical.byContradiction fun hw => hn ⟨s, (h1 s q).2, Bool.eq_false_iff.mpr fun q' => hw ((e s).mp q').2, q⟩
      omega
theorem bb_ID_N {F : Nat → Prop} {p : Nat → Bool} (h : bb_ID N T F N p) (s : Nat) : p s = true ↔ bb_Div T F s := by
  obtain ⟨h1, h2, h3⟩ := h
  refine ⟨fun q => ?_, h2 s⟩
  rcases h3 with c | c
  · exact ⟨fun s => p s = true, q, fun v r => ⟨(h1 v r).1, c v r⟩⟩
  · have := bb_cn_none (p := p) N (by omega) s (h1 s q).2
    rw [this] at q
    exact absurd q (by decide)
end
end
section
theorem pk_us {f : Nat → Int32} {k : Nat} {x : Int32} : upd f k x k = x := if_pos rfl
theorem pk_un {f : Nat → Int32} {k j : Nat} {x : Int32} (h : j ≠ k) : upd f k x j = f j := if_neg h
theorem pk_sub {a b : Nat} (h : b ≤ a) : nI a - nI b = nI (a - b) := by
  obtain ⟨c, rfl⟩ : ∃ c, a = c + b := ⟨a - b, by omega⟩
  rw [← nI_add, Int32.add_sub_cancel, Nat.add_sub_cancel]
theorem pk_m1 (n : Nat) : nI (n + 1) + (-1) = nI n := by
  rw [← nI_1, Int32.add_assoc, show (1 : Int32) + (-1) = 0 from rfl, Int32.add_zero]
theorem pk_mul (a b : Nat) : nI a * nI b = nI (a * b) := (Int32.ofNat_mul a b).symm
theorem pk_ix (x : Int32) {n : Nat} (hn : n < 2 ^ 31) : x < 0 ∨ nI n ≤ x ∨ ∃ j : Nat, j < n ∧ x = nI j := by
  by_cases h : x < 0
  · exact Or.inl h
  · obtain ⟨j, hj, rfl⟩ := nI_of h
    by_cases h2 : j < n
    · exact Or.inr (Or.inr ⟨j, h2, rfl⟩)
    · exact Or.inr (Or.inl (nI_le (by omega) hj))
theorem pk_le {x y : Int32} {A B : Prop} (a b : Nat) (f : a ≤ b → A) (g : b < a → B) (hx : x = nI a := by rfl) (hy : y = nI b := by rfl) (ha : a < 2 ^ 31 := by omega) (hb : b < 2 ^ 31 := by omega) : (x ≤ y → A) ∧ (¬ x ≤ y → B) := by
  subst hx hy
  rw [nI_leI ha hb]
  exact ⟨f, fun z => g (by omega)⟩
theorem pk_lt {x y : Int32} {A B : Prop} (a b : Nat) (f : a < b → A) (g : b ≤ a → B) (hx : x = nI a := by rfl) (hy : y = nI b := by rfl) (ha : a < 2 ^ 31 := by omega) (hb : b < 2 ^ 31 := by omega) : (x < y → A) ∧ (¬ x < y → B) := by
  subst hx hy
  rw [nI_ltI ha hb]
  exact ⟨f, fun z => g (by omega)⟩
theorem pk_eq {x y : Int32} {A B : Prop} (a b : Nat) (f : a = b → A) (g : a ≠ b → B) (hx : x = nI a := by rfl) (hy : y = nI b := by rfl) (ha : a < 2 ^ 31 := by omega) (hb : b < 2 ^ 31 := by omega) : (x = y → A) ∧ (¬ x = y → B) := by
  subst hx hy
  rw [nI_eq ha hb]
  exact ⟨f, g⟩
theorem pk_in {x : Int32} (n N : Nat) (h : n < N) (hx : x = nI n := by rfl) (hN : N < 2 ^ 31 := by omega) : vp_in x N := by
  subst hx
  exact vp_in_nI h hN
theorem pk_cl {x : Int32} (n : Nat) (hx : x = nI n := by rfl) (h : n < 2 ^ 31 := by omega) : x.toNatClampNeg = n := by
  subst hx
  exact nI_clamp h
theorem pk_tn {n : Nat} (h : n < 2 ^ 32) : (nI n).toBitVec.toNat = n := Nat.mod_eq_of_lt h
theorem pk_loop {σ : Type} (W : Nat → Nat → σ → Prop) (I : Nat → σ → Prop) (e i0 : Nat) (s : σ) (hi : i0 ≤ e) (h0 : I i0 s) (hx : ∀ n s, I e s → W (n + 1) e s)
    (hs : ∀ n i s, i < e → I i s → (∀ s', I (i + 1) s' → W n (i + 1) s') → W (n + 1) i s) : ∃ n, W n i0 s :=
  ⟨e + 1, loop_i W I e hx hs (e + 1) i0 s hi (by omega) h0⟩
theorem pk_loopD {σ : Type} (W : Nat → Nat → σ → Prop) (I : Nat → σ → Prop) (hx : ∀ n s, I 0 s → W (n + 1) 0 s)
    (hs : ∀ n i s, I (i + 1) s → (∀ s', I i s' → W n i s') → W (n + 1) (i + 1) s) : ∀ (e : Nat) (s : σ), I e s → W (e + 1) e s := by
  intro e
  induction e with
  | zero => exact fun s h => hx 0 s h
  | succ e ih => exact fun s h => hs (e + 1) e s h (fun s' h' => ih s' h')
theorem pk_least (P : Nat → Prop) (h : ∃ k, P k) : ∃ k, P k ∧ ∀ j, j < k → ¬ P j := by
  obtain ⟨k, hk⟩ := h
  induction k using Nat.strongRecOn with
  | ind k ih =>
    by_cases e : ∃ j, j < k ∧ P j
    · obtain ⟨j, hj, pj⟩ := e
      exact ih j hj pj
    · exact ⟨k, hk, fun j hj pj => e ⟨j, hj, pj⟩⟩
theorem ek_if {c d A B : Prop} (e : c ↔ d) (f : d → A) (g : ¬ d → B) : (c → A) ∧ (¬ c → B) :=
  ⟨fun z => f (e.mp z), fun z => g (fun y => z (e.mpr y))⟩
theorem ek_v {α : Sort _} {P : α → Prop} {a b : α} (e : a = b) (h : P b) : P a := e ▸ h
def bt (x : Int32) (i : Nat) : Bool := x.toBitVec.getLsbD i
theorem b_ext {x y : Int32} (h : ∀ i, i < 32 → bt x i = bt y i) : x = y := Int32.toBitVec_inj.mp (BitVec.eq_of_getLsbD_eq (fun i hi => h i hi))
theorem b_or (x y : Int32) (i : Nat) : bt (x ||| y) i = (bt x i || bt y i) := by unfold bt; rw [Int32.toBitVec_or, BitVec.getLsbD_or]
theorem b_and (x y : Int32) (i : Nat) : bt (x &&& y) i = (bt x i && bt y i) := by unfold bt; rw [Int32.toBitVec_and, BitVec.getLsbD_and]
theorem b_xor (x y : Int32) (i : Nat) : bt (x ^^^ y) i = (bt x i ^^ bt y i) := by unfold bt; rw [Int32.toBitVec_xor, BitVec.getLsbD_xor]
theorem b_big {x : Int32} {i : Nat} (h : 32 ≤ i) : bt x i = false := BitVec.getLsbD_of_ge _ _ h
theorem b_m1 : ∀ i, i < 32 → bt (-1) i = true := by decide +kernel
theorem b_0 (i : Nat) : bt 0 i = false := BitVec.getLsbD_zero
theorem s_l : ∀ n, n < 32 → ((nI n &&& 31).toBitVec.smod 32).toNat = n := by decide +kernel
theorem b_shl (n : Nat) (hn : n < 32) (x : Int32) {i : Nat} (hi : i < 32) : bt (x <<< (nI n &&& 31)) i = (decide (n ≤ i) && bt x (i - n)) := by
  unfold bt
  rw [Int32.toBitVec_shiftLeft]
  show (x.toBitVec <<< ((nI n &&& 31).toBitVec.smod 32).toNat).getLsbD i = _
  rw [s_l n hn, BitVec.getLsbD_shiftLeft]
  rcases Nat.lt_or_ge i n with h | h
  · simp [h, Nat.not_le.mpr h]
  · simp [hi, h, Nat.not_lt.mpr h]
theorem b_sshr (n : Nat) (hn : n < 32) (x : Int32) {i : Nat} (hi : i < 32) : bt (x >>> (nI n &&& 31)) i = if n + i < 32 then bt x (n + i) else bt x 31 := by
  unfold bt
  rw [Int32.toBitVec_shiftRight]
  show (x.toBitVec.sshiftRight ((nI n &&& 31).toBitVec.smod 32).toNat).getLsbD i = _
  rw [s_l n hn, BitVec.getLsbD_sshiftRight, BitVec.msb_eq_getLsbD_last]
  simp [hi]
theorem bb_nz (x : Int32) : (¬ x = 0) ↔ ∃ i, bt x i = true := by
  constructor
  · intro h
    refine Classical.byContradiction fun hn => h (b_ext fun i _ => ?_)
    rw [b_0]
    exact Bool.eq_false_iff.mpr fun q => hn ⟨i, q⟩
  · intro ⟨i, q⟩ e
    rw [e, b_0] at q
    exact absurd q (by decide)
theorem bb_z (x : Int32) : x = 0 ↔ ∀ i, ¬ bt x i = true := by
  constructor
  · intro e i q
    rw [e, b_0] at q
    exact absurd q (by decide)
  · intro h
    refine b_ext fun i _ => ?_
    rw [b_0]
    exact Bool.eq_false_iff.mpr (h i)
theorem bb_l32 {x : Int32} {i : Nat} (h : bt x i = true) : i < 32 := by
  refine Classical.byContradiction fun hn => ?_
  rw [b_big (by omega)] at h
  exact absurd h (by decide)
theorem bb_1 (i : Nat) : bt 1 i = decide (i = 0) := by
  rcases Nat.lt_or_ge i 32 with h | h
  · exact (by decide +kernel : ∀ i, i < 32 → bt 1 i = decide (i = 0)) i h
  · rw [b_big h, decide_eq_false (by omega)]
theorem bb_con (x : Int32) {s : Nat} (hs : s < 32) : ((x >>> (nI s &&& 31)) &&& 1) = 0 ↔ ¬ bt x s = true := by
  have e0 : bt ((x >>> (nI s &&& 31)) &&& 1) 0 = bt x s := by
    rw [b_and, b_sshr s hs x (by decide), bb_1, if_pos (by omega)]
    simp
  constructor
  · intro h q
    rw [h, b_0, q] at e0
    exact absurd e0 (by decide)
  · intro h
    refine b_ext fun i _ => ?_
    rw [b_0]
    by_cases hi : i = 0
    · rw [hi, e0]
      exact Bool.eq_false_iff.mpr h
    · rw [b_and, bb_1, decide_eq_false hi, Bool.and_false]
theorem bb_shl {s : Nat} (hs : s < 32) (i : Nat) : bt ((1 : Int32) <<< (nI s &&& 31)) i = decide (i = s) := by
  rcases Nat.lt_or_ge i 32 with h | h
  · rw [b_shl s hs _ h, bb_1]
    by_cases e : i = s
    · subst e
      simp
    · rw [decide_eq_false e]
      by_cases e2 : s ≤ i
      · rw [decide_eq_false (by omega : ¬ i - s = 0), Bool.and_false]
      · rw [decide_eq_false e2, Bool.false_and]
  · rw [b_big h, decide_eq_false (by omega)]
theorem bb_not (x : Int32) {i : Nat} (hi : i < 32) : bt (x ^^^ (-1)) i = !bt x i := by
  rw [b_xor, b_m1 i hi]
  simp
theorem bb_all : ∀ n, n < 13 → ∀ i, i < 32 → bt (((1 : Int32) <<< (nI n &&& 31)) - 1) i = decide (i < n) := by decide +kernel
theorem bb_allS {n : Nat} (hn : n < 13) (i : Nat) : bt (((1 : Int32) <<< (nI n &&& 31)) - 1) i = true ↔ i < n := by
  rcases Nat.lt_or_ge i 32 with h | h
  · rw [bb_all n hn i h, decide_eq_true_eq]
  · rw [b_big h]
    constructor
    · intro q
      exact absurd q (by decide)
    · intro q
      omega
theorem bb_ins (x : Int32) {s : Nat} (hs : s < 32) (i : Nat) : bt (x ||| ((1 : Int32) <<< (nI s &&& 31))) i = true ↔ bt x i = true ∨ i = s := by
  rw [b_or, bb_shl hs, Bool.or_eq_true, decide_eq_true_eq]
theorem bb_del (x : Int32) {s : Nat} (hs : s < 32) (i : Nat) : bt (x &&& (((1 : Int32) <<< (nI s &&& 31)) ^^^ (-1))) i = true ↔ bt x i = true ∧ i ≠ s := by
  rw [b_and, Bool.and_eq_true]
  constructor
  · intro ⟨p, q⟩
    refine ⟨p, ?_⟩
    rw [bb_not _ (bb_l32 p), bb_shl hs] at q
    intro e
    rw [decide_eq_true e] at q
    exact absurd q (by decide)
  · intro ⟨p, q⟩
    refine ⟨p, ?_⟩
    rw [bb_not _ (bb_l32 p), bb_shl hs, decide_eq_false q]
    rfl
theorem bb_andS (x y : Int32) (i : Nat) : bt (x &&& y) i = true ↔ bt x i = true ∧ bt y i = true := by rw [b_and, Bool.and_eq_true]
theorem bb_orS (x y : Int32) (i : Nat) : bt (x ||| y) i = true ↔ bt x i = true ∨ bt y i = true := by rw [b_or, Bool.or_eq_true]
theorem bb_diffS (x y : Int32) (i : Nat) : bt (x &&& (y ^^^ (-1))) i = true ↔ bt x i = true ∧ ¬ bt y i = true := by
  rw [b_and, Bool.and_eq_true]
  constructor
  · intro ⟨p, q⟩
    rw [bb_not _ (bb_l32 p)] at q
    refine ⟨p, fun e => ?_⟩
    rw [e] at q
    exact absurd q (by decide)
  · intro ⟨p, q⟩
    rw [bb_not _ (bb_l32 p), Bool.eq_false_iff.mpr q]
    exact ⟨p, rfl⟩
end
section
section
variable {T : Nat → Nat → Nat → Prop} {N : Nat}
def bb_Rch (T : Nat → Nat → Nat → Prop) (F : Nat → Prop) (u v : Nat) : Prop :=
  ∀ S : Nat → Prop, (F u → S u) → (∀ x w, S x → T 0 x w → F w → S w) → S v
theorem bb_rch_0 {F : Nat → Prop} {u : Nat} (h : F u) : bb_Rch T F u u := fun _ h1 _ => h1 h
theorem bb_rch_s {F : Nat → Prop} {u x w : Nat} (h : bb_Rch T F u x) (hT : T 0 x w) (hF : F w) : bb_Rch T F u w := fun S h1 h2 => h2 x w (h S h1 h2) hT hF
theorem bb_rch_F {F : Nat → Prop} {u v : Nat} (h : bb_Rch T F u v) : F v := h F id (fun _ _ _ _ z => z)
theorem bb_rch_u {F : Nat → Prop} {u v : Nat} (h : bb_Rch T F u v) : F u := h (fun _ => F u) id (fun _ _ z _ _ => z)
theorem bb_rch_h {F : Nat → Prop} {u w v : Nat} (hF : F u) (hT : T 0 u w) (h : bb_Rch T F w v) : bb_Rch T F u v :=
  fun S h1 h2 => h S (fun fw => h2 u w (h1 hF) hT fw) h2
theorem bb_rch_unt {F G : Nat → Prop} {a u : Nat} : bb_Unt T F a G u ↔ ∃ v t, bb_Rch T F u v ∧ T a v t ∧ G t := by
  constructor
  · intro h
    refine bb_unt_ind (fun u => ∃ v t, bb_Rch T F u v ∧ T a v t ∧ G t) h ?_ ?_
    · intro v t f m g
      exact ⟨v, t, bb_rch_0 f, m, g⟩
    · intro v w f m _ ⟨x, t, r, m', g⟩
      exact ⟨x, t, bb_rch_h f m r, m', g⟩
  · intro ⟨v, t, r, m, g⟩
    have h := r (fun x => F x ∧ (bb_Unt T F a G x → bb_Unt T F a G u)) (fun f => ⟨f, id⟩) (fun x w hx hm fw => ⟨fw, fun q => hx.2 (bb_unt_s hx.1 hm q)⟩)
    exact h.2 (bb_unt_b h.1 m g)
def bb_WC (T : Nat → Nat → Nat → Prop) (F : Nat → Prop) (p : Nat → Bool) : Prop := ∀ x w, p x = true → T 0 x w → F w → p w = true
def bb_WI (N : Nat) (T : Nat → Nat → Nat → Prop) (F : Nat → Prop) (u i : Nat) (p : Nat → Bool) : Prop :=
  (∀ v, v < N → p v = true → bb_Rch T F u v) ∧ (F u → p u = true) ∧ (bb_WC T F p ∨ i ≤ bb_cn p N)
theorem bb_WI_s {F : Nat → Prop} {u i : Nat} {p p' : Nat → Bool} (hT : ∀ a s t, T a s t → s < N ∧ t < N) (hu : u < N) (h : bb_WI N T F u i p) (h1 : ∀ v, v < N → p v = true → p' v = true)
    (h2 : ∀ v, v < N → p' v = true → bb_Rch T F u v) (h3 : ∀ x w, p x = true → T 0 x w → F w → p' w = true) (h4 : bb_WC T F p → ∀ v, v < N → p' v = true → p v = true) : bb_WI N T F u (i + 1) p' := by
  refine ⟨h2, fun f => h1 u hu (h.2.1 f), ?_⟩
  by_cases c : bb_WC T F p
  · refine Or.inl fun x w px m f => ?_
    exact h3 x w (h4 c x (hT _ _ _ m).1 px) m f
  · refine Or.inr (Nat.lt_of_le_of_lt (h.2.2.resolve_left c) (bb_cn_lt N h1 ?_))
    refine Classical.byContradiction fun hn => c fun x w px m f => ?_
    refine Classical.byContradiction fun hp => hn ⟨w, (hT _ _ _ m).2, Bool.eq_false_iff.mpr hp, h3 x w px m f⟩
theorem bb_WI_N {F : Nat → Prop} {u v : Nat} {p : Nat → Bool} (h : bb_WI N T F u N p) (hv : v < N) : p v = true ↔ bb_Rch T F u v := by
  refine ⟨h.1 v hv, fun q => ?_⟩
  rcases h.2.2 with c | c
  · exact q (fun v => p v = true) h.2.1 c
  · exact bb_cn_all N c v hv
def bb_LC (N : Nat) (T : Nat → Nat → Nat → Prop) (p : Nat → Bool) : Prop := ∀ s, s < N → p s = true → ∃ w, T 0 s w ∧ p w = true
def bb_LI (N : Nat) (T : Nat → Nat → Nat → Prop) (F : Nat → Prop) (i : Nat) (p : Nat → Bool) : Prop :=
  (∀ s, s < N → p s = true → F s) ∧ (∀ s, s < N → bb_Div T F s → p s = true) ∧ (bb_LC N T p ∨ bb_cn p N + i ≤ N)
theorem bb_LI_s {F : Nat → Prop} {i : Nat} {p p' : Nat → Bool} (hT : ∀ a s t, T a s t → s < N ∧ t < N) (h : bb_LI N T F i p) (h1 : ∀ s, s < N → p' s = true → p s = true)
    (h2 : ∀ s, s < N → bb_Div T F s → p' s = true) (h3 : ∀ s, s < N → p' s = true → ∃ w, T 0 s w ∧ p w = true) (h4 : bb_LC N T p → ∀ s, s < N → p s = true → p' s = true) : bb_LI N T F (i + 1) p' := by
  refine ⟨fun s hs q => h.1 s hs (h1 s hs q), h2, ?_⟩
  by_cases c : bb_LC N T p
  · refine Or.inl fun s hs q => ?_
    obtain ⟨w, m, pw⟩ := h3 s hs q
    exact ⟨w, m, h4 c w (hT _ _ _ m).2 pw⟩
  · have h5 := h.2.2.resolve_left c
    have : bb_cn p' N < bb_cn p N := by
      refine bb_cn_lt N h1 ?_
      refine Classical.byContradiction fun hn => c fun s hs q => ?_
      refine Classical.byContradiction fun hw => hn ⟨s, hs, Bool.eq_false_iff.mpr fun q' => hw (h3 s hs q'), q⟩
    exact Or.inr (by omega)
theorem bb_LI_N {F : Nat → Prop} {s : Nat} {p : Nat → Bool} (hT : ∀ a s t, T a s t → s < N ∧ t < N) (h : bb_LI N T F N p) (hs : s < N) : p s = true ↔ bb_Div T F s := by
  refine ⟨fun q => ?_, h.2.1 s hs⟩
  rcases h.2.2 with c | c
  · refine ⟨fun s => s < N ∧ p s = true, ⟨hs, q⟩, fun v r => ⟨h.1 v r.1 r.2, ?_⟩⟩
    obtain ⟨w, m, pw⟩ := c v r.1 r.2
    exact ⟨w, m, (hT _ _ _ m).2, pw⟩
  · have := bb_cn_none (p := p) N (by omega) s hs
    rw [this] at q
    exact absurd q (by decide)
def bb_K (N : Nat) (c : Nat → Nat) (k : Nat) : Nat → Prop := fun v => v < N ∧ c v = k
def bb_Al (N : Nat) (T : Nat → Nat → Nat → Prop) (c : Nat → Nat) (s t : Nat) : Prop :=
  c s = c t ∧ (bb_Div T (bb_K N c (c s)) s ↔ bb_Div T (bb_K N c (c t)) t) ∧
  ∀ a k, (a = 0 → k ≠ c s) → (bb_Unt T (bb_K N c (c s)) a (bb_K N c k) s ↔ bb_Unt T (bb_K N c (c t)) a (bb_K N c k) t)
theorem bb_al_r (c : Nat → Nat) (s : Nat) : bb_Al N T c s s := ⟨rfl, Iff.rfl, fun _ _ _ => Iff.rfl⟩
theorem bb_al_s {c : Nat → Nat} {s t : Nat} (h : bb_Al N T c s t) : bb_Al N T c t s :=
  ⟨h.1.symm, h.2.1.symm, fun a k hk => (h.2.2 a k (by rw [h.1]; exact hk)).symm⟩
theorem bb_al_t {c : Nat → Nat} {s t u : Nat} (h : bb_Al N T c s t) (h' : bb_Al N T c t u) : bb_Al N T c s u :=
  ⟨h.1.trans h'.1, h.2.1.trans h'.2.1, fun a k hk => (h.2.2 a k hk).trans (h'.2.2 a k (by rw [← h.1]; exact hk))⟩
theorem bb_K_cg {c c' : Nat → Nat} (h : ∀ v, v < N → c' v = c v) (k : Nat) : bb_K N c' k = bb_K N c k := by
  funext v
  refine propext ⟨fun q => ⟨q.1, ?_⟩, fun q => ⟨q.1, ?_⟩⟩
  · rw [← h v q.1]; exact q.2
  · rw [h v q.1]; exact q.2
theorem bb_al_cg {c c' : Nat → Nat} {s t : Nat} (h : ∀ v, v < N → c' v = c v) (hs : s < N) (ht : t < N) (q : bb_Al N T c s t) : bb_Al N T c' s t := by
  obtain ⟨q1, q2, q3⟩ := q
  unfold bb_Al
  rw [h s hs, h t ht]
  refine ⟨q1, ?_, ?_⟩
  · rw [bb_K_cg h, bb_K_cg h]; exact q2
  · intro a k hk
    rw [bb_K_cg h, bb_K_cg h, bb_K_cg h]
    exact q3 a k hk
def bb_Nx (N : Nat) (T : Nat → Nat → Nat → Prop) (c c' : Nat → Nat) : Prop :=
  ∀ s, s < N → c' s ≤ s ∧ bb_Al N T c s (c' s) ∧ ∀ t, t < c' s → ¬ bb_Al N T c s t
theorem bb_nx_eq {c c' : Nat → Nat} {s t : Nat} (h : bb_Nx N T c c') (hs : s < N) (ht : t < N) : c' s = c' t ↔ bb_Al N T c s t := by
  obtain ⟨_, a1, a2⟩ := h s hs
  obtain ⟨_, b1, b2⟩ := h t ht
  constructor
  · intro e
    rw [e] at a1
    exact bb_al_t a1 (bb_al_s b1)
  · intro q
    rcases Nat.lt_trichotomy (c' s) (c' t) with l | l | l
    · exact absurd (bb_al_t (bb_al_s q) a1) (b2 _ l)
    · exact l
    · exact absurd (bb_al_t q b1) (a2 _ l)
theorem bb_nx_id {c c' : Nat → Nat} {s : Nat} (h : bb_Nx N T c c') (hs : s < N) : c' (c' s) = c' s := by
  have h1 := h s hs
  exact (bb_nx_eq h (by omega) hs).mpr (bb_al_s h1.2.1)
def bb_RI (N : Nat) (T : Nat → Nat → Nat → Prop) (r : Nat) (c : Nat → Nat) : Prop :=
  (∀ s, s < N → c s ≤ s ∧ c (c s) = c s) ∧ (∀ R, bb_Eqv N R → bb_Stb T R → ∀ s t, R s t → c s = c t) ∧
  ((∀ s t, s < N → t < N → c s = c t → bb_Al N T c s t) ∨ r + 1 ≤ bb_cn (fun s => decide (c s = s)) N)
theorem bb_cn_pos {p : Nat → Bool} : ∀ n i, i < n → p i = true → 1 ≤ bb_cn p n
  | 0, i, hi, _ => by omega
  | n + 1, i, hi, h => by
    show 1 ≤ bb_cn p n + (if p n = true then 1 else 0)
    by_cases e : i = n
    · subst e
      rw [if_pos h]; omega
    · have := bb_cn_pos n i (by omega) h
      omega
theorem bb_RI_0 (hN : 0 < N) {c : Nat → Nat} (h : ∀ s, s < N → c s = 0) : bb_RI N T 0 c := by
  refine ⟨fun s hs => ?_, fun R hE _ s t r => ?_, Or.inr ?_⟩
  · rw [h s hs]
    exact ⟨Nat.zero_le _, h 0 hN⟩
  · rw [h s (hE.2.2.2 _ _ r).1, h t (hE.2.2.2 _ _ r).2]
  · exact bb_cn_pos N 0 hN (decide_eq_true (h 0 hN))
theorem bb_co_al {c : Nat → Nat} (hT : ∀ a s t, T a s t → s < N ∧ t < N) (h : ∀ R, bb_Eqv N R → bb_Stb T R → ∀ s t, R s t → c s = c t)
    {R : Nat → Nat → Prop} (hE : bb_Eqv N R) (hS : bb_Stb T R) {s t : Nat} (hR : R s t) : bb_Al N T c s t := by
  have hK : ∀ k x y, R x y → bb_K N c k x → bb_K N c k y := fun k x y r q => ⟨(hE.2.2.2 _ _ r).2, by rw [← h R hE hS x y r]; exact q.2⟩
  have e := h R hE hS s t hR
  have hR' := hE.2.1 _ _ hR
  refine ⟨e, ?_, ?_⟩
  · rw [← e]
    exact ⟨fun d => bb_cutD hT hE hS (hK _) d hR, fun d => bb_cutD hT hE hS (hK _) d hR'⟩
  · intro a k hk
    rw [← e]
    have h0 : a = 0 → ∀ x, bb_K N c (c s) x → bb_K N c k x → False := fun ha x p q => hk ha (q.2.symm.trans p.2)
    exact ⟨fun d => bb_cutU hT hE hS (hK _) (hK _) h0 d t hR, fun d => bb_cutU hT hE hS (hK _) (hK _) h0 d s hR'⟩
theorem bb_RI_s {c c' : Nat → Nat} {r : Nat} (hT : ∀ a s t, T a s t → s < N ∧ t < N) (h : bb_RI N T r c) (hn : bb_Nx N T c c') : bb_RI N T (r + 1) c' := by
  obtain ⟨h1, h2, h3⟩ := h
  refine ⟨fun s hs => ⟨(hn s hs).1, bb_nx_id hn hs⟩, fun R hE hS s t q => ?_, ?_⟩
  · exact (bb_nx_eq hn (hE.2.2.2 _ _ q).1 (hE.2.2.2 _ _ q).2).mpr (bb_co_al hT h2 hE hS q)
  · have low : ∀ s, s < N → c s ≤ c' s := by
      intro s hs
      have a := hn s hs
      have b := (h1 (c' s) (by omega)).1
      have e := a.2.1.1
      omega
    by_cases st : ∀ s t, s < N → t < N → c s = c t → bb_Al N T c s t
    · have eq : ∀ s, s < N → c' s = c s := by
        intro s hs
        have a := hn s hs
        have b := h1 s hs
        have l := low s hs
        have : ¬ c s < c' s := fun z => a.2.2 _ z (st s (c s) hs (by omega) b.2.symm)
        omega
      refine Or.inl fun s t hs ht e => bb_al_cg eq hs ht (st s t hs ht ?_)
      rw [← eq s hs, ← eq t ht]; exact e
    · have h4 := h3.resolve_left st
      refine Or.inr (Nat.lt_of_le_of_lt h4 (bb_cn_lt N ?_ ?_))
      · intro s hs q
        have q1 : c s = s := of_decide_eq_true q
        have a := (hn s hs).1
        have l := low s hs
        exact decide_eq_true (by omega)
      · refine Classical.byContradiction fun hc => st fun s t hs ht e => ?_
        have key : ∀ s, s < N → c' s = c s := by
          intro s hs
          have a := hn s hs
          refine Classical.byContradiction fun ne => hc ⟨c' s, by omega, decide_eq_false ?_, decide_eq_true (bb_nx_id hn hs)⟩
          intro z
          have e := a.2.1.1
          omega
        exact (bb_nx_eq hn hs ht).mp (by rw [key s hs, key t ht]; exact e)
theorem bb_RI_N {c : Nat → Nat} (hT : ∀ a s t, T a s t → s < N ∧ t < N) (h : bb_RI N T N c) (s t : Nat) : (s < N ∧ t < N ∧ c s = c t) ↔ bb_Bis N T s t := by
  obtain ⟨h1, h2, h3⟩ := h
  have st : ∀ s t, s < N → t < N → c s = c t → bb_Al N T c s t := by
    rcases h3 with q | q
    · exact q
    · have := bb_cn_le (fun s => decide (c s = s)) N
      omega
  constructor
  · intro hst
    have cls : ∀ s, s < N → (fun t => s < N ∧ t < N ∧ c s = c t) = bb_K N c (c s) := by
      intro s hs
      funext t
      exact propext ⟨fun q => ⟨q.2.1, q.2.2.symm⟩, fun q => ⟨hs, q.1, q.2.symm⟩⟩
    refine ⟨fun s t => s < N ∧ t < N ∧ c s = c t, ⟨?_, ?_, ?_, ?_⟩, ⟨?_, ?_⟩, hst⟩
    · intro s hs
      exact ⟨hs, hs, rfl⟩
    · intro s t q
      exact ⟨q.2.1, q.1, q.2.2.symm⟩
    · intro s t u q q'
      exact ⟨q.1, q'.2.1, q.2.2.trans q'.2.2⟩
    · intro s t q
      exact ⟨q.1, q.2.1⟩
    · intro s t k a q h0 hu
      have al := st s t q.1 q.2.1 q.2.2
      by_cases hk : k < N
      · have e1 := cls s q.1
        have e2 := cls k hk
        dsimp only at hu ⊢
        rw [e1, e2] at hu ⊢
        have := (al.2.2 a (c k) (fun ha e => h0 ha ⟨q.1, hk, e.symm⟩)).mp hu
        rw [← q.2.2] at this
        exact this
      · refine (hu (fun _ => False) ?_ ?_).elim
        · intro v x _ _ z
          exact hk z.1
        · intro v w _ _ z
          exact z
    · intro s t q hd
      have al := st s t q.1 q.2.1 q.2.2
      have e1 := cls s q.1
      dsimp only at hd ⊢
      rw [e1] at hd ⊢
      have := al.2.1.mp hd
      rw [← q.2.2] at this
      exact this
  · intro ⟨R, hE, hS, r⟩
    exact ⟨(hE.2.2.2 _ _ r).1, (hE.2.2.2 _ _ r).2, h2 R hE hS s t r⟩
theorem bb_ldx (N : Nat) (T : Nat → Nat → Nat → Prop) : ∃ c : Nat → Nat, ∀ s t, bb_Bis N T s t → bb_Bis N T s (c s) ∧ c s ≤ t := by
  have h : ∀ s, ∃ k, ∀ t, bb_Bis N T s t → bb_Bis N T s k ∧ k ≤ t := by
    intro s
    by_cases e : ∃ t, bb_Bis N T s t
    · obtain ⟨k, hk, hl⟩ := pk_least _ e
      exact ⟨k, fun t q => ⟨hk, Nat.le_of_not_lt fun z => hl t z q⟩⟩
    · exact ⟨0, fun t q => absurd ⟨t, q⟩ e⟩
  exact ⟨fun s => Classical.choose (h s), fun s => Classical.choose_spec (h s)⟩
def bb_Ld (N : Nat) (T : Nat → Nat → Nat → Prop) (c : Nat → Nat) : Prop := ∀ s t, bb_Bis N T s t → bb_Bis N T s (c s) ∧ c s ≤ t
def bb_Sp (N : Nat) (T : Nat → Nat → Nat → Prop) (c : Nat → Nat) : Prop :=
  (∀ s, s < N → c s ≤ s ∧ c (c s) = c s) ∧ ∀ s t, (s < N ∧ t < N ∧ c s = c t) ↔ bb_Bis N T s t
theorem bb_sp_ld {c l : Nat → Nat} (h : bb_Sp N T c) (hl : bb_Ld N T l) {s : Nat} (hs : s < N) : c s = l s := by
  have h1 := h.1 s hs
  have b := hl s (c s) ((h.2 s (c s)).mp ⟨hs, by omega, h1.2.symm⟩)
  have d := (h.2 s (l s)).mpr b.1
  have e := (h.1 (l s) d.2.1).1
  have := d.2.2
  omega
theorem bb_ld_sp {l : Nat → Nat} (hl : bb_Ld N T l) (hr : ∀ s, s < N → bb_Bis N T s s) (hs : ∀ s t, bb_Bis N T s t → bb_Bis N T t s) (ht : ∀ s t u, bb_Bis N T s t → bb_Bis N T t u → bb_Bis N T s u) : bb_Sp N T l := by
  have bd : ∀ s t, bb_Bis N T s t → s < N ∧ t < N := by
    intro s t ⟨R, hE, _, r⟩
    exact hE.2.2.2 _ _ r
  have same : ∀ s t, bb_Bis N T s t → l s = l t := by
    intro s t q
    have a := hl s t q
    have b := hl t s (hs _ _ q)
    have x := (hl s (l t) (ht _ _ _ q b.1)).2
    have y := (hl t (l s) (ht _ _ _ (hs _ _ q) a.1)).2
    omega
  refine ⟨fun s h => ?_, fun s t => ⟨?_, fun q => ⟨(bd _ _ q).1, (bd _ _ q).2, same s t q⟩⟩⟩
  · have a := hl s s (hr s h)
    exact ⟨a.2, (same _ _ a.1).symm⟩
  · intro ⟨h1, h2, e⟩
    have a := (hl s s (hr s h1)).1
    have b := (hl t t (hr t h2)).1
    rw [e] at a
    exact ht _ _ _ a (hs _ _ b)
def bb_ldr (c : Nat → Nat) : Nat → Bool := fun s => decide (c s = s)
def bb_nb (c : Nat → Nat) (s : Nat) : Nat := bb_cn (bb_ldr c) (c s)
theorem bb_cn_m {p : Nat → Bool} : ∀ n m, m ≤ n → bb_cn p m ≤ bb_cn p n
  | 0, m, h => by
    cases Nat.le_zero.mp h
    exact Nat.le_refl _
  | n + 1, m, h => by
    by_cases e : m = n + 1
    · rw [e]; exact Nat.le_refl _
    · have := bb_cn_m (p := p) n m (by omega)
      exact Nat.le_trans this (Nat.le_add_right _ _)
theorem bb_cn_t {p : Nat → Bool} {u : Nat} (h : p u = true) : bb_cn p (u + 1) = bb_cn p u + 1 := by
  show bb_cn p u + (if p u = true then 1 else 0) = _
  rw [if_pos h]
theorem bb_cn_f {p : Nat → Bool} {u : Nat} (h : ¬ p u = true) : bb_cn p (u + 1) = bb_cn p u := by
  show bb_cn p u + (if p u = true then 1 else 0) = _
  rw [if_neg h]; omega
theorem bb_cn_u {p : Nat → Bool} {u n : Nat} (h : p u = true) (hu : u < n) : bb_cn p u < bb_cn p n := by
  have a := bb_cn_m (p := p) n (u + 1) hu
  rw [bb_cn_t h] at a
  omega
theorem bb_cn_inj {p : Nat → Bool} {u v : Nat} (h : p u = true) (h' : p v = true) (e : bb_cn p u = bb_cn p v) : u = v := by
  rcases Nat.lt_trichotomy u v with l | l | l
  · have := bb_cn_u h l
    omega
  · exact l
  · have := bb_cn_u h' l
    omega
theorem bb_cn_ex {p : Nat → Bool} : ∀ n i, i < bb_cn p n → ∃ u, u < n ∧ p u = true ∧ bb_cn p u = i
  | 0, i, h => by
    have : i < 0 := h
    omega
  | n + 1, i, h => by
    by_cases e : p n = true
    · rw [bb_cn_t e] at h
      by_cases e2 : i = bb_cn p n
      · exact ⟨n, by omega, e, e2.symm⟩
      · obtain ⟨u, a, b, d⟩ := bb_cn_ex (p := p) n i (by omega)
        exact ⟨u, by omega, b, d⟩
    · rw [bb_cn_f e] at h
      obtain ⟨u, a, b, d⟩ := bb_cn_ex (p := p) n i h
      exact ⟨u, by omega, b, d⟩
theorem bb_nb_lt {c : Nat → Nat} (h : ∀ s, s < N → c s ≤ s ∧ c (c s) = c s) {s : Nat} (hs : s < N) : bb_nb c s < bb_cn (bb_ldr c) N := by
  have a := h s hs
  exact bb_cn_u (decide_eq_true a.2) (by omega)
theorem bb_nb_eq {c : Nat → Nat} (h : ∀ s, s < N → c s ≤ s ∧ c (c s) = c s) {s t : Nat} (hs : s < N) (ht : t < N) : bb_nb c s = bb_nb c t ↔ c s = c t := by
  constructor
  · intro e
    exact bb_cn_inj (decide_eq_true (h s hs).2) (decide_eq_true (h t ht).2) e
  · intro e
    show bb_cn _ (c s) = bb_cn _ (c t)
    rw [e]
def bb_BS (g : Nat → Int32) (i s : Nat) : Prop := bt (g i) s = true
theorem bb_par_pm {m : Nat} {B : Nat → Nat → Prop} {π : Nat → Nat} (h : bb_Par N m B) (h1 : ∀ i, i < m → π i < m) (h2 : ∀ i, π (π i) = i) : bb_Par N m (fun i => B (π i)) := by
  refine ⟨fun i hi => h.1 _ (h1 i hi), fun i s hi => h.2.1 _ s (h1 i hi), ?_, ?_⟩
  · intro i j s hi hj a b
    have e := h.2.2.1 _ _ s (h1 i hi) (h1 j hj) a b
    rw [← h2 i, e, h2 j]
  · intro s hs
    obtain ⟨i, hi, q⟩ := h.2.2.2 s hs
    refine ⟨π i, h1 i hi, ?_⟩
    dsimp only
    rw [h2 i]; exact q
theorem bb_pr_pm {m : Nat} {B : Nat → Nat → Prop} {π : Nat → Nat} (h1 : ∀ i, i < m → π i < m) (h2 : ∀ i, π (π i) = i) (s t : Nat) : bb_PR m (fun i => B (π i)) s t ↔ bb_PR m B s t := by
  constructor
  · intro ⟨i, hi, a, b⟩
    exact ⟨π i, h1 i hi, a, b⟩
  · intro ⟨i, hi, a, b⟩
    refine ⟨π i, h1 i hi, ?_, ?_⟩
    · dsimp only
      rw [h2 i]; exact a
    · dsimp only
      rw [h2 i]; exact b
def bb_OI (N : Nat) (c : Nat → Nat) (m : Nat) (g : Nat → Int32) (s o : Nat) : Prop :=
  bb_Par N m (bb_BS g) ∧ (∀ x y, bb_PR m (bb_BS g) x y ↔ (x < N ∧ y < N ∧ c x = c y)) ∧ o = bb_cn (bb_ldr c) s ∧ o ≤ m ∧
  (∀ i, i < o → ∃ t, t < s ∧ bb_BS g i t) ∧ ∀ t i, t < s → i < m → bb_BS g i t → i = bb_nb c t
theorem bb_OI_0 {c : Nat → Nat} {m : Nat} {g : Nat → Int32} (h : bb_Par N m (bb_BS g)) (h2 : ∀ x y, bb_PR m (bb_BS g) x y ↔ (x < N ∧ y < N ∧ c x = c y)) : bb_OI N c m g 0 0 :=
  ⟨h, h2, rfl, Nat.zero_le _, fun i hi => absurd hi (Nat.not_lt_zero _), fun t i ht => absurd ht (Nat.not_lt_zero _)⟩
theorem bb_OI_a {c : Nat → Nat} {m s o k : Nat} {g : Nat → Int32} (hc : ∀ s, s < N → c s ≤ s ∧ c (c s) = c s) (h : bb_OI N c m g s o) (hs : s < N) (hk : k < m) (hb : bb_BS g k s) (ho : k < o) : bb_OI N c m g (s + 1) o := by
  obtain ⟨p, r, e, l, q1, q2⟩ := h
  obtain ⟨t, ht, bt'⟩ := q1 k ho
  have rel := (r t s).mp ⟨k, hk, bt', hb⟩
  have kn : k = bb_nb c s := by
    rw [q2 t k ht hk bt']
    exact (bb_nb_eq hc rel.1 hs).mpr rel.2.2
  refine ⟨p, r, ?_, l, ?_, ?_⟩
  · have nl : ¬ bb_ldr c s = true := by
      intro z
      have z1 : c s = s := of_decide_eq_true z
      have := (hc t rel.1).1
      have := rel.2.2
      omega
    rw [bb_cn_f nl]; exact e
  · intro i hi
    obtain ⟨t, ht, q⟩ := q1 i hi
    exact ⟨t, by omega, q⟩
  · intro t i ht hi q
    by_cases es : t = s
    · subst es
      rw [p.2.2.1 i k t hi hk q hb]; exact kn
    · exact q2 t i (by omega) hi q
theorem bb_OI_b {c : Nat → Nat} {m s o k : Nat} {g g' : Nat → Int32} (hc : ∀ s, s < N → c s ≤ s ∧ c (c s) = c s) (h : bb_OI N c m g s o) (hs : s < N) (hk : k < m) (hb : bb_BS g k s) (ho : o ≤ k)
    (hg : ∀ i, g' i = g (if i = o then k else if i = k then o else i)) : bb_OI N c m g' (s + 1) (o + 1) := by
  obtain ⟨p, r, e, l, q1, q2⟩ := h
  have eB : bb_BS g' = fun i => bb_BS g ((fun i => if i = o then k else if i = k then o else i) i) := by
    funext i s
    show (bt (g' i) s = true) = _
    rw [hg i]
    rfl
  have pi1 : ∀ i, i < m → (fun i => if i = o then k else if i = k then o else i) i < m := by
    intro i hi
    dsimp only
    split
    · exact hk
    · split
      · omega
      · exact hi
  have pi2 : ∀ i, (fun i => if i = o then k else if i = k then o else i) ((fun i => if i = o then k else if i = k then o else i) i) = i := by
    intro i
    dsimp only
    by_cases a : i = o
    · rw [if_pos a]
      by_cases b : k = o
      · rw [if_pos b]; omega
      · rw [if_neg b, if_pos rfl]; omega
    · rw [if_neg a]
      by_cases b : i = k
      · rw [if_pos b, if_pos rfl]; omega
      · rw [if_neg b, if_neg a, if_neg b]
  have cs : c s = s := by
    have a := hc s hs
    refine Classical.byContradiction fun ne => ?_
    obtain ⟨i, hi, x, y⟩ := (r s (c s)).mpr ⟨hs, by omega, a.2.symm⟩
    cases p.2.2.1 i k s hi hk x hb
    have z := q2 (c s) k (by omega) hk y
    have z2 : bb_nb c (c s) = bb_cn (bb_ldr c) (c s) := by
      show bb_cn _ (c (c s)) = _
      rw [a.2]
    have z3 := bb_cn_u (p := bb_ldr c) (u := c s) (n := s) (decide_eq_true a.2) (by omega)
    omega
  have no : bb_nb c s = o := by
    show bb_cn _ (c s) = o
    rw [cs]; exact e.symm
  refine ⟨?_, ?_, ?_, by omega, ?_, ?_⟩
  · rw [eB]; exact bb_par_pm p pi1 pi2
  · intro x y
    rw [eB, bb_pr_pm pi1 pi2]; exact r x y
  · rw [bb_cn_t (decide_eq_true cs)]; omega
  · intro i hi
    by_cases ei : i = o
    · refine ⟨s, by omega, ?_⟩
      show bt (g' i) s = true
      rw [hg, if_pos ei]; exact hb
    · obtain ⟨t, ht, q⟩ := q1 i (by omega)
      refine ⟨t, by omega, ?_⟩
      show bt (g' i) t = true
      rw [hg, if_neg ei, if_neg (by omega)]; exact q
  · intro t i ht hi q
    have q' : bt (g' i) t = true := q
    rw [hg] at q'
    by_cases es : t = s
    · subst es
      have e2 := p.2.2.1 _ k t (pi1 i hi) hk q' hb
      rw [no]
      dsimp only at e2
      by_cases a : i = o
      · exact a
      · rw [if_neg a] at e2
        by_cases b : i = k
        · rw [if_pos b] at e2; omega
        · rw [if_neg b] at e2; omega
    · have e3 := q2 t _ (by omega) (pi1 i hi) q'
      dsimp only at e3
      have e4 : bb_nb c t < o := by
        have rel := (r t t).mp ⟨_, pi1 i hi, q', q'⟩
        have a := hc t rel.1
        rw [e]
        exact bb_cn_u (decide_eq_true a.2) (by omega)
      by_cases a : i = o
      · rw [if_pos a] at e3; omega
      · rw [if_neg a] at e3
        by_cases b : i = k
        · rw [if_pos b] at e3; omega
        · rw [if_neg b] at e3; exact e3
theorem bb_OI_N {c : Nat → Nat} {m o : Nat} {g : Nat → Int32} (hc : ∀ s, s < N → c s ≤ s ∧ c (c s) = c s) (h : bb_OI N c m g N o) : m = bb_cn (bb_ldr c) N ∧ ∀ i s, i < m → (bt (g i) s = true ↔ s < N ∧ bb_nb c s = i) := by
  obtain ⟨p, r, e, l, q1, q2⟩ := h
  refine ⟨?_, fun i s hi => ⟨fun q => ?_, fun q => ?_⟩⟩
  · refine Nat.le_antisymm (Nat.le_of_not_lt fun z => ?_) (by omega)
    obtain ⟨s, q⟩ := p.1 _ z
    have hs := p.2.1 _ s z q
    have a := q2 s _ hs z q
    have b := bb_nb_lt hc hs
    omega
  · have hs := p.2.1 i s hi q
    exact ⟨hs, (q2 s i hs hi q).symm⟩
  · obtain ⟨j, hj, b⟩ := p.2.2.2 s q.1
    have a := q2 s j q.1 hj b
    have e : i = j := by omega
    rw [e]; exact b
def bb_sum (f : Nat → Nat) : Nat → Nat
  | 0 => 0
  | n + 1 => bb_sum f n + f n
theorem bb_sum_cg {f f' : Nat → Nat} : ∀ n, (∀ i, i < n → f i = f' i) → bb_sum f n = bb_sum f' n
  | 0, _ => rfl
  | n + 1, h => by
    show bb_sum f n + f n = bb_sum f' n + f' n
    rw [bb_sum_cg n (fun i hi => h i (by omega)), h n (by omega)]
theorem bb_sum_z {f : Nat → Nat} (b : Nat) (h : ∀ i, b ≤ i → f i = 0) : ∀ n, b ≤ n → bb_sum f n = bb_sum f b
  | 0, hn => by
    cases Nat.le_zero.mp hn
    rfl
  | n + 1, hn => by
    by_cases e : b = n + 1
    · rw [e]
    · show bb_sum f n + f n = _
      rw [bb_sum_z b h n (by omega), h n (by omega), Nat.add_zero]
theorem bb_sum_le {f : Nat → Nat} (b : Nat) (h : ∀ i, f i ≤ b) : ∀ n, bb_sum f n ≤ n * b
  | 0 => by
    show 0 ≤ 0 * b
    omega
  | n + 1 => by
    have := bb_sum_le b h n
    have := h n
    show bb_sum f n + f n ≤ (n + 1) * b
    rw [Nat.succ_mul]
    omega
end
end
section
section
variable {T : Nat → Nat → Nat → Prop} {N L : Nat} {xml xql xmt xmi xbT xft : Int32} {xtg xbs xfo : Nat → Int32}
theorem bb_cs (p : Int32) (n : Nat) : (∃ s, s < n ∧ p = nI s) ∨ (∀ s, s < n → p ≠ nI s) := by
  by_cases h : ∃ s, s < n ∧ p = nI s
  · exact Or.inl h
  · exact Or.inr fun s hs e => h ⟨s, hs, e⟩
theorem bb_ou {p : Int32} {n : Nat} (hn : n < 2 ^ 31) (h : ∀ s, s < n → p ≠ nI s) : p < 0 ∨ (¬ p < 0 ∧ nI n ≤ p) := by
  rcases pk_ix p hn with q | q | ⟨j, hj, e⟩
  · exact Or.inl q
  · exact Or.inr ⟨Int32.not_lt.mpr (Int32.le_trans (nI_pos' hn) q), q⟩
  · exact absurd e (h j hj)
theorem bb_ouL {p : Int32} {n : Nat} (hn : n + 1 < 2 ^ 31) (h : ∀ s, s < n + 1 → p ≠ nI s) : p < 0 ∨ (¬ p < 0 ∧ nI n < p) := by
  rcases bb_ou hn h with q | ⟨q, q2⟩
  · exact Or.inl q
  · exact Or.inr ⟨q, Int32.lt_of_lt_of_le (nI_lt (Nat.lt_succ_self n) hn) q2⟩
theorem bx_st_i {post : Int32 → Prop} {s : Nat} (hN : N ≤ 12) (hs : s < N) (h : post 1) : wpX_isState post ((nI N), (nI L), xml, xql, xmt, xmi, xbT, xft, xtg, xbs, xfo) (nI s) :=
  br_f (nI_pos (by omega)) (br_f (nI_ge hs (by omega)) h)
theorem bx_st_o {post : Int32 → Prop} {p : Int32} (hN : N ≤ 12) (hs : ∀ s, s < N → p ≠ nI s) (h : post 0) : wpX_isState post ((nI N), (nI L), xml, xql, xmt, xmi, xbT, xft, xtg, xbs, xfo) p := by
  rcases bb_ou (by omega) hs with q | ⟨q, q2⟩
  · exact br_t q h
  · exact br_f q (br_t q2 h)
theorem bx_lb_i {post : Int32 → Prop} {s : Nat} (hL : L ≤ 3) (hs : s < L + 1) (h : post 1) : wpX_isLabel post ((nI N), (nI L), xml, xql, xmt, xmi, xbT, xft, xtg, xbs, xfo) (nI s) :=
  br_f (nI_pos (by omega)) (br_f (nI_nlt (by omega) (by omega)) h)
theorem bx_lb_o {post : Int32 → Prop} {p : Int32} (hL : L ≤ 3) (hs : ∀ s, s < L + 1 → p ≠ nI s) (h : post 0) : wpX_isLabel post ((nI N), (nI L), xml, xql, xmt, xmi, xbT, xft, xtg, xbs, xfo) p := by
  rcases bb_ouL (by omega) hs with q | ⟨q, q2⟩
  · exact br_t q h
  · exact br_f q (br_t q2 h)
theorem bx_bl_i {post : Int32 → Prop} {s m : Nat} (hN : m ≤ 12) (hs : s < m) (h : post 1) : wpX_isBlock post ((nI N), (nI L), xml, xql, xmt, xmi, nI m, xft, xtg, xbs, xfo) (nI s) :=
  br_f (nI_pos (by omega)) (br_f (nI_ge hs (by omega)) h)
theorem bx_bl_o {post : Int32 → Prop} {p : Int32} {m : Nat} (hN : m ≤ 12) (hs : ∀ s, s < m → p ≠ nI s) (h : post 0) : wpX_isBlock post ((nI N), (nI L), xml, xql, xmt, xmi, nI m, xft, xtg, xbs, xfo) p := by
  rcases bb_ou (by omega) hs with q | ⟨q, q2⟩
  · exact br_t q h
  · exact br_f q (br_t q2 h)
theorem bx_fm_i {post : Int32 → Prop} {s m : Nat} (hN : m ≤ 32) (hs : s < m) (h : post 1) : wpX_isFormula post ((nI N), (nI L), xml, xql, xmt, xmi, xbT, nI m, xtg, xbs, xfo) (nI s) :=
  br_f (nI_pos (by omega)) (br_f (nI_ge hs (by omega)) h)
theorem bx_fm_o {post : Int32 → Prop} {p : Int32} {m : Nat} (hN : m ≤ 32) (hs : ∀ s, s < m → p ≠ nI s) (h : post 0) : wpX_isFormula post ((nI N), (nI L), xml, xql, xmt, xmi, xbT, nI m, xtg, xbs, xfo) p := by
  rcases bb_ou (by omega) hs with q | ⟨q, q2⟩
  · exact br_t q h
  · exact br_f q (br_t q2 h)
theorem bb_row (a s : Nat) : nI a * 12 + nI s = nI (a * 12 + s) := by
  show nI a * nI 12 + nI s = _
  rw [pk_mul, nI_add]
theorem bx_con {post : Int32 → Prop} {x : Int32} {s : Nat} (hs : s < 32) (h1 : bt x s = true → post 1) (h0 : ¬ bt x s = true → post 0) : wpX_contains post x (nI s) :=
  ek_if (bb_con x hs) h0 (fun z => h1 (Classical.byContradiction z))
def bx_T (N L : Nat) (T : Nat → Nat → Nat → Prop) (tg : Nat → Int32) : Prop :=
  (∀ a s t, T a s t → a ≤ L ∧ s < N ∧ t < N) ∧ ∀ a s t, a ≤ L → s < N → (bt (tg (a * 12 + s)) t = true ↔ T a s t)
theorem bx_mit {post : Int32 → Prop} {a s t : Nat} (hT : bx_T N L T xtg) (hN : N ≤ 12) (hL : L ≤ 3) (ha : a ≤ L) (hs : s < N) (ht : t < N) (h1 : T a s t → post 1) (h0 : ¬ T a s t → post 0) : wpX_moveIsThere post ((nI N), (nI L), xml, xql, xmt, xmi, xbT, xft, xtg, xbs, xfo) (nI s) (nI a) (nI t) := by
  unfold wpX_moveIsThere wpX_row
  dsimp only
  rw [bb_row]
  refine ⟨vp_in_nI (by omega) (by decide), nm_r (congrArg xtg (nI_clamp (by omega))) ?_⟩
  exact bx_con (by omega) (fun q => ⟨rfl, h1 ((hT.2 a s t ha hs).mp q)⟩) (fun q => ⟨rfl, h0 fun z => q ((hT.2 a s t ha hs).mpr z)⟩)
theorem bx_smi {post : Int32 → Prop} {a : Nat} {x : Int32} (hT : bx_T N L T xtg) (hN : N ≤ 12) (hL : L ≤ 3) (ha : a ≤ L) (hp : ∀ r, (∀ s, bt r s = true ↔ ∃ t, T a s t ∧ bt x t = true) → post r) : wpX_statesMovingInto post ((nI N), (nI L), xml, xql, xmt, xmi, xbT, xft, xtg, xbs, xfo) (nI a) x := by
  unfold wpX_statesMovingInto
  dsimp only
  refine loop_0 (fun n i (r : Int32) => wX_statesMovingInto_5 post (nI a) x (nI N) (nI L) xml xql xmt xmi xbT xft xtg xbs xfo n r (nI i)) (fun i r => ∀ s, bt r s = true ↔ s < i ∧ ∃ t, T a s t ∧ bt x t = true) N 0 ?_ ?_ ?_
  · intro s
    rw [b_0]
    exact ⟨fun q => absurd q (by decide), fun q => absurd q.1 (Nat.not_lt_zero _)⟩
  · intro n r h
    refine br_t (nI_le (Nat.le_refl _) (by omega)) (hp r fun s => ?_)
    rw [h s]
    exact ⟨fun q => q.2, fun q => ⟨by obtain ⟨t, m, _⟩ := q; exact (hT.1 _ _ _ m).2.1, q⟩⟩
  · intro n i r hi h ih
    refine br_f (nI_ge hi (by omega)) ?_
    unfold wpX_row
    dsimp only
    rw [bb_row, nI_clamp (by omega)]
    refine ⟨vp_in_nI (by omega) (by decide), br_c (fun z => nm_r (nI_1 i) (ih r ?_)) (fun z => nm_e (nm_r (nI_1 i) (ih _ ?_)))⟩
    · intro s
      rw [h s]
      refine ⟨fun q => ⟨by omega, q.2⟩, fun q => ⟨?_, q.2⟩⟩
      by_cases e : s = i
      · obtain ⟨t, m, b⟩ := q.2
        subst e
        exact absurd ((bb_andS _ _ t).mpr ⟨(hT.2 a s t ha hi).mpr m, b⟩) ((bb_z _).mp z t)
      · omega
    · intro s
      rw [bb_ins _ (by omega), h s]
      constructor
      · rintro (q | e)
        · exact ⟨by omega, q.2⟩
        · subst e
          obtain ⟨t, b⟩ := (bb_nz _).mp z
          rw [bb_andS] at b
          exact ⟨by omega, t, (hT.2 a s t ha hi).mp b.1, b.2⟩
      · intro q
        by_cases e : s = i
        · exact Or.inr e
        · exact Or.inl ⟨by omega, q.2⟩
theorem bx_div {post : Int32 → Prop} {f : Int32} (hT : bx_T N L T xtg) (hN : N ≤ 12) (hL : L ≤ 3) (hF : ∀ s, bt f s = true → s < N) (hp : ∀ r, (∀ s, bt r s = true ↔ bb_Div T (fun s => bt f s = true) s) → post r) : wpX_divergentStates post ((nI N), (nI L), xml, xql, xmt, xmi, xbT, xft, xtg, xbs, xfo) f := by
  unfold wpX_divergentStates
  dsimp only
  refine loop_0 (fun n i (r : Int32) => wX_divergentStates_4 post (nI N) (nI L) xml xql xmt xmi xbT xft xtg xbs xfo n r (nI i)) (fun i r => bb_ID N T (fun s => bt f s = true) i (bt r)) N f (bb_ID_0 (fun s => Iff.rfl) hF) ?_ ?_
  · intro n r h
    exact br_t (nI_le (Nat.le_refl _) (by omega)) (hp r (bb_ID_N h))
  · intro n i r hi h ih
    refine br_f (nI_ge hi (by omega)) (bx_smi (a := 0) hT hN hL (Nat.zero_le _) (fun q hq => nm_e (nm_r (nI_1 i) (ih _ ?_))))
    exact bb_ID_s h (fun s => by rw [bb_andS, hq s])
theorem bx_unt {post : Int32 → Prop} {f g : Int32} {a : Nat} (hT : bx_T N L T xtg) (hN : N ≤ 12) (hL : L ≤ 3) (ha : a ≤ L)
    (hp : ∀ r, (∀ s, bt r s = true ↔ bb_Unt T (fun s => bt f s = true) a (fun s => bt g s = true) s ∨ (a = 0 ∧ bt g s = true)) → post r) : wpX_untilStates post ((nI N), (nI L), xml, xql, xmt, xmi, xbT, xft, xtg, xbs, xfo) f (nI a) g := by
  have hT' : ∀ a s t, T a s t → s < N ∧ t < N := fun a s t m => (hT.1 a s t m).2
  unfold wpX_untilStates
  dsimp only
  refine bx_smi hT hN hL ha (fun q hq => nm_e ?_)
  refine loop_0 (fun n i (r : Int32) => wX_untilStates_13 post f (nI a) g (nI N) (nI L) xml xql xmt xmi xbT xft xtg xbs xfo n r (nI i)) (fun i r => bb_IU N T (fun s => bt f s = true) a (fun s => bt g s = true) i (bt r)) N (f &&& q) (bb_IU_0 (fun s => by rw [bb_andS, hq s])) ?_ ?_
  · intro n r h
    have hr := bb_IU_N hT' h
    refine br_t (nI_le (Nat.le_refl _) (by omega)) (pk_eq a 0 (fun e => hp _ fun s => ?_) (fun e => hp _ fun s => ?_))
    · rw [bb_orS, hr s]
      exact ⟨fun z => z.elim Or.inl (fun z => Or.inr ⟨e, z⟩), fun z => z.elim Or.inl (fun z => Or.inr z.2)⟩
    · rw [hr s]
      exact ⟨Or.inl, fun z => z.elim id (fun z => absurd z.1 e)⟩
  · intro n i r hi h ih
    refine br_f (nI_ge hi (by omega)) (bx_smi (a := 0) hT hN hL (Nat.zero_le _) (fun q hq => nm_e (nm_r (nI_1 i) (ih _ ?_))))
    exact bb_IU_s hT' h (fun s => by rw [bb_orS, bb_andS, hq s])
end
end
section
section
variable {T : Nat → Nat → Nat → Prop} {N L : Nat} {xml xql xmt xmi xbT xft : Int32} {xtg xbs xfo : Nat → Int32}
theorem bx_bw {post : Int32 → Prop} {s k m : Nat} (hm : m ≤ 12) (hs : s < 32) (hk : k < m) (hb : bb_BS xbs k s) (hu : ∀ i, i < m → bb_BS xbs i s → i = k) (hp : post (nI k)) : wpX_blockWith post ((nI N), (nI L), xml, xql, xmt, xmi, nI m, xft, xtg, xbs, xfo) (nI s) := by
  unfold wpX_blockWith
  dsimp only
  refine loop_0 (fun n i (r : Int32) => wX_blockWith_4 post (nI s) (nI N) (nI L) xml xql xmt xmi (nI m) xft xtg xbs xfo n r (nI i)) (fun i r => k < i → r = nI k) m 0 ?_ ?_ ?_
  · intro h
    omega
  · intro n r h
    rw [h hk]
    exact br_t (nI_le (Nat.le_refl _) (by omega)) hp
  · intro n i r hi h ih
    refine br_f (nI_ge hi (by omega)) ⟨vp_in_nI (by omega) (by decide), ?_⟩
    rw [nI_clamp (by omega)]
    refine bx_con hs (fun q => ?_) (fun q => ?_)
    · refine br_f (by decide) (nm_r (nI_1 i) (ih _ fun _ => ?_))
      rw [hu i hi q]
    · refine br_t rfl (nm_r (nI_1 i) (ih _ fun z => h ?_))
      have : i ≠ k := fun e => q (by rw [e]; exact hb)
      omega
theorem bb_bs_cut {g : Nat → Int32} {m k : Nat} {U : Int32} (hk : k < m) : bb_BS (upd (upd g k (g k &&& U)) m (g k &&& (U ^^^ (-1)))) = bb_cutB m k (bb_BS g) (fun s => bt U s = true) := by
  funext i s
  unfold bb_cutB bb_BS
  by_cases e : i = m
  · subst e
    rw [pk_us, if_pos rfl]
    exact propext (bb_diffS _ _ _)
  · rw [pk_un e, if_neg e]
    by_cases e2 : i = k
    · subst e2
      rw [pk_us, if_pos rfl]
      exact propext (bb_andS _ _ _)
    · rw [pk_un e2, if_neg e2]
theorem bx_cut {post : Int32 → SX → Prop} {k m : Nat} {U : Int32} (hm : m ≤ 12) (hk : k < m)
    (h0 : ((∀ s, bb_BS xbs k s → bt U s = true) ∨ (∀ s, bb_BS xbs k s → ¬ bt U s = true)) → post 0 ((nI N), (nI L), xml, xql, xmt, xmi, nI m, xft, xtg, xbs, xfo))
    (hr : (∃ s, bb_BS xbs k s ∧ bt U s = true) → (∃ s, bb_BS xbs k s ∧ ¬ bt U s = true) → m < 12)
    (h1 : (∃ s, bb_BS xbs k s ∧ bt U s = true) → (∃ s, bb_BS xbs k s ∧ ¬ bt U s = true) → post 1 ((nI N), (nI L), xml, xql, xmt, xmi, nI (m + 1), xft, xtg, upd (upd xbs k (xbs k &&& U)) m (xbs k &&& (U ^^^ (-1))), xfo)) : wpX_cutBlock post ((nI N), (nI L), xml, xql, xmt, xmi, nI m, xft, xtg, xbs, xfo) (nI k) U := by
  unfold wpX_cutBlock
  dsimp only
  rw [nI_clamp (by omega), nI_clamp (by omega)]
  refine ⟨vp_in_nI (by omega) (by decide), nm_e ⟨vp_in_nI (by omega) (by decide), nm_e (br_c (fun z => h0 (Or.inr fun s b u => ?_)) (fun z => br_c (fun z2 => h0 (Or.inl fun s b => ?_)) (fun z2 => ?_)))⟩⟩
  · exact (bb_z _).mp z s ((bb_andS _ _ _).mpr ⟨b, u⟩)
  · exact Classical.byContradiction fun u => (bb_z _).mp z2 s ((bb_diffS _ _ _).mpr ⟨b, u⟩)
  · have e1 : ∃ s, bb_BS xbs k s ∧ bt U s = true := by
      obtain ⟨s, q⟩ := (bb_nz _).mp z
      exact ⟨s, (bb_andS _ _ _).mp q⟩
    have e2 : ∃ s, bb_BS xbs k s ∧ ¬ bt U s = true := by
      obtain ⟨s, q⟩ := (bb_nz _).mp z2
      exact ⟨s, (bb_diffS _ _ _).mp q⟩
    refine ⟨vp_in_nI (by omega) (by decide), nm_e ⟨vp_in_nI (hr e1 e2) (by decide), nm_e (nm_r (nI_1 m) (h1 e1 e2))⟩⟩
def bx_PC (N : Nat) (T : Nat → Nat → Nat → Prop) (m : Nat) (g : Nat → Int32) : Prop := bb_Par N m (bb_BS g) ∧ bb_Co N T m (bb_BS g)
theorem bx_cutS {post : Int32 → SX → Prop} {k m : Nat} {U : Int32} (hN : N ≤ 12) (hP : bx_PC N T m xbs) (hk : k < m)
    (hU : ∀ R, bb_Eqv N R → bb_Stb T R → ∀ s t, R s t → bb_BS xbs k s → bt U s = true → bt U t = true)
    (h0 : (∀ s t, bb_BS xbs k s → bb_BS xbs k t → bt U s = true → bt U t = true) → post 0 ((nI N), (nI L), xml, xql, xmt, xmi, nI m, xft, xtg, xbs, xfo))
    (h1 : ∀ g', bx_PC N T (m + 1) g' → post 1 ((nI N), (nI L), xml, xql, xmt, xmi, nI (m + 1), xft, xtg, g', xfo)) : wpX_cutBlock post ((nI N), (nI L), xml, xql, xmt, xmi, nI m, xft, xtg, xbs, xfo) (nI k) U := by
  have hm := bb_par_le hP.1
  refine bx_cut (by omega) hk (fun h => h0 ?_) (fun e1 e2 => ?_) (fun e1 e2 => h1 _ ⟨?_, ?_⟩)
  · intro s t bs' bt' u
    rcases h with h | h
    · exact h t bt'
    · exact absurd u (h s bs')
  · have := bb_par_le (bb_par_cut hP.1 hk e1 e2)
    omega
  · rw [bb_bs_cut hk]
    exact bb_par_cut hP.1 hk e1 e2
  · rw [bb_bs_cut hk]
    exact bb_co_cut hP.2 hk hU
theorem bx_cbd {post : Int32 → SX → Prop} {k m : Nat} (hT : bx_T N L T xtg) (hN : N ≤ 12) (hL : L ≤ 3) (hP : bx_PC N T m xbs) (hk : k < m)
    (h0 : (∀ s t, bb_BS xbs k s → bb_BS xbs k t → bb_Div T (bb_BS xbs k) s → bb_Div T (bb_BS xbs k) t) → post 0 ((nI N), (nI L), xml, xql, xmt, xmi, nI m, xft, xtg, xbs, xfo))
    (h1 : ∀ g', bx_PC N T (m + 1) g' → post 1 ((nI N), (nI L), xml, xql, xmt, xmi, nI (m + 1), xft, xtg, g', xfo)) : wpX_cutByDivergence post ((nI N), (nI L), xml, xql, xmt, xmi, nI m, xft, xtg, xbs, xfo) (nI k) := by
  have hm := bb_par_le hP.1
  have hT' : ∀ a s t, T a s t → s < N ∧ t < N := fun a s t m => (hT.1 a s t m).2
  unfold wpX_cutByDivergence
  dsimp only
  rw [nI_clamp (by omega)]
  refine ⟨vp_in_nI (by omega) (by decide), bx_div hT hN hL (fun s q => hP.1.2.1 k s hk q) (fun r hr => ?_)⟩
  refine bx_cutS hN hP hk ?_ (fun h => ⟨rfl, h0 fun s t a b d => ?_⟩) (fun g' hg => ⟨rfl, h1 g' hg⟩)
  · intro R hE hS s t q b u
    rw [hr] at u ⊢
    exact bb_cutD hT' hE hS (fun x y q2 b2 => hP.2 R hE hS k x y hk q2 b2) u q
  · exact (hr t).mp (h s t a b ((hr s).mpr d))
def bx_FU (T : Nat → Nat → Nat → Prop) (g : Nat → Int32) (k a c : Nat) : Prop :=
  ∀ s t, bb_BS g k s → bb_BS g k t → bb_Unt T (bb_BS g k) a (bb_BS g c) s → bb_Unt T (bb_BS g k) a (bb_BS g c) t
theorem bx_cbm37 {post : Int32 → SX → Prop} {J7 J18 : Int32 → Int32 → Int32 → Int32 → Int32 → Int32 → Int32 → Int32 → Int32 → (Nat → Int32) → (Nat → Int32) → (Nat → Int32) → Prop} {k m a c : Nat} (hT : bx_T N L T xtg) (hN : N ≤ 12) (hL : L ≤ 3) (hP : bx_PC N T m xbs) (hk : k < m) (ha : a ≤ L) (hc : c < m) (hac : a = 0 → c ≠ k)
    (h0 : bx_FU T xbs k a c → J18 (nI (c + 1)) (nI N) (nI L) xml xql xmt xmi (nI m) xft xtg xbs xfo)
    (h1 : ∀ g', bx_PC N T (m + 1) g' → post 1 ((nI N), (nI L), xml, xql, xmt, xmi, nI (m + 1), xft, xtg, g', xfo)) : wX_cutByMoves_37 post J7 J18 (nI k) (nI m) (nI a) (nI c) (nI N) (nI L) xml xql xmt xmi (nI m) xft xtg xbs xfo := by
  have hm := bb_par_le hP.1
  have hT' : ∀ a s t, T a s t → s < N ∧ t < N := fun a s t m => (hT.1 a s t m).2
  unfold wX_cutByMoves_37
  rw [nI_clamp (by omega), nI_clamp (by omega)]
  refine ⟨vp_in_nI (by omega) (by decide), vp_in_nI (by omega) (by decide), bx_unt hT hN hL ha (fun r hr => ?_)⟩
  have hr' : ∀ s, bb_BS xbs k s → (bt r s = true ↔ bb_Unt T (bb_BS xbs k) a (bb_BS xbs c) s) := by
    intro s b
    rw [hr]
    refine ⟨fun z => z.elim id (fun z => ?_), Or.inl⟩
    exact absurd (hP.1.2.2.1 c k s hc hk z.2 b) (hac z.1)
  refine bx_cutS hN hP hk ?_ (fun h => br_t rfl (nm_r (nI_1 c) (h0 fun s t x y d => ?_))) (fun g' hg => br_f (by decide) (h1 g' hg))
  · intro R hE hS s t q b u
    have b' := hP.2 R hE hS k s t hk q b
    rw [hr' s b] at u
    rw [hr' t b']
    refine bb_cutU hT' hE hS (fun x y q2 b2 => hP.2 R hE hS k x y hk q2 b2) (fun x y q2 b2 => hP.2 R hE hS c x y hc q2 b2) ?_ u t q
    intro e x b1 b2
    exact hac e (hP.1.2.2.1 c k x hc hk b2 b1)
  · exact (hr' t y).mp (h s t x y ((hr' s x).mpr d))
theorem bx_cbm18 {post : Int32 → SX → Prop} {J7 : Int32 → Int32 → Int32 → Int32 → Int32 → Int32 → Int32 → Int32 → Int32 → (Nat → Int32) → (Nat → Int32) → (Nat → Int32) → Prop} {k m a : Nat} (hT : bx_T N L T xtg) (hN : N ≤ 12) (hL : L ≤ 3) (hP : bx_PC N T m xbs) (hk : k < m) (ha : a ≤ L)
    (h0 : (∀ c, c < m → (a = 0 → c ≠ k) → bx_FU T xbs k a c) → J7 (nI (a + 1)) (nI N) (nI L) xml xql xmt xmi (nI m) xft xtg xbs xfo)
    (h1 : ∀ g', bx_PC N T (m + 1) g' → post 1 ((nI N), (nI L), xml, xql, xmt, xmi, nI (m + 1), xft, xtg, g', xfo)) : ∃ n, wX_cutByMoves_18 post J7 (nI k) (nI m) (nI a) n 0 (nI N) (nI L) xml xql xmt xmi (nI m) xft xtg xbs xfo := by
  have hm := bb_par_le hP.1
  refine loop_0 (fun n i (_ : Unit) => wX_cutByMoves_18 post J7 (nI k) (nI m) (nI a) n (nI i) (nI N) (nI L) xml xql xmt xmi (nI m) xft xtg xbs xfo) (fun i _ => ∀ c, c < i → (a = 0 → c ≠ k) → bx_FU T xbs k a c) m () ?_ ?_ ?_
  · intro c h
    omega
  · intro n _ h
    exact br_t (nI_le (Nat.le_refl _) (by omega)) (nm_r (nI_1 a) (h0 h))
  · intro n i _ hi h ih
    refine br_f (nI_ge hi (by omega)) ?_
    have go : (a = 0 → i ≠ k) → wX_cutByMoves_37 post J7 (wX_cutByMoves_18 post J7 (nI k) (nI m) (nI a) n) (nI k) (nI m) (nI a) (nI i) (nI N) (nI L) xml xql xmt xmi (nI m) xft xtg xbs xfo := by
      intro hac
      refine bx_cbm37 hT hN hL hP hk ha hi hac (fun f => ih () fun c hc hc2 => ?_) h1
      by_cases e : c = i
      · rw [e]; exact f
      · exact h c (by omega) hc2
    refine pk_eq a 0 (fun e => pk_eq i k (fun e2 => nm_r (nI_1 i) (ih () fun c hc hc2 => ?_)) (fun e2 => go fun _ => e2)) (fun e => go fun z => absurd z e)
    have := hc2 e
    exact h c (by omega) hc2
theorem bx_cbm {post : Int32 → SX → Prop} {k m : Nat} (hT : bx_T N L T xtg) (hN : N ≤ 12) (hL : L ≤ 3) (hP : bx_PC N T m xbs) (hk : k < m)
    (h0 : (∀ a c, c < m → (a = 0 → c ≠ k) → bx_FU T xbs k a c) → post 0 ((nI N), (nI L), xml, xql, xmt, xmi, nI m, xft, xtg, xbs, xfo))
    (h1 : ∀ g', bx_PC N T (m + 1) g' → post 1 ((nI N), (nI L), xml, xql, xmt, xmi, nI (m + 1), xft, xtg, g', xfo)) : wpX_cutByMoves post ((nI N), (nI L), xml, xql, xmt, xmi, nI m, xft, xtg, xbs, xfo) (nI k) := by
  have hm := bb_par_le hP.1
  unfold wpX_cutByMoves
  dsimp only
  refine loop_0 (fun n i (_ : Unit) => wX_cutByMoves_7 post (nI k) (nI m) n (nI i) (nI N) (nI L) xml xql xmt xmi (nI m) xft xtg xbs xfo) (fun i _ => ∀ a c, a < i → c < m → (a = 0 → c ≠ k) → bx_FU T xbs k a c) (L + 1) () ?_ ?_ ?_
  · intro a c h
    omega
  · intro n _ h
    refine br_t (nI_lt (by omega) (by omega)) (h0 fun a c hc hac => ?_)
    by_cases ha : a < L + 1
    · exact h a c ha hc hac
    · intro s t _ _ d
      refine (d (fun _ => False) ?_ ?_).elim
      · intro v x _ q _
        have := (hT.1 _ _ _ q).1
        omega
      · intro v w _ _ z
        exact z
  · intro n i _ hi h ih
    refine br_f (nI_nlt (by omega) (by omega)) (bx_cbm18 hT hN hL hP hk (by omega) (fun f => ih () fun a c ha hc hac => ?_) h1)
    by_cases e : a = i
    · subst e
      exact f c hc hac
    · exact h a c (by omega) hc hac
theorem bx_fb41 {post : SX → Prop} {J19 : Int32 → Int32 → Int32 → Int32 → Int32 → Int32 → Int32 → Int32 → Int32 → Int32 → (Nat → Int32) → (Nat → Int32) → (Nat → Int32) → Prop} {r b : Nat} (hT : bx_T N L T xtg) (hN : N ≤ 12) (hL : L ≤ 3) (hP : bx_PC N T b xbs)
    (h0 : (∀ k, k < b → bb_Fix T b (bb_BS xbs) k) → J19 0 (nI (r + 1)) (nI N) (nI L) xml xql xmt xmi (nI b) xft xtg xbs xfo)
    (h1 : ∀ m g', b < m → bx_PC N T m g' → J19 1 (nI (r + 1)) (nI N) (nI L) xml xql xmt xmi (nI m) xft xtg g' xfo) : ∃ n, wX_findBlocks_41 post J19 (nI r) (nI b) n 0 0 (nI N) (nI L) xml xql xmt xmi (nI b) xft xtg xbs xfo := by
  have hb := bb_par_le hP.1
  refine loop_0 (fun n i (s : Int32 × Nat × (Nat → Int32)) => wX_findBlocks_41 post J19 (nI r) (nI b) n s.1 (nI i) (nI N) (nI L) xml xql xmt xmi (nI s.2.1) xft xtg s.2.2 xfo)
    (fun i s => (s.1 = 0 ∧ s.2.1 = b ∧ s.2.2 = xbs ∧ ∀ k, k < i → bb_Fix T b (bb_BS xbs) k) ∨ (s.1 = 1 ∧ b < s.2.1 ∧ bx_PC N T s.2.1 s.2.2)) b (0, b, xbs) ?_ ?_ ?_
  · exact Or.inl ⟨rfl, rfl, rfl, fun k h => absurd h (Nat.not_lt_zero _)⟩
  · rintro n ⟨f, m, g⟩ h
    dsimp only at h ⊢
    refine br_t (nI_le (Nat.le_refl _) (by omega)) (nm_r (nI_1 r) ?_)
    rcases h with ⟨e1, e2, e3, h⟩ | ⟨e1, h, hg⟩
    · subst e1 e2 e3
      exact h0 h
    · subst e1
      exact h1 m g h hg
  · rintro n i ⟨f, m, g⟩ hi h ih
    dsimp only at h ⊢
    refine br_f (nI_ge hi (by omega)) ?_
    have hPg : bx_PC N T m g ∧ b ≤ m := by
      rcases h with ⟨e1, e2, e3, h⟩ | ⟨e1, h, hg⟩
      · subst e2 e3
        exact ⟨hP, Nat.le_refl _⟩
      · exact ⟨hg, by omega⟩
    obtain ⟨hPg, hbm⟩ := hPg
    refine bx_cbd hT hN hL hPg (by omega) (fun f1 => br_t rfl ?_) (fun g' hg => br_f (by decide) (nm_r (nI_1 i) (ih (1, m + 1, g') (Or.inr ⟨rfl, by dsimp only; omega, hg⟩))))
    refine bx_cbm hT hN hL hPg (by omega) (fun f2 => br_t rfl (nm_r (nI_1 i) (ih (f, m, g) ?_))) (fun g' hg => br_f (by decide) (nm_r (nI_1 i) (ih (1, m + 1, g') (Or.inr ⟨rfl, by dsimp only; omega, hg⟩))))
    rcases h with ⟨e1, e2, e3, h⟩ | ⟨e1, h, hg⟩
    · subst e2 e3
      refine Or.inl ⟨e1, rfl, rfl, fun k hk => ?_⟩
      by_cases e : k = i
      · subst e
        exact ⟨f1, f2⟩
      · exact h k (by omega)
    · exact Or.inr ⟨e1, h, hg⟩
theorem bx_fb {post : SX → Prop} (hT : bx_T N L T xtg) (h2 : 2 ≤ N) (hN : N ≤ 12) (hL : L ≤ 3) (hp : ∀ m g, bx_PC N T m g → (∀ k, k < m → bb_Fix T m (bb_BS g) k) → post ((nI N), (nI L), xml, xql, xmt, xmi, nI m, xft, xtg, g, xfo)) : wpX_findBlocks post ((nI N), (nI L), xml, xql, xmt, xmi, xbT, xft, xtg, xbs, xfo) := by
  unfold wpX_findBlocks wpX_allStates
  dsimp only
  refine nm_e ?_
  refine loop_0 (fun n i (s : Int32 × Nat × (Nat → Int32)) => wX_findBlocks_19 post n s.1 (nI i) (nI N) (nI L) xml xql xmt xmi (nI s.2.1) xft xtg s.2.2 xfo)
    (fun i s => bx_PC N T s.2.1 s.2.2 ∧ ((s.1 = 0 ∧ ∀ k, k < s.2.1 → bb_Fix T s.2.1 (bb_BS s.2.2) k) ∨ (s.1 = 1 ∧ i + 1 ≤ s.2.1))) N (1, 1, upd xbs 0 (((1 : Int32) <<< ((nI N) &&& 31)) - 1)) ?_ ?_ ?_
  · have key : ∀ s, bb_BS (upd xbs 0 (((1 : Int32) <<< ((nI N) &&& 31)) - 1)) 0 s ↔ s < N := by
      intro s
      unfold bb_BS
      rw [pk_us]
      exact bb_allS (by omega) s
    refine ⟨⟨⟨?_, ?_, ?_, ?_⟩, ?_⟩, Or.inr ⟨rfl, Nat.le_refl _⟩⟩
    · intro i hi
      have e : i = 0 := Nat.lt_one_iff.mp hi
      subst e
      exact ⟨0, (key 0).mpr (by omega)⟩
    · intro i s hi q
      have e : i = 0 := Nat.lt_one_iff.mp hi
      subst e
      exact (key s).mp q
    · intro i j s hi hj _ _
      have e : i = 0 := Nat.lt_one_iff.mp hi
      have e2 : j = 0 := Nat.lt_one_iff.mp hj
      rw [e, e2]
    · intro s hs
      exact ⟨0, Nat.zero_lt_one, (key s).mpr hs⟩
    · intro R hE _ i s t hi q b
      have e : i = 0 := Nat.lt_one_iff.mp hi
      subst e
      exact (key t).mpr (hE.2.2.2 _ _ q).2
  · rintro n ⟨f, m, g⟩ ⟨hP, h⟩
    dsimp only at hP h ⊢
    refine br_t (nI_le (Nat.le_refl _) (by omega)) (hp m g hP ?_)
    rcases h with ⟨_, h⟩ | ⟨_, h⟩
    · exact h
    · have := bb_par_le hP.1
      omega
  · rintro n i ⟨f, m, g⟩ hi ⟨hP, h⟩ ih
    dsimp only at hP h ⊢
    refine br_f (nI_ge hi (by omega)) ?_
    rcases h with ⟨e, h⟩ | ⟨e, h⟩
    · exact br_t e (hp m g hP h)
    · subst e
      refine br_f (by decide) (bx_fb41 hT hN hL hP (fun f => ih (0, m, g) ⟨hP, Or.inl ⟨rfl, f⟩⟩) (fun m' g' hm hg => ih (1, m', g') ⟨hg, Or.inr ⟨rfl, ?_⟩⟩))
      dsimp only
      omega
theorem bx_ob {post : SX → Prop} {m : Nat} {c : Nat → Nat} (hN : N ≤ 12) (hc : ∀ s, s < N → c s ≤ s ∧ c (c s) = c s) (h0 : bb_OI N c m xbs 0 0) (hp : ∀ g o, bb_OI N c m g N o → post ((nI N), (nI L), xml, xql, xmt, xmi, nI m, xft, xtg, g, xfo)) : wpX_orderBlocksByLeastState post ((nI N), (nI L), xml, xql, xmt, xmi, nI m, xft, xtg, xbs, xfo) := by
  have hm := bb_par_le h0.1
  unfold wpX_orderBlocksByLeastState
  dsimp only
  refine loop_0 (fun n i (s : Nat × (Nat → Int32)) => wX_orderBlocksByLeastState_4 post (nI N) (nI L) xml xql xmt xmi (nI m) xft n (nI s.1) (nI i) xtg s.2 xfo) (fun i s => bb_OI N c m s.2 i s.1) N (0, xbs) h0 ?_ ?_
  · rintro n ⟨o, g⟩ h
    exact br_t (nI_le (Nat.le_refl _) (by omega)) (hp g o h)
  · rintro n i ⟨o, g⟩ hi h ih
    dsimp only at h ⊢
    refine br_f (nI_ge hi (by omega)) ?_
    obtain ⟨k, hk, hb⟩ := h.1.2.2.2 i hi
    have ho := h.2.2.2.1
    refine bx_bw (k := k) (by omega) (by omega) hk hb (fun j hj q => h.1.2.2.1 j k i hj hk q hb) ?_
    refine pk_lt k o (fun z => nm_r (nI_1 i) (ih (o, g) (bb_OI_a hc h hi hk hb z))) (fun z => ?_)
    rw [nI_clamp (by omega), nI_clamp (by omega)]
    refine ⟨vp_in_nI (by omega) (by decide), nm_e ⟨vp_in_nI (by omega) (by decide), vp_in_nI (by omega) (by decide), nm_e ⟨vp_in_nI (by omega) (by decide), nm_e (nm_r (nI_1 o) (nm_r (nI_1 i) (ih (o + 1, upd (upd g k (g o)) o (g k)) (bb_OI_b hc h hi hk hb z ?_))))⟩⟩⟩
    intro j
    dsimp only
    by_cases e : j = o
    · rw [if_pos e, e, pk_us]
    · rw [if_neg e, pk_un e]
      by_cases e2 : j = k
      · rw [if_pos e2, e2, pk_us]
      · rw [if_neg e2, pk_un e2]
theorem bx_min {post : Int32 → SX → Prop} {c : Nat → Nat} (hT : bx_T N L T xtg) (h2 : 2 ≤ N) (hN : N ≤ 12) (hL : L ≤ 3) (hl : bb_Ld N T c)
    (hp : ∀ g, (∀ s, s < N → c s ≤ s ∧ c (c s) = c s) → (∀ i s, i < bb_cn (bb_ldr c) N → (bt (g i) s = true ↔ s < N ∧ bb_nb c s = i)) → post (nI (bb_cn (bb_ldr c) N)) ((nI N), (nI L), xml, xql, xmt, 1, nI (bb_cn (bb_ldr c) N), xft, xtg, g, xfo)) : wpX_minimise post ((nI N), (nI L), xml, xql, xmt, 0, xbT, xft, xtg, xbs, xfo) := by
  have hT' : ∀ a s t, T a s t → s < N ∧ t < N := fun a s t m => (hT.1 a s t m).2
  unfold wpX_minimise
  dsimp only
  refine br_t rfl (bx_fb hT h2 hN hL (fun m g hP hF => ?_))
  have hb := bb_is_bis hP.1 hT' hP.2 hF
  have hE := bb_pr_eqv hP.1
  have hsp : bb_Sp N T c := bb_ld_sp hl (fun s hs => (hb s s).mp (hE.1 s hs)) (fun s t q => (hb t s).mp (hE.2.1 _ _ ((hb s t).mpr q))) (fun s t u q q2 => (hb s u).mp (hE.2.2.1 _ _ _ ((hb s t).mpr q) ((hb t u).mpr q2)))
  refine bx_ob hN hsp.1 (bb_OI_0 hP.1 (fun x y => (hb x y).trans (hsp.2 x y).symm)) (fun g' o h => ?_)
  obtain ⟨e, h'⟩ := bb_OI_N hsp.1 h
  subst e
  exact hp g' hsp.1 h'
theorem bx_ls {post : Int32 → Prop} {x : Int32} {s : Nat} (h12 : s < 12) (hs : bt x s = true) (hm : ∀ t, t < s → ¬ bt x t = true) (hp : post (nI s)) : wpX_leastState post x := by
  unfold wpX_leastState
  have e : (11 : Int32) = nI 12 + (-1) := by decide
  rw [e]
  refine ⟨13, pk_loopD (fun n i (r : Int32) => wX_leastState_5 post x n r (nI i + (-1))) (fun i r => i ≤ 12 ∧ (i ≤ s → r = nI s)) ?_ ?_ 12 0 ⟨Nat.le_refl _, fun z => by omega⟩⟩
  · intro n r h
    rw [h.2 (Nat.zero_le _)]
    exact br_t (by decide) hp
  · intro n i r h ih
    rw [pk_m1]
    refine br_f (nI_pos (by omega)) (bx_con (by omega) (fun q => ?_) (fun q => ?_))
    · refine br_f (by decide) (nm_e (ih _ ⟨by omega, fun z => ?_⟩))
      by_cases e2 : i = s
      · rw [e2]
      · exact absurd q (hm i (by omega))
    · refine br_t rfl (nm_e (ih _ ⟨by omega, fun z => h.2 ?_⟩))
      have : i ≠ s := fun e => q (by rw [e]; exact hs)
      omega
end
end
section
section
variable {T : Nat → Nat → Nat → Prop} {N L : Nat} {xml xql xmt xmi xbT xft : Int32} {xtg xbs xfo : Nat → Int32}
def bb_Q (T : Nat → Nat → Nat → Prop) (B : Nat → Nat → Prop) (k a c : Nat) : Prop :=
  (a = 0 ∧ k = c ∧ ∃ s, bb_Div T (B k) s) ∨ (¬ (a = 0 ∧ k = c) ∧ ∃ s t, B k s ∧ T a s t ∧ B c t)
theorem bx_bm28 {post : Int32 → Prop} {k a c m : Nat} (hT : bx_T N L T xtg) (hN : N ≤ 12) (hL : L ≤ 3) (hm : m ≤ 12) (hk : k < m) (hc : c < m) (ha : a ≤ L) (hn : ¬ (a = 0 ∧ k = c))
    (h1 : bb_Q T (bb_BS xbs) k a c → post 1) (h0 : ¬ bb_Q T (bb_BS xbs) k a c → post 0) : wX_blockMoves_28 post (nI k) (nI a) (nI c) (nI N) (nI L) xml xql xmt xmi xbT xft xtg xbs xfo := by
  unfold wX_blockMoves_28
  rw [nI_clamp (by omega), nI_clamp (by omega)]
  refine ⟨vp_in_nI (by omega) (by decide), bx_smi hT hN hL ha (fun r hr => ⟨vp_in_nI (by omega) (by decide), br_c (fun z => h0 fun q => ?_) (fun z => h1 ?_)⟩)⟩
  · rcases q with q | ⟨_, s, t, b, m', b'⟩
    · exact hn ⟨q.1, q.2.1⟩
    · exact (bb_z _).mp z s ((bb_andS _ _ _).mpr ⟨(hr s).mpr ⟨t, m', b'⟩, b⟩)
  · obtain ⟨s, q⟩ := (bb_nz _).mp z
    rw [bb_andS, hr] at q
    obtain ⟨⟨t, m', b'⟩, b⟩ := q
    exact Or.inr ⟨hn, s, t, b, m', b'⟩
theorem bx_bm {post : Int32 → Prop} {k a c m : Nat} (hT : bx_T N L T xtg) (hN : N ≤ 12) (hL : L ≤ 3) (hm : m ≤ 12) (hk : k < m) (hc : c < m) (ha : a ≤ L) (hB : ∀ s, bb_BS xbs k s → s < N)
    (h1 : bb_Q T (bb_BS xbs) k a c → post 1) (h0 : ¬ bb_Q T (bb_BS xbs) k a c → post 0) : wpX_blockMoves post ((nI N), (nI L), xml, xql, xmt, xmi, xbT, xft, xtg, xbs, xfo) (nI k) (nI a) (nI c) := by
  unfold wpX_blockMoves
  dsimp only
  refine pk_eq a 0 (fun e => pk_eq k c (fun e2 => ?_) (fun e2 => bx_bm28 hT hN hL hm hk hc ha (fun z => e2 z.2) h1 h0)) (fun e => bx_bm28 hT hN hL hm hk hc ha (fun z => e z.1) h1 h0)
  rw [nI_clamp (by omega)]
  refine ⟨vp_in_nI (by omega) (by decide), bx_div hT hN hL hB (fun r hr => br_c (fun z => h0 fun q => ?_) (fun z => h1 ?_))⟩
  · rcases q with ⟨_, _, s, d⟩ | q
    · exact (bb_z _).mp z s ((hr s).mpr d)
    · exact q.1 ⟨e, e2⟩
  · obtain ⟨s, q⟩ := (bb_nz _).mp z
    exact Or.inl ⟨e, e2, s, (hr s).mp q⟩
noncomputable def bb_ind (P : Prop) : Nat := @ite Nat P (Classical.propDecidable P) 1 0
theorem bb_ind_t {P : Prop} (h : P) : bb_ind P = 1 := @if_pos P (Classical.propDecidable P) h Nat 1 0
theorem bb_ind_f {P : Prop} (h : ¬ P) : bb_ind P = 0 := @if_neg P (Classical.propDecidable P) h Nat 1 0
theorem bx_qc35 {post : Int32 → Prop} {J14 J24 : Int32 → Int32 → Prop} {k a m z : Nat} (hT : bx_T N L T xtg) (hN : N ≤ 12) (hL : L ≤ 3) (hm : m ≤ 12) (hk : k < m) (ha : a ≤ L) (hB : ∀ k s, k < m → bb_BS xbs k s → s < N)
    (hJ : J24 (nI (z + bb_sum (fun c => bb_ind (bb_Q T (bb_BS xbs) k a c)) m)) (nI (a + 1))) : ∃ n, wX_quotientMoveCount_35 post J14 J24 (nI k) (nI a) (nI N) (nI L) xml xql xmt xmi (nI m) xft xtg xbs xfo n (nI z) 0 := by
  refine loop_0 (fun n i (s : Nat) => wX_quotientMoveCount_35 post J14 J24 (nI k) (nI a) (nI N) (nI L) xml xql xmt xmi (nI m) xft xtg xbs xfo n (nI s) (nI i)) (fun i s => s = z + bb_sum (fun c => bb_ind (bb_Q T (bb_BS xbs) k a c)) i) m z rfl ?_ ?_
  · intro n s h
    subst h
    exact br_t (nI_le (Nat.le_refl _) (by omega)) (nm_r (nI_1 a) hJ)
  · intro n i s hi h ih
    refine br_f (nI_ge hi (by omega)) (bx_bm hT hN hL hm hk hi ha (fun s => hB k s hk) (fun q => br_f (by decide) (nm_r (nI_1 s) (nm_r (nI_1 i) (ih (s + 1) ?_)))) (fun q => br_t rfl (nm_r (nI_1 i) (ih s ?_))))
    · show s + 1 = z + (bb_sum _ i + bb_ind _)
      rw [bb_ind_t q]
      omega
    · show s = z + (bb_sum _ i + bb_ind _)
      rw [bb_ind_f q]
      omega
theorem bx_qc24 {post : Int32 → Prop} {J14 : Int32 → Int32 → Prop} {k m z : Nat} (hT : bx_T N L T xtg) (hN : N ≤ 12) (hL : L ≤ 3) (hm : m ≤ 12) (hk : k < m) (hB : ∀ k s, k < m → bb_BS xbs k s → s < N)
    (hJ : J14 (nI (z + bb_sum (fun a => bb_sum (fun c => bb_ind (bb_Q T (bb_BS xbs) k a c)) m) (L + 1))) (nI (k + 1))) : ∃ n, wX_quotientMoveCount_24 post J14 (nI k) (nI N) (nI L) xml xql xmt xmi (nI m) xft xtg xbs xfo n (nI z) 0 := by
  refine loop_0 (fun n i (s : Nat) => wX_quotientMoveCount_24 post J14 (nI k) (nI N) (nI L) xml xql xmt xmi (nI m) xft xtg xbs xfo n (nI s) (nI i)) (fun i s => s = z + bb_sum (fun a => bb_sum (fun c => bb_ind (bb_Q T (bb_BS xbs) k a c)) m) i) (L + 1) z rfl ?_ ?_
  · intro n s h
    subst h
    exact br_t (nI_lt (by omega) (by omega)) (nm_r (nI_1 k) hJ)
  · intro n i s hi h ih
    refine br_f (nI_nlt (by omega) (by omega)) (bx_qc35 hT hN hL hm hk (by omega) hB (ih _ ?_))
    show _ = z + (bb_sum _ i + _)
    dsimp only
    omega
theorem bx_qc {post : Int32 → Prop} {m : Nat} (hT : bx_T N L T xtg) (hN : N ≤ 12) (hL : L ≤ 3) (hm : m ≤ 12) (hB : ∀ k s, k < m → bb_BS xbs k s → s < N)
    (hp : post (nI (bb_sum (fun k => bb_sum (fun a => bb_sum (fun c => bb_ind (bb_Q T (bb_BS xbs) k a c)) m) (L + 1)) m))) : wpX_quotientMoveCount post ((nI N), (nI L), xml, xql, xmt, 1, nI m, xft, xtg, xbs, xfo) := by
  unfold wpX_quotientMoveCount
  dsimp only
  refine br_f (by decide) ?_
  refine loop_0 (fun n i (s : Nat) => wX_quotientMoveCount_14 post (nI N) (nI L) xml xql xmt 1 (nI m) xft xtg xbs xfo n (nI s) (nI i)) (fun i s => s = bb_sum (fun k => bb_sum (fun a => bb_sum (fun c => bb_ind (bb_Q T (bb_BS xbs) k a c)) m) (L + 1)) i) m 0 rfl ?_ ?_
  · intro n s h
    subst h
    exact br_t (nI_le (Nat.le_refl _) (by omega)) hp
  · intro n i s hi h ih
    refine br_f (nI_ge hi (by omega)) (bx_qc24 hT hN hL hm hi hB (ih _ ?_))
    show _ = bb_sum _ i + _
    dsimp only
    omega
end
end
section
section
variable {T : Nat → Nat → Nat → Prop} {N L mv : Nat} {ymx ymq ymi yff : Int32} {yA yB yC ykd ylf yfl yrt ycl yfi yok yse yde yst ytr : Nat → Int32}
theorem by_ns_i {post : Int32 → Prop} {s : Nat} (hN : N ≤ 12) (hs : s < N) (h : post 0) : wpY_noState post ((nI N), (nI L), ymx, ymq, ymi, (nI mv), yff, yA, yB, yC, ykd, ylf, yfl, yrt, ycl, yfi, yok, yse, yde, yst, ytr) (nI s) :=
  br_f (nI_pos (by omega)) (br_t (nI_lt hs (by omega)) h)
theorem by_ns_o {post : Int32 → Prop} {p : Int32} (hN : N ≤ 12) (hs : ∀ s, s < N → p ≠ nI s) (h : post 1) : wpY_noState post ((nI N), (nI L), ymx, ymq, ymi, (nI mv), yff, yA, yB, yC, ykd, ylf, yfl, yrt, ycl, yfi, yok, yse, yde, yst, ytr) p := by
  rcases bb_ou (by omega) hs with q | ⟨q, q2⟩
  · exact br_t q h
  · exact br_f q (br_f (Int32.not_lt.mpr q2) h)
theorem by_nf_i {post : Int32 → Prop} {s m : Nat} (hN : m ≤ 32) (hs : s < m) (h : post 0) : wpY_noFormula post ((nI N), (nI L), ymx, ymq, ymi, (nI mv), nI m, yA, yB, yC, ykd, ylf, yfl, yrt, ycl, yfi, yok, yse, yde, yst, ytr) (nI s) :=
  br_f (nI_pos (by omega)) (br_t (nI_lt hs (by omega)) h)
theorem by_nf_o {post : Int32 → Prop} {p : Int32} {m : Nat} (hN : m ≤ 32) (hs : ∀ s, s < m → p ≠ nI s) (h : post 1) : wpY_noFormula post ((nI N), (nI L), ymx, ymq, ymi, (nI mv), nI m, yA, yB, yC, ykd, ylf, yfl, yrt, ycl, yfi, yok, yse, yde, yst, ytr) p := by
  rcases bb_ou (by omega) hs with q | ⟨q, q2⟩
  · exact br_t q h
  · exact br_f q (br_f (Int32.not_lt.mpr q2) h)
theorem by_bm_i {post : Int32 → Prop} {s a t : Nat} (hN : N ≤ 12) (hL : L ≤ 3) (hs : s < N) (ha : a < L + 1) (ht : t < N) (h : post 0) : wpY_badMove post ((nI N), (nI L), ymx, ymq, ymi, (nI mv), yff, yA, yB, yC, ykd, ylf, yfl, yrt, ycl, yfi, yok, yse, yde, yst, ytr) (nI s) (nI a) (nI t) := by
  unfold wpY_badMove
  dsimp only
  refine by_ns_i hN hs (br_t rfl (by_ns_i hN ht (br_t rfl (br_f (nI_pos (by omega)) (br_t (nI_le (by omega) (by omega)) h)))))
theorem by_bm_o {post : Int32 → Prop} {p q r : Int32} (hN : N ≤ 12) (hL : L ≤ 3) (h0 : (∀ s, s < N → p ≠ nI s) ∨ (∀ s, s < L + 1 → q ≠ nI s) ∨ (∀ s, s < N → r ≠ nI s)) (h : post 1) : wpY_badMove post ((nI N), (nI L), ymx, ymq, ymi, (nI mv), yff, yA, yB, yC, ykd, ylf, yfl, yrt, ycl, yfi, yok, yse, yde, yst, ytr) p q r := by
  unfold wpY_badMove
  dsimp only
  rcases bb_cs p N with ⟨s, hs, e⟩ | hs
  · subst e
    refine by_ns_i hN hs (br_t rfl ?_)
    rcases bb_cs r N with ⟨t, ht, e⟩ | ht
    · subst e
      refine by_ns_i hN ht (br_t rfl ?_)
      rcases h0 with h0 | h0 | h0
      · exact absurd rfl (h0 s hs)
      · rcases bb_ouL (by omega) h0 with z | ⟨z, z2⟩
        · exact br_t z h
        · exact br_f z (br_f (Int32.not_le.mpr z2) h)
      · exact absurd rfl (h0 t ht)
    · exact by_ns_o hN ht (br_f (by decide) h)
  · exact by_ns_o hN hs (br_f (by decide) h)
def by_T (N L : Nat) (T : Nat → Nat → Nat → Prop) (mv : Nat) (A B C : Nat → Int32) : Prop :=
  (∀ m, m < mv → ∃ s a t, A m = nI s ∧ B m = nI a ∧ C m = nI t ∧ T a s t) ∧ (∀ a s t, T a s t → ∃ m, m < mv ∧ A m = nI s ∧ B m = nI a ∧ C m = nI t) ∧ (∀ a s t, T a s t → a ≤ L ∧ s < N ∧ t < N)
theorem by_find {post : Int32 → Prop} {s a t : Nat} (hT : by_T N L T mv yA yB yC) (hv : mv ≤ 32) (h1 : ∀ m, m < mv → yA m = nI s → yB m = nI a → yC m = nI t → post (nI m)) (h0 : ¬ T a s t → post (-1)) : wpY_find post ((nI N), (nI L), ymx, ymq, ymi, (nI mv), yff, yA, yB, yC, ykd, ylf, yfl, yrt, ycl, yfi, yok, yse, yde, yst, ytr) (nI s) (nI a) (nI t) := by
  unfold wpY_find
  dsimp only
  refine loop_0 (fun n i (_ : Unit) => wY_find_3 post (nI s) (nI a) (nI t) (nI N) (nI L) ymx ymq ymi (nI mv) yff yA yB yC ykd ylf yfl yrt ycl yfi yok yse yde yst ytr n (nI i)) (fun i _ => ∀ j, j < i → ¬ (yA j = nI s ∧ yB j = nI a ∧ yC j = nI t)) mv () (fun j h => absurd h (Nat.not_lt_zero _)) ?_ ?_
  · intro n _ h
    refine br_t (nI_le (Nat.le_refl _) (by omega)) (h0 fun q => ?_)
    obtain ⟨m, hm, e⟩ := hT.2.1 _ _ _ q
    exact h m hm e
  · intro n i _ hi h ih
    refine br_f (nI_ge hi (by omega)) ?_
    rw [nI_clamp (by omega)]
    have nx : ¬ (yA i = nI s ∧ yB i = nI a ∧ yC i = nI t) → wY_find_3 post (nI s) (nI a) (nI t) (nI N) (nI L) ymx ymq ymi (nI mv) yff yA yB yC ykd ylf yfl yrt ycl yfi yok yse yde yst ytr n (nI (i + 1)) := by
      intro z
      refine ih () fun j hj => ?_
      by_cases e : j = i
      · rw [e]; exact z
      · exact h j (by omega)
    have hv' := vp_in_nI (n := i) (N := 32) (by omega) (by decide)
    exact ⟨hv', br_c (fun z1 => ⟨hv', br_c (fun z2 => ⟨hv', br_c (fun z3 => h1 i hi z1 z2 z3) (fun z3 => nm_r (nI_1 i) (nx fun q => z3 q.2.2))⟩) (fun z2 => nm_r (nI_1 i) (nx fun q => z2 q.2.1))⟩) (fun z1 => nm_r (nI_1 i) (nx fun q => z1 q.1))⟩
def bb_p (a : Nat → Int32) (v : Nat) : Bool := !decide (a v = 0)
theorem bb_p_t {a : Nat → Int32} {v : Nat} : bb_p a v = true ↔ ¬ a v = 0 := by
  unfold bb_p
  by_cases h : a v = 0
  · rw [decide_eq_true h]
    exact ⟨fun z => absurd z (by decide), fun z => absurd h z⟩
  · rw [decide_eq_false h]
    exact ⟨fun _ => h, fun _ => rfl⟩
def bb_z1 (x : Int32) (P : Prop) : Prop := (x = 1 ∧ P) ∨ (x = 0 ∧ ¬ P)
theorem bb_z1_t {x : Int32} {P : Prop} (h : bb_z1 x P) : ¬ x = 0 ↔ P := by
  rcases h with ⟨e, p⟩ | ⟨e, p⟩
  · subst e
    exact ⟨fun _ => p, fun _ => by decide⟩
  · subst e
    exact ⟨fun z => absurd rfl z, fun z => absurd z p⟩
theorem bb_z1_f {x : Int32} {P : Prop} (h : bb_z1 x P) : x = 0 ↔ ¬ P := by
  rcases h with ⟨e, p⟩ | ⟨e, p⟩
  · subst e
    exact ⟨fun z => absurd z (by decide), fun z => absurd p z⟩
  · subst e
    exact ⟨fun _ => p, fun _ => rfl⟩
theorem bb_z1_e {x y : Int32} {P Q : Prop} (h : bb_z1 x P) (h' : bb_z1 y Q) : x = y ↔ (P ↔ Q) := by
  rcases h with ⟨e, p⟩ | ⟨e, p⟩ <;> rcases h' with ⟨e', q⟩ | ⟨e', q⟩ <;> subst e e'
  · exact ⟨fun _ => ⟨fun _ => q, fun _ => p⟩, fun _ => rfl⟩
  · exact ⟨fun z => absurd z (by decide), fun z => absurd (z.mp p) q⟩
  · exact ⟨fun z => absurd z (by decide), fun z => absurd (z.mpr q) p⟩
  · exact ⟨fun _ => ⟨fun z => absurd z p, fun z => absurd z q⟩, fun _ => rfl⟩
theorem bb_z1_c {x : Int32} {P Q : Prop} (h : bb_z1 x P) (e : P ↔ Q) : bb_z1 x Q := by
  rcases h with ⟨e', p⟩ | ⟨e', p⟩
  · exact Or.inl ⟨e', e.mp p⟩
  · exact Or.inr ⟨e', fun z => p (e.mpr z)⟩
theorem bb_n1 : vp_nar .boolean 1 = 1 := rfl
theorem bb_n0 : vp_nar .boolean 0 = 0 := rfl
theorem bb_z1_n {x : Int32} {P : Prop} (h : bb_z1 x P) : vp_nar .boolean x = x := by
  rcases h with ⟨e, _⟩ | ⟨e, _⟩
  · rw [e]; exact bb_n1
  · rw [e]; exact bb_n0
end
end
section
section
variable {T : Nat → Nat → Nat → Prop} {N L mv : Nat} {ymx ymq ymi yff : Int32} {yA yB yC ykd ylf yfl yrt ycl yfi yok yse yde yst ytr : Nat → Int32}
def by_WJ (N : Nat) (T : Nat → Nat → Nat → Prop) (F : Nat → Prop) (u : Nat) (A B C se0 : Nat → Int32) (i : Nat) (se : Nat → Int32) : Prop :=
  (∀ v, v < N → bb_p se0 v = true → bb_p se v = true) ∧ (∀ v, v < N → bb_p se v = true → bb_Rch T F u v) ∧
  (∀ j x w, j < i → A j = nI x → B j = nI 0 → C j = nI w → x < N → w < N → bb_p se0 x = true → F w → bb_p se w = true) ∧
  (bb_WC T F (bb_p se0) → ∀ v, v < N → bb_p se v = true → bb_p se0 v = true)
theorem by_WJ_k {F : Nat → Prop} {u i x a w : Nat} {A B C se0 se : Nat → Int32} (hN : N ≤ 12) (h : by_WJ N T F u A B C se0 i se) (eA : A i = nI x) (eB : B i = nI a) (eC : C i = nI w) (hx : x < N) (hw : w < N) (ha : a ≤ 3)
    (hn : a = 0 → bb_p se x = true → F w → False) : by_WJ N T F u A B C se0 (i + 1) se := by
  refine ⟨h.1, h.2.1, ?_, h.2.2.2⟩
  intro j x' w' hj e1 e2 e3 hx' hw' p f
  by_cases e : j = i
  · subst e
    rw [eA] at e1
    rw [eB] at e2
    rw [eC] at e3
    rw [nI_eq (by omega) (by omega)] at e1 e2 e3
    subst e1 e2 e3
    exact (hn rfl (h.1 _ hx p) f).elim
  · exact h.2.2.1 j x' w' (by omega) e1 e2 e3 hx' hw' p f
theorem by_WJ_a {F : Nat → Prop} {u i x w : Nat} {A B C se0 se : Nat → Int32} (hN : N ≤ 12) (h : by_WJ N T F u A B C se0 i se) (eC : C i = nI w) (hx : x < N) (hw : w < N) (hT : T 0 x w)
    (hp : bb_p se x = true) (hf : F w) : by_WJ N T F u A B C se0 (i + 1) (upd se w 1) := by
  have key : ∀ v, bb_p (upd se w 1) v = true ↔ v = w ∨ bb_p se v = true := by
    intro v
    rw [bb_p_t, bb_p_t]
    by_cases e : v = w
    · rw [e, pk_us]
      exact ⟨fun _ => Or.inl rfl, fun _ => by decide⟩
    · rw [pk_un e]
      exact ⟨Or.inr, fun z => z.resolve_left e⟩
  refine ⟨fun v hv p => (key v).mpr (Or.inr (h.1 v hv p)), ?_, ?_, ?_⟩
  · intro v hv p
    rcases (key v).mp p with e | p
    · rw [e]
      exact bb_rch_s (h.2.1 x hx hp) hT hf
    · exact h.2.1 v hv p
  · intro j x' w' hj e1 e2 e3 hx' hw' p f
    by_cases e : j = i
    · subst e
      rw [eC, nI_eq (by omega) (by omega)] at e3
      exact (key w').mpr (Or.inl e3.symm)
    · exact (key w').mpr (Or.inr (h.2.2.1 j x' w' (by omega) e1 e2 e3 hx' hw' p f))
  · intro c v hv p
    rcases (key v).mp p with e | p
    · rw [e]
      exact c x w (h.2.2.2 c x hx hp) hT hf
    · exact h.2.2.2 c v hv p
theorem by_w53 {post : SY → Prop} {J43 : Int32 → (Nat → Int32) → (Nat → Int32) → (Nat → Int32) → (Nat → Int32) → (Nat → Int32) → (Nat → Int32) → (Nat → Int32) → (Nat → Int32) → (Nat → Int32) → (Nat → Int32) → (Nat → Int32) → (Nat → Int32) → (Nat → Int32) → (Nat → Int32) → Prop}
    {F : Nat → Prop} {u r : Nat} (hT : by_T N L T mv yA yB yC) (hN : N ≤ 12) (hL : L ≤ 3) (hv : mv ≤ 32) (hu : u < N) (hF : ∀ v, v < N → bb_z1 (yok v) (F v)) (h0 : bb_WI N T F u r (bb_p yse))
    (hJ : ∀ se, bb_WI N T F u (r + 1) (bb_p se) → J43 (nI (r + 1)) yA yB yC ykd ylf yfl yrt ycl yfi yok se yde yst ytr) : ∃ n, wY_walk_53 post J43 (nI r) (nI N) (nI L) ymx ymq ymi (nI mv) yff n 0 yA yB yC ykd ylf yfl yrt ycl yfi yok yse yde yst ytr := by
  refine loop_0 (fun n i (s : Nat → Int32) => wY_walk_53 post J43 (nI r) (nI N) (nI L) ymx ymq ymi (nI mv) yff n (nI i) yA yB yC ykd ylf yfl yrt ycl yfi yok s yde yst ytr) (fun i s => by_WJ N T F u yA yB yC yse i s) mv yse ?_ ?_ ?_
  · exact ⟨fun v _ p => p, h0.1, fun j x w hj => absurd hj (Nat.not_lt_zero _), fun _ v _ p => p⟩
  · intro n s h
    refine br_t (nI_le (Nat.le_refl _) (by omega)) (nm_r (nI_1 r) (hJ s ?_))
    refine bb_WI_s (fun a s t m => (hT.2.2 a s t m).2) hu h0 h.1 h.2.1 ?_ h.2.2.2
    intro x w p m f
    obtain ⟨j, hj, e1, e2, e3⟩ := hT.2.1 _ _ _ m
    have b := hT.2.2 _ _ _ m
    exact h.2.2.1 j x w hj e1 e2 e3 b.2.1 b.2.2 p f
  · intro n i s hi h ih
    refine br_f (nI_ge hi (by omega)) ?_
    obtain ⟨x, a, w, eA, eB, eC, m⟩ := hT.1 i hi
    have b := hT.2.2 _ _ _ m
    rw [nI_clamp (n := i) (by omega), eA, eB, eC, nI_clamp (n := x) (by omega), nI_clamp (n := w) (by omega)]
    have v1 := vp_in_nI (n := i) (N := 32) (by omega) (by decide)
    have v2 := vp_in_nI (n := x) (N := 12) (by omega) (by decide)
    have v3 := vp_in_nI (n := w) (N := 12) (by omega) (by decide)
    refine ⟨v1, pk_eq a 0 (fun e0 => ⟨v1, v2, br_c (fun z => nm_r (nI_1 i) (ih s ?_)) (fun z => ⟨v1, v3, br_c (fun z2 => nm_r (nI_1 i) (ih s ?_)) (fun z2 => ⟨v1, v3, nm_r (congrArg (upd s w) bb_n1) (nm_r (nI_1 i) (ih _ ?_))⟩)⟩)⟩) (fun e0 => nm_r (nI_1 i) (ih s ?_))⟩
    · exact by_WJ_k hN h eA eB eC b.2.1 b.2.2 (by omega) (fun _ p _ => (bb_p_t.mp p) z)
    · exact by_WJ_k hN h eA eB eC b.2.1 b.2.2 (by omega) (fun _ _ f => (bb_z1_f (hF w b.2.2)).mp z2 f)
    · subst e0
      exact by_WJ_a hN h eC b.2.1 b.2.2 m (bb_p_t.mpr z) ((bb_z1_t (hF w b.2.2)).mp z2)
    · exact by_WJ_k hN h eA eB eC b.2.1 b.2.2 (by omega) (fun e _ _ => e0 e)
theorem by_walk {post : SY → Prop} {F : Nat → Prop} {u : Nat} (hT : by_T N L T mv yA yB yC) (hN : N ≤ 12) (hL : L ≤ 3) (hv : mv ≤ 32) (hu : u < N) (hF : ∀ v, v < N → bb_z1 (yok v) (F v))
    (hp : ∀ se, (∀ v, v < N → (¬ se v = 0 ↔ bb_Rch T F u v)) → post ((nI N), (nI L), ymx, ymq, ymi, (nI mv), yff, yA, yB, yC, ykd, ylf, yfl, yrt, ycl, yfi, yok, se, yde, yst, ytr)) : wpY_walk post ((nI N), (nI L), ymx, ymq, ymi, (nI mv), yff, yA, yB, yC, ykd, ylf, yfl, yrt, ycl, yfi, yok, yse, yde, yst, ytr) (nI u) := by
  unfold wpY_walk
  dsimp only
  refine loop_0 (fun n i (s : Nat → Int32) => wY_walk_2 post (nI u) (nI N) (nI L) ymx ymq ymi (nI mv) yff n (nI i) yA yB yC ykd ylf yfl yrt ycl yfi yok s yde yst ytr) (fun i s => ∀ v, v < i → (¬ s v = 0 ↔ v = u ∧ F v)) N yse (fun v h => absurd h (Nat.not_lt_zero _)) ?_ ?_
  · intro n s h
    refine br_t (nI_le (Nat.le_refl _) (by omega)) ?_
    refine loop_0 (fun n i (s : Nat → Int32) => wY_walk_43 post (nI N) (nI L) ymx ymq ymi (nI mv) yff n (nI i) yA yB yC ykd ylf yfl yrt ycl yfi yok s yde yst ytr) (fun i s => bb_WI N T F u i (bb_p s)) N s ?_ ?_ ?_
    · refine ⟨fun v hv p => ?_, fun f => bb_p_t.mpr ((h u hu).mpr ⟨rfl, f⟩), Or.inr (Nat.zero_le _)⟩
      obtain ⟨e, f⟩ := (h v hv).mp (bb_p_t.mp p)
      rw [e] at f ⊢
      exact bb_rch_0 f
    · intro n s h
      refine br_t (nI_le (Nat.le_refl _) (by omega)) (hp s fun v hv => ?_)
      rw [← bb_p_t]
      exact bb_WI_N h hv
    · intro n i s hi h ih
      exact br_f (nI_ge hi (by omega)) (by_w53 hT hN hL hv hu hF h (fun se q => ih se q))
  · intro n i s hi h ih
    refine br_f (nI_ge hi (by omega)) ?_
    rw [nI_clamp (n := i) (by omega)]
    have v3 := vp_in_nI (n := i) (N := 12) (by omega) (by decide)
    have nx : ∀ x : Int32, (¬ x = 0 ↔ i = u ∧ F i) → ∀ v, v < i + 1 → (¬ upd s i x v = 0 ↔ v = u ∧ F v) := by
      intro x hx v hv
      by_cases e : v = i
      · rw [e, pk_us]; exact hx
      · rw [pk_un e]; exact h v (by omega)
    refine pk_eq i u (fun e => ⟨v3, br_c (fun z => ⟨v3, nm_r (congrArg (upd s i) bb_n0) (nm_r (nI_1 i) (ih _ (nx 0 ?_)))⟩) (fun z => ⟨v3, nm_r (congrArg (upd s i) bb_n1) (nm_r (nI_1 i) (ih _ (nx 1 ?_)))⟩)⟩) (fun e => ⟨v3, nm_r (congrArg (upd s i) bb_n0) (nm_r (nI_1 i) (ih _ (nx 0 ?_)))⟩)
    · exact ⟨fun q => absurd rfl q, fun q => absurd q.2 ((bb_z1_f (hF i hi)).mp z)⟩
    · exact ⟨fun _ => ⟨e, (bb_z1_t (hF i hi)).mp z⟩, fun _ => by decide⟩
    · exact ⟨fun q => absurd rfl q, fun q => absurd q.1 e⟩
def by_LJ (N : Nat) (T : Nat → Nat → Nat → Prop) (F : Nat → Prop) (se0 : Nat → Int32) (u : Nat) (se : Nat → Int32) : Prop :=
  (∀ s, s < N → se s = 0 ∨ se s = 1) ∧ (∀ s, s < N → bb_p se s = true → bb_p se0 s = true) ∧ (∀ s, s < N → bb_Div T F s → bb_p se s = true) ∧
  (∀ s, s < u → s < N → bb_p se s = true → ∃ w, T 0 s w ∧ bb_p se0 w = true) ∧ (∀ s, u ≤ s → s < N → bb_p se s = bb_p se0 s) ∧ (bb_LC N T (bb_p se0) → ∀ s, s < N → bb_p se0 s = true → bb_p se s = true)
theorem by_LJ_s {F : Nat → Prop} {se0 se : Nat → Int32} {u : Nat} {x : Int32} (hb : ∀ a s t, T a s t → s < N ∧ t < N) (h : by_LJ N T F se0 u se) (hu : u < N) (h01 : x = 0 ∨ x = 1) (hx : ¬ x = 0 ↔ (¬ se u = 0 ∧ ∃ w, T 0 u w ∧ ¬ se w = 0)) : by_LJ N T F se0 (u + 1) (upd se u x) := by
  obtain ⟨h1, h2, h3, h4, h5, h6⟩ := h
  have ku : bb_p (upd se u x) u = true ↔ (bb_p se u = true ∧ ∃ w, T 0 u w ∧ bb_p se w = true) := by
    rw [bb_p_t, pk_us, hx, bb_p_t]
    exact ⟨fun q => ⟨q.1, by obtain ⟨w, m, p⟩ := q.2; exact ⟨w, m, bb_p_t.mpr p⟩⟩, fun q => ⟨q.1, by obtain ⟨w, m, p⟩ := q.2; exact ⟨w, m, bb_p_t.mp p⟩⟩⟩
  have kn : ∀ s, s ≠ u → bb_p (upd se u x) s = bb_p se s := by
    intro s e
    unfold bb_p
    rw [pk_un e]
  refine ⟨?_, ?_, ?_, ?_, ?_, ?_⟩
  · intro s hs
    by_cases e : s = u
    · rw [e, pk_us]; exact h01
    · rw [pk_un e]; exact h1 s hs
  · intro s hs p
    by_cases e : s = u
    · subst e
      exact h2 s hs (ku.mp p).1
    · rw [kn s e] at p
      exact h2 s hs p
  · intro s hs d
    by_cases e : s = u
    · subst e
      obtain ⟨w, m, d'⟩ := bb_div_s d
      exact ku.mpr ⟨h3 s hs d, w, m, h3 w (hb _ _ _ m).2 d'⟩
    · rw [kn s e]
      exact h3 s hs d
  · intro s hs hs2 p
    by_cases e : s = u
    · subst e
      obtain ⟨w, m, p'⟩ := (ku.mp p).2
      exact ⟨w, m, h2 w (hb _ _ _ m).2 p'⟩
    · rw [kn s e] at p
      exact h4 s (by omega) hs2 p
  · intro s hs hs2
    rw [kn s (by omega)]
    exact h5 s (by omega) hs2
  · intro c s hs p
    by_cases e : s = u
    · subst e
      obtain ⟨w, m, p'⟩ := c s hs p
      exact ku.mpr ⟨h6 c s hs p, w, m, h6 c w (hb _ _ _ m).2 p'⟩
    · rw [kn s e]
      exact h6 c s hs p
theorem by_l53 {post : SY → Prop} {J30 J40 : Int32 → (Nat → Int32) → (Nat → Int32) → (Nat → Int32) → (Nat → Int32) → (Nat → Int32) → (Nat → Int32) → (Nat → Int32) → (Nat → Int32) → (Nat → Int32) → (Nat → Int32) → (Nat → Int32) → (Nat → Int32) → (Nat → Int32) → (Nat → Int32) → Prop}
    {x1 : Int32} {u : Nat} (hT : by_T N L T mv yA yB yC) (hN : N ≤ 12) (hL : L ≤ 3) (hv : mv ≤ 32) (hu : u < N)
    (hJ : ∀ x : Int32, (x = 0 ∨ x = 1) → (¬ x = 0 ↔ (¬ yse u = 0 ∧ ∃ w, T 0 u w ∧ ¬ yse w = 0)) → J40 (nI (u + 1)) yA yB yC ykd ylf yfl yrt ycl yfi yok (upd yse u x) yde yst ytr) : ∃ n, wY_linger_53 post J30 J40 x1 (nI u) (nI N) (nI L) ymx ymq ymi (nI mv) yff yA yB yC ykd ylf yfl yrt ycl yfi yok yse yde yst ytr n 0 0 := by
  refine loop_0 (fun n i (s : Int32) => wY_linger_53 post J30 J40 x1 (nI u) (nI N) (nI L) ymx ymq ymi (nI mv) yff yA yB yC ykd ylf yfl yrt ycl yfi yok yse yde yst ytr n s (nI i)) (fun i s => ¬ s = 0 ↔ ∃ j w, j < i ∧ yA j = nI u ∧ yB j = nI 0 ∧ yC j = nI w ∧ w < N ∧ ¬ yse w = 0) mv 0 ?_ ?_ ?_
  · refine ⟨fun q => absurd rfl q, fun q => ?_⟩
    obtain ⟨j, w, hj, _⟩ := q
    omega
  · intro n s h
    have h' : ¬ s = 0 ↔ ∃ w, T 0 u w ∧ ¬ yse w = 0 := by
      rw [h]
      constructor
      · rintro ⟨j, w, hj, e1, e2, e3, hw, z⟩
        obtain ⟨x', a', w', f1, f2, f3, m⟩ := hT.1 j hj
        have b := hT.2.2 _ _ _ m
        rw [e1, nI_eq (by omega) (by omega)] at f1
        rw [e2, nI_eq (by omega) (by omega)] at f2
        rw [e3, nI_eq (by omega) (by omega)] at f3
        subst f1 f2 f3
        exact ⟨w, m, z⟩
      · rintro ⟨w, m, z⟩
        obtain ⟨j, hj, e1, e2, e3⟩ := hT.2.1 _ _ _ m
        exact ⟨j, w, hj, e1, e2, e3, (hT.2.2 _ _ _ m).2.2, z⟩
    have v3 := vp_in_nI (n := u) (N := 12) (by omega) (by decide)
    refine br_t (nI_le (Nat.le_refl _) (by omega)) ?_
    rw [nI_clamp (n := u) (by omega)]
    refine ⟨v3, br_c (fun z => ⟨v3, nm_r (congrArg (upd yse u) bb_n0) (nm_r (nI_1 u) (hJ 0 (Or.inl rfl) ?_))⟩) (fun z => br_c (fun z2 => ⟨v3, nm_r (congrArg (upd yse u) bb_n0) (nm_r (nI_1 u) (hJ 0 (Or.inl rfl) ?_))⟩) (fun z2 => ⟨v3, nm_r (congrArg (upd yse u) bb_n1) (nm_r (nI_1 u) (hJ 1 (Or.inr rfl) ?_))⟩))⟩
    · exact ⟨fun q => absurd rfl q, fun q => absurd z q.1⟩
    · exact ⟨fun q => absurd rfl q, fun q => absurd z2 (h'.mpr q.2)⟩
    · exact ⟨fun _ => ⟨z, h'.mp z2⟩, fun _ => by decide⟩
  · intro n i s hi h ih
    refine br_f (nI_ge hi (by omega)) ?_
    obtain ⟨x, a, w, eA, eB, eC, m⟩ := hT.1 i hi
    have b := hT.2.2 _ _ _ m
    rw [nI_clamp (n := i) (by omega), eA, eB, eC, nI_clamp (n := w) (by omega)]
    have v1 := vp_in_nI (n := i) (N := 32) (by omega) (by decide)
    have v3 := vp_in_nI (n := w) (N := 12) (by omega) (by decide)
    have keep : (a = 0 → x = u → ¬ yse w = 0 → False) → (¬ s = 0 ↔ ∃ j w, j < i + 1 ∧ yA j = nI u ∧ yB j = nI 0 ∧ yC j = nI w ∧ w < N ∧ ¬ yse w = 0) := by
      intro hn
      rw [h]
      constructor
      · rintro ⟨j, w', hj, q⟩
        exact ⟨j, w', by omega, q⟩
      · rintro ⟨j, w', hj, q⟩
        by_cases e : j = i
        · subst e
          rw [eA, eB, eC, nI_eq (by omega) (by omega), nI_eq (by omega) (by omega)] at q
          have e3 := q.2.2.1
          have hw' := q.2.2.2.1
          rw [nI_eq (by omega) (by omega)] at e3
          subst e3
          exact (hn q.2.1 q.1 q.2.2.2.2).elim
        · exact ⟨j, w', by omega, q⟩
    refine ⟨v1, pk_eq a 0 (fun e0 => ⟨v1, pk_eq x u (fun e1 => ⟨v1, v3, br_c (fun z => nm_r (nI_1 i) (ih s (keep fun _ _ q => q z))) (fun z => nm_r (nI_1 i) (ih 1 ?_))⟩) (fun e1 => nm_r (nI_1 i) (ih s (keep fun _ q _ => e1 q)))⟩) (fun e0 => nm_r (nI_1 i) (ih s (keep fun q _ _ => e0 q)))⟩
    subst e0 e1
    exact ⟨fun _ => ⟨i, w, by omega, eA, eB, eC, b.2.2, z⟩, fun _ => by decide⟩
theorem by_ling {post : SY → Prop} {F : Nat → Prop} (hT : by_T N L T mv yA yB yC) (hN : N ≤ 12) (hL : L ≤ 3) (hv : mv ≤ 32) (hF : ∀ v, v < N → bb_z1 (yok v) (F v))
    (hp : ∀ se, (∀ v, v < N → bb_z1 (se v) (bb_Div T F v)) → post ((nI N), (nI L), ymx, ymq, ymi, (nI mv), yff, yA, yB, yC, ykd, ylf, yfl, yrt, ycl, yfi, yok, se, yde, yst, ytr)) : wpY_linger post ((nI N), (nI L), ymx, ymq, ymi, (nI mv), yff, yA, yB, yC, ykd, ylf, yfl, yrt, ycl, yfi, yok, yse, yde, yst, ytr) := by
  have hb : ∀ a s t, T a s t → s < N ∧ t < N := fun a s t m => (hT.2.2 a s t m).2
  unfold wpY_linger
  dsimp only
  refine loop_0 (fun n i (s : Nat → Int32) => wY_linger_2 post (nI N) (nI L) ymx ymq ymi (nI mv) yff n (nI i) yA yB yC ykd ylf yfl yrt ycl yfi yok s yde yst ytr) (fun i s => ∀ v, v < i → bb_z1 (s v) (F v)) N yse (fun v h => absurd h (Nat.not_lt_zero _)) ?_ ?_
  · intro n s h
    refine br_t (nI_le (Nat.le_refl _) (by omega)) ?_
    refine loop_0 (fun n i (s : Nat → Int32) => wY_linger_30 post (nI N) (nI L) ymx ymq ymi (nI mv) yff n (nI i) yA yB yC ykd ylf yfl yrt ycl yfi yok s yde yst ytr) (fun i s => (∀ v, v < N → s v = 0 ∨ s v = 1) ∧ bb_LI N T F i (bb_p s)) N s ?_ ?_ ?_
    · refine ⟨fun v hv => ?_, fun v hv p => ?_, fun v hv d => ?_, Or.inr (bb_cn_le _ _)⟩
      · rcases h v hv with q | q
        · exact Or.inr q.1
        · exact Or.inl q.1
      · exact (bb_z1_t (h v hv)).mp (bb_p_t.mp p)
      · exact bb_p_t.mpr ((bb_z1_t (h v hv)).mpr (bb_div_F d))
    · intro n s ⟨h01, h⟩
      refine br_t (nI_le (Nat.le_refl _) (by omega)) (hp s fun v hv => ?_)
      have q := bb_LI_N hb h hv
      rw [bb_p_t] at q
      rcases h01 v hv with e | e
      · exact Or.inr ⟨e, fun d => q.mpr d e⟩
      · exact Or.inl ⟨e, q.mp (by rw [e]; decide)⟩
    · intro n i s hi ⟨h01, h⟩ ih
      refine br_f (nI_ge hi (by omega)) ?_
      refine loop_0 (fun m j (s' : Nat → Int32) => wY_linger_40 post (wY_linger_30 post (nI N) (nI L) ymx ymq ymi (nI mv) yff n) (nI i) (nI N) (nI L) ymx ymq ymi (nI mv) yff m (nI j) yA yB yC ykd ylf yfl yrt ycl yfi yok s' yde yst ytr) (fun j s' => by_LJ N T F s j s') N s ?_ ?_ ?_
      · exact ⟨h01, fun _ _ p => p, h.2.1, fun s hs => absurd hs (Nat.not_lt_zero _), fun _ _ _ => rfl, fun _ _ _ p => p⟩
      · intro m s' h'
        obtain ⟨h1, h2, h3, h4, h5, h6⟩ := h'
        exact br_t (nI_le (Nat.le_refl _) (by omega)) (nm_r (nI_1 i) (ih s' ⟨h1, bb_LI_s hb h h2 h3 (fun s hs p => h4 s hs hs p) h6⟩))
      · intro m j s' hj h' ih'
        exact br_f (nI_ge hj (by omega)) (by_l53 hT hN hL hv hj (fun x h01 hx => ih' _ (by_LJ_s hb h' hj h01 hx)))
  · intro n i s hi h ih
    refine br_f (nI_ge hi (by omega)) ?_
    rw [nI_clamp (n := i) (by omega)]
    have v3 := vp_in_nI (n := i) (N := 12) (by omega) (by decide)
    refine ⟨v3, v3, nm_r (congrArg (upd s i) (bb_z1_n (hF i hi))) (nm_r (nI_1 i) (ih _ ?_))⟩
    intro v hv
    by_cases e : v = i
    · rw [e, pk_us]; exact hF i hi
    · rw [pk_un e]; exact h v (by omega)
theorem by_al {post : SY → Prop} {x : Int32} (hN : N ≤ 12) (hp : ∀ ok, (∀ v, v < N → bb_z1 (ok v) (ycl v = x)) → post ((nI N), (nI L), ymx, ymq, ymi, (nI mv), yff, yA, yB, yC, ykd, ylf, yfl, yrt, ycl, yfi, ok, yse, yde, yst, ytr)) : wpY_allowClass post ((nI N), (nI L), ymx, ymq, ymi, (nI mv), yff, yA, yB, yC, ykd, ylf, yfl, yrt, ycl, yfi, yok, yse, yde, yst, ytr) x := by
  unfold wpY_allowClass
  dsimp only
  refine loop_0 (fun n i (s : Nat → Int32) => wY_allowClass_2 post x (nI N) (nI L) ymx ymq ymi (nI mv) yff n (nI i) yA yB yC ykd ylf yfl yrt ycl yfi s yse yde yst ytr) (fun i s => ∀ v, v < i → bb_z1 (s v) (ycl v = x)) N yok (fun v h => absurd h (Nat.not_lt_zero _)) ?_ ?_
  · intro n s h
    exact br_t (nI_le (Nat.le_refl _) (by omega)) (hp s h)
  · intro n i s hi h ih
    refine br_f (nI_ge hi (by omega)) ?_
    rw [nI_clamp (n := i) (by omega)]
    have v3 := vp_in_nI (n := i) (N := 12) (by omega) (by decide)
    have nx : ∀ y : Int32, bb_z1 y (ycl i = x) → ∀ v, v < i + 1 → bb_z1 (upd s i y v) (ycl v = x) := by
      intro y hy v hv
      by_cases e : v = i
      · rw [e, pk_us]; exact hy
      · rw [pk_un e]; exact h v (by omega)
    exact ⟨v3, br_c (fun z => ⟨v3, nm_r (congrArg (upd s i) bb_n1) (nm_r (nI_1 i) (ih _ (nx 1 (Or.inl ⟨rfl, z⟩))))⟩) (fun z => ⟨v3, nm_r (congrArg (upd s i) bb_n0) (nm_r (nI_1 i) (ih _ (nx 0 (Or.inr ⟨rfl, z⟩))))⟩)⟩
end
end
section
section
variable {T : Nat → Nat → Nat → Prop} {N L mv : Nat} {ymx ymq ymi yff : Int32} {yA yB yC ykd ylf yfl yrt ycl yfi yok yse yde yst ytr : Nat → Int32} {c : Nat → Nat}
def by_D (N : Nat) (T : Nat → Nat → Nat → Prop) (c : Nat → Nat) (s a k : Nat) : Prop := (a = 0 → k ≠ c s) ∧ bb_Unt T (bb_K N c (c s)) a (bb_K N c k) s
def by_C (N : Nat) (c : Nat → Nat) (cl : Nat → Int32) : Prop := ∀ v, v < N → cl v = nI (c v) ∧ c v < N
theorem bb_r48 (s i : Nat) : nI s * 48 + nI i = nI (s * 48 + i) := by
  show nI s * nI 48 + nI i = _
  rw [pk_mul, nI_add]
theorem bb_r3 (s a k : Nat) : nI s * 48 + nI a * 12 + nI k = nI (s * 48 + (a * 12 + k)) := by
  show nI s * nI 48 + nI a * nI 12 + nI k = _
  rw [pk_mul, pk_mul, nI_add, nI_add, Nat.add_assoc]
def by_E (N : Nat) (T : Nat → Nat → Nat → Prop) (c : Nat → Nat) (A B C : Nat → Int32) (s i a k : Nat) : Prop :=
  (a = 0 → k ≠ c s) ∧ ∃ j x w, j < i ∧ A j = nI x ∧ B j = nI a ∧ C j = nI w ∧ x < N ∧ w < N ∧ c w = k ∧ bb_Rch T (bb_K N c (c s)) s x
theorem by_E_D {s a k : Nat} {A B C : Nat → Int32} (hT : by_T N L T mv A B C) (hN : N ≤ 12) (hL : L ≤ 3) (ha : a ≤ 3) : by_E N T c A B C s mv a k ↔ by_D N T c s a k := by
  constructor
  · rintro ⟨h0, j, x, w, hj, e1, e2, e3, hx, hw, e, r⟩
    refine ⟨h0, bb_rch_unt.mpr ⟨x, w, r, ?_, hw, e⟩⟩
    obtain ⟨x', a', w', f1, f2, f3, m⟩ := hT.1 j hj
    have b := hT.2.2 _ _ _ m
    rw [e1, nI_eq (by omega) (by omega)] at f1
    rw [e2, nI_eq (by omega) (by omega)] at f2
    rw [e3, nI_eq (by omega) (by omega)] at f3
    subst f1 f2 f3
    exact m
  · rintro ⟨h0, u⟩
    obtain ⟨x, w, r, m, q⟩ := bb_rch_unt.mp u
    obtain ⟨j, hj, e1, e2, e3⟩ := hT.2.1 _ _ _ m
    have b := hT.2.2 _ _ _ m
    exact ⟨h0, j, x, w, hj, e1, e2, e3, b.2.1, b.2.2, q.2, r⟩
def by_Dd (N : Nat) (T : Nat → Nat → Nat → Prop) (c : Nat → Nat) (de : Nat → Int32) (s : Nat) : Prop := ∀ a k, a ≤ 3 → k < 12 → bb_z1 (de (s * 48 + (a * 12 + k))) (by_D N T c s a k)
def by_Ds (N : Nat) (T : Nat → Nat → Nat → Prop) (c : Nat → Nat) (st : Nat → Int32) (s : Nat) : Prop := bb_z1 (st s) (bb_Div T (bb_K N c (c s)) s)
theorem by_d43 {post : SY → Prop} {s : Nat} (hT : by_T N L T mv yA yB yC) (hN : N ≤ 12) (hL : L ≤ 3) (hv : mv ≤ 32) (hs : s < N) (hC : by_C N c ycl) (hok : ∀ v, v < N → bb_z1 (yok v) (bb_K N c (c s) v)) (hse : ∀ v, v < N → (¬ yse v = 0 ↔ bb_Rch T (bb_K N c (c s)) s v)) (hd : ∀ q, q < 48 → yde (s * 48 + q) = 0)
    (hp : ∀ se de st, by_Dd N T c de s → (∀ j, (j < s * 48 ∨ s * 48 + 48 ≤ j) → de j = yde j) → by_Ds N T c st s → (∀ j, j ≠ s → st j = yst j) → post ((nI N), (nI L), ymx, ymq, ymi, (nI mv), yff, yA, yB, yC, ykd, ylf, yfl, yrt, ycl, yfi, yok, se, de, st, ytr)) : ∃ n, wY_describe_43 post (nI s) (nI N) (nI L) ymx ymq ymi (nI mv) yff n 0 yA yB yC ykd ylf yfl yrt ycl yfi yok yse yde yst ytr := by
  refine loop_0 (fun n i (d : Nat → Int32) => wY_describe_43 post (nI s) (nI N) (nI L) ymx ymq ymi (nI mv) yff n (nI i) yA yB yC ykd ylf yfl yrt ycl yfi yok yse d yst ytr) (fun i d => (∀ a k, a ≤ 3 → k < 12 → bb_z1 (d (s * 48 + (a * 12 + k))) (by_E N T c yA yB yC s i a k)) ∧ ∀ j, (j < s * 48 ∨ s * 48 + 48 ≤ j) → d j = yde j) mv yde ?_ ?_ ?_
  · refine ⟨fun a k ha hk => Or.inr ⟨hd _ (by omega), ?_⟩, fun _ _ => rfl⟩
    rintro ⟨_, j, x, w, hj, _⟩
    omega
  · intro n d ⟨h1, h2⟩
    refine br_t (nI_le (Nat.le_refl _) (by omega)) (by_ling hT hN hL hv hok (fun se' hse' => ?_))
    have v3 := vp_in_nI (n := s) (N := 12) (by omega) (by decide)
    rw [nI_clamp (n := s) (by omega)]
    refine ⟨v3, v3, nm_r (congrArg (upd yst s) (bb_z1_n (hse' s hs))) (hp se' d _ ?_ h2 ?_ ?_)⟩
    · intro a k ha hk
      exact bb_z1_c (h1 a k ha hk) (by_E_D hT hN hL ha)
    · unfold by_Ds
      rw [pk_us]
      exact hse' s hs
    · intro j e
      rw [pk_un e]
  · intro n i d hi ⟨h1, h2⟩ ih
    refine br_f (nI_ge hi (by omega)) ?_
    obtain ⟨x, a, w, eA, eB, eC, m⟩ := hT.1 i hi
    have b := hT.2.2 _ _ _ m
    have cw := hC w b.2.2
    rw [nI_clamp (n := i) (by omega), eA, eC, nI_clamp (n := x) (by omega), nI_clamp (n := w) (by omega)]
    have v1 := vp_in_nI (n := i) (N := 32) (by omega) (by decide)
    have v2 := vp_in_nI (n := x) (N := 12) (by omega) (by decide)
    have v3 := vp_in_nI (n := w) (N := 12) (by omega) (by decide)
    have v4 := vp_in_nI (n := s) (N := 12) (by omega) (by decide)
    have keep : ((a = 0 → c w ≠ c s) → bb_Rch T (bb_K N c (c s)) s x → False) → wY_describe_43 post (nI s) (nI N) (nI L) ymx ymq ymi (nI mv) yff n (nI (i + 1)) yA yB yC ykd ylf yfl yrt ycl yfi yok yse d yst ytr := by
      intro hn
      refine ih d ⟨fun a' k' ha hk => bb_z1_c (h1 a' k' ha hk) ?_, h2⟩
      constructor
      · rintro ⟨q0, j, x', w', hj, q⟩
        exact ⟨q0, j, x', w', by omega, q⟩
      · rintro ⟨q0, j, x', w', hj, q1, q2, q3, q4, q5, q6, q7⟩
        by_cases e : j = i
        · subst e
          rw [eA, nI_eq (by omega) (by omega)] at q1
          rw [eB, nI_eq (by omega) (by omega)] at q2
          rw [eC, nI_eq (by omega) (by omega)] at q3
          subst q1 q2 q3
          rw [← q6] at q0
          exact (hn q0 q7).elim
        · exact ⟨q0, j, x', w', by omega, q1, q2, q3, q4, q5, q6, q7⟩
    have add : (a = 0 → c w ≠ c s) → bb_Rch T (bb_K N c (c s)) s x → wY_describe_97 post (wY_describe_43 post (nI s) (nI N) (nI L) ymx ymq ymi (nI mv) yff n) (nI s) (nI i) (nI (c w)) (nI N) (nI L) ymx ymq ymi (nI mv) yff yA yB yC ykd ylf yfl yrt ycl yfi yok yse d yst ytr := by
      intro hn r
      unfold wY_describe_97
      rw [nI_clamp (n := i) (by omega), eB, bb_r3, nI_clamp (n := s * 48 + (a * 12 + c w)) (by omega)]
      refine ⟨v1, vp_in_nI (by omega) (by decide), nm_r (congrArg (upd d _) bb_n1) (nm_r (nI_1 i) (ih _ ⟨fun a' k' ha hk => ?_, fun j hj => ?_⟩))⟩
      · by_cases e : a' = a ∧ k' = c w
        · obtain ⟨e1, e2⟩ := e
          subst e1 e2
          rw [pk_us]
          exact Or.inl ⟨rfl, hn, i, x, w, by omega, eA, eB, eC, b.2.1, b.2.2, rfl, r⟩
        · rw [pk_un (by omega)]
          refine bb_z1_c (h1 a' k' ha hk) ?_
          constructor
          · rintro ⟨q0, j, x', w', hj, q⟩
            exact ⟨q0, j, x', w', by omega, q⟩
          · rintro ⟨q0, j, x', w', hj, q1, q2, q3, q4, q5, q6, q7⟩
            by_cases e' : j = i
            · subst e'
              rw [eB, nI_eq (by omega) (by omega)] at q2
              rw [eC, nI_eq (by omega) (by omega)] at q3
              subst q2 q3
              exact absurd ⟨rfl, q6.symm⟩ e
            · exact ⟨q0, j, x', w', by omega, q1, q2, q3, q4, q5, q6, q7⟩
      · rw [pk_un (by omega)]
        exact h2 j hj
    refine ⟨v1, v3, nm_r cw.1 ⟨v1, v2, br_c (fun z => nm_r (nI_1 i) (keep fun _ r => ((hse x b.2.1).mpr r) z)) (fun z => ?_)⟩⟩
    have r := (hse x b.2.1).mp z
    rw [eB, nI_clamp (n := s) (by omega), (hC s hs).1]
    have hcs := (hC s hs).2
    have hcw := cw.2
    exact ⟨v1, pk_le 1 a (fun z2 => add (fun z3 => by omega) r) (fun z2 => ⟨v4, pk_eq (c w) (c s) (fun z3 => nm_r (nI_1 i) (keep fun q _ => q (by omega) z3)) (fun z3 => add (fun _ => z3) r)⟩)⟩
theorem by_desc {post : SY → Prop} {s : Nat} (hT : by_T N L T mv yA yB yC) (hN : N ≤ 12) (hL : L ≤ 3) (hv : mv ≤ 32) (hs : s < N) (hC : by_C N c ycl)
    (hp : ∀ ok se de st, by_Dd N T c de s → (∀ j, (j < s * 48 ∨ s * 48 + 48 ≤ j) → de j = yde j) → by_Ds N T c st s → (∀ j, j ≠ s → st j = yst j) → post ((nI N), (nI L), ymx, ymq, ymi, (nI mv), yff, yA, yB, yC, ykd, ylf, yfl, yrt, ycl, yfi, ok, se, de, st, ytr)) : wpY_describe post ((nI N), (nI L), ymx, ymq, ymi, (nI mv), yff, yA, yB, yC, ykd, ylf, yfl, yrt, ycl, yfi, yok, yse, yde, yst, ytr) (nI s) := by
  unfold wpY_describe
  dsimp only
  rw [nI_clamp (n := s) (by omega), (hC s hs).1]
  have hcs := (hC s hs).2
  refine ⟨vp_in_nI (by omega) (by decide), by_al hN (fun ok hok => ?_)⟩
  have hF : ∀ v, v < N → bb_z1 (ok v) (bb_K N c (c s) v) := by
    intro v hv
    have hcv := hC v hv
    refine bb_z1_c (hok v hv) ?_
    rw [hcv.1, nI_eq (by omega) (by omega)]
    exact ⟨fun e => ⟨hv, e⟩, fun e => e.2⟩
  refine by_walk hT hN hL hv hs hF (fun se hse => ?_)
  refine loop_0 (fun n i (d : Nat → Int32) => wY_describe_17 post (nI s) (nI N) (nI L) ymx ymq ymi (nI mv) yff n (nI i) yA yB yC ykd ylf yfl yrt ycl yfi ok se d yst ytr) (fun i d => (∀ q, q < i → d (s * 48 + q) = 0) ∧ ∀ j, (j < s * 48 ∨ s * 48 + 48 ≤ j) → d j = yde j) 48 yde ?_ ?_ ?_
  · exact ⟨fun q h => absurd h (Nat.not_lt_zero _), fun _ _ => rfl⟩
  · intro n d ⟨h1, h2⟩
    refine br_t (nI_le (a := 48) (b := 48) (Nat.le_refl _) (by decide)) (by_d43 hT hN hL hv hs hC hF hse h1 (fun se' de' st' q1 q2 q3 q4 => hp ok se' de' st' q1 (fun j hj => (q2 j hj).trans (h2 j hj)) q3 q4))
  · intro n i d hi ⟨h1, h2⟩ ih
    refine br_f (nI_ge (b := 48) hi (by decide)) ?_
    rw [bb_r48, nI_clamp (n := s * 48 + i) (by omega)]
    refine ⟨vp_in_nI (by omega) (by decide), nm_r (congrArg (upd d _) bb_n0) (nm_r (nI_1 i) (ih _ ⟨fun q hq => ?_, fun j hj => ?_⟩))⟩
    · by_cases e : q = i
      · rw [e, pk_us]
      · rw [pk_un (by omega)]; exact h1 q (by omega)
    · rw [pk_un (by omega)]
      exact h2 j hj
theorem by_untF {F : Nat → Prop} {s a k : Nat} (hb : ∀ a s t, T a s t → a ≤ L ∧ s < N ∧ t < N) (hN : N ≤ 12) (hL : L ≤ 3) (hC : by_C N c ycl) (h : ¬ (a ≤ 3 ∧ k < 12)) : ¬ bb_Unt T F a (bb_K N c k) s := by
  intro u
  refine u (fun _ => False) ?_ (fun _ _ _ _ z => z)
  intro v t _ m q
  have b := hb _ _ _ m
  have ct := (hC t q.1).2
  have := q.2
  omega
theorem by_alike {post : Int32 → Prop} {s t : Nat} (hb : ∀ a s t, T a s t → a ≤ L ∧ s < N ∧ t < N) (hN : N ≤ 12) (hL : L ≤ 3) (hs : s < N) (ht : t < N) (hC : by_C N c ycl) (d1 : by_Dd N T c yde s) (d2 : by_Dd N T c yde t) (s1 : by_Ds N T c yst s) (s2 : by_Ds N T c yst t)
    (h1 : bb_Al N T c s t → post 1) (h0 : ¬ bb_Al N T c s t → post 0) : wpY_alike post ((nI N), (nI L), ymx, ymq, ymi, (nI mv), yff, yA, yB, yC, ykd, ylf, yfl, yrt, ycl, yfi, yok, yse, yde, yst, ytr) (nI s) (nI t) := by
  unfold wpY_alike
  dsimp only
  have v1 := vp_in_nI (n := s) (N := 12) (by omega) (by decide)
  have v2 := vp_in_nI (n := t) (N := 12) (by omega) (by decide)
  rw [nI_clamp (n := s) (by omega), nI_clamp (n := t) (by omega), (hC s hs).1, (hC t ht).1]
  have hcs := (hC s hs).2
  have hct := (hC t ht).2
  refine ⟨v1, v2, pk_eq (c s) (c t) (fun e => ⟨v1, v2, br_c (fun e2 => ?_) (fun e2 => h0 fun q => e2 ((bb_z1_e s1 s2).mpr q.2.1))⟩) (fun e => h0 fun q => e q.1)⟩
  have e3 := (bb_z1_e s1 s2).mp e2
  refine loop_0 (fun n i (_ : Unit) => wY_alike_34 post (nI s) (nI t) (nI N) (nI L) ymx ymq ymi (nI mv) yff yA yB yC ykd ylf yfl yrt ycl yfi yok yse yde yst ytr n (nI i)) (fun i _ => ∀ q, q < i → (by_D N T c s (q / 12) (q % 12) ↔ by_D N T c t (q / 12) (q % 12))) 48 () (fun q h => absurd h (Nat.not_lt_zero _)) ?_ ?_
  · intro n _ h
    refine br_t (nI_le (a := 48) (b := 48) (Nat.le_refl _) (by decide)) (h1 ⟨e, e3, fun a k hk => ?_⟩)
    by_cases hr : a ≤ 3 ∧ k < 12
    · have q := h (a * 12 + k) (by omega)
      have q1 : (a * 12 + k) / 12 = a := by omega
      have q2 : (a * 12 + k) % 12 = k := by omega
      rw [q1, q2] at q
      have hk' : a = 0 → k ≠ c t := by rw [← e]; exact hk
      exact ⟨fun u => (q.mp ⟨hk, u⟩).2, fun u => (q.mpr ⟨hk', u⟩).2⟩
    · exact ⟨fun u => absurd u (by_untF hb hN hL hC hr), fun u => absurd u (by_untF hb hN hL hC hr)⟩
  · intro n i _ hi h ih
    refine br_f (nI_ge (b := 48) hi (by decide)) ?_
    rw [bb_r48, bb_r48, nI_clamp (n := s * 48 + i) (by omega), nI_clamp (n := t * 48 + i) (by omega)]
    have ei : i / 12 * 12 + i % 12 = i := by omega
    have z1 := d1 (i / 12) (i % 12) (by omega) (by omega)
    have z2 := d2 (i / 12) (i % 12) (by omega) (by omega)
    rw [ei] at z1 z2
    refine ⟨vp_in_nI (by omega) (by decide), vp_in_nI (by omega) (by decide), br_c (fun z => nm_r (nI_1 i) (ih () fun q hq => ?_)) (fun z => h0 fun al => z ((bb_z1_e z1 z2).mpr ?_))⟩
    · by_cases eq : q = i
      · rw [eq]; exact (bb_z1_e z1 z2).mp z
      · exact h q (by omega)
    · constructor
      · rintro ⟨p1, p2⟩
        exact ⟨by rw [← e]; exact p1, (al.2.2 _ _ p1).mp p2⟩
      · rintro ⟨p1, p2⟩
        rw [← e] at p1
        exact ⟨p1, (al.2.2 _ _ p1).mpr p2⟩
theorem by_bc14 {post : Int32 → Prop} (hN : N ≤ 12) (hC : by_C N c ycl) (hp : post (nI (bb_cn (bb_ldr c) N))) : ∃ n, wY_blockCount_14 post (nI N) (nI L) ymx ymq ymi (nI mv) yff yA yB yC ykd ylf yfl yrt ycl yfi yok yse yde yst ytr n 0 0 := by
  refine loop_0 (fun n i (s : Nat) => wY_blockCount_14 post (nI N) (nI L) ymx ymq ymi (nI mv) yff yA yB yC ykd ylf yfl yrt ycl yfi yok yse yde yst ytr n (nI s) (nI i)) (fun i s => s = bb_cn (bb_ldr c) i) N 0 rfl ?_ ?_
  · intro n s h
    subst h
    exact br_t (nI_le (Nat.le_refl _) (by omega)) hp
  · intro n i s hi h ih
    refine br_f (nI_ge hi (by omega)) ?_
    have ci := hC i hi
    rw [nI_clamp (n := i) (by omega), ci.1]
    have hci := ci.2
    refine ⟨vp_in_nI (by omega) (by decide), pk_eq (c i) i (fun e => nm_r (nI_1 s) (nm_r (nI_1 i) (ih (s + 1) ?_))) (fun e => nm_r (nI_1 i) (ih s ?_))⟩
    · rw [bb_cn_t (decide_eq_true e), h]
    · rw [bb_cn_f (fun z => e (of_decide_eq_true z)), h]
end
end
section
section
variable {T : Nat → Nat → Nat → Prop} {N L mv : Nat} {ymx ymq ymi yff : Int32} {yA yB yC ykd ylf yfl yrt ycl yfi yok yse yde yst ytr : Nat → Int32} {c : Nat → Nat}
def by_Fi (N : Nat) (T : Nat → Nat → Nat → Prop) (c : Nat → Nat) (fi : Nat → Int32) (s : Nat) : Prop := ∃ f, fi s = nI f ∧ f ≤ s ∧ bb_Al N T c s f ∧ ∀ t, t < f → ¬ bb_Al N T c s t
theorem by_m85 {post : Int32 → SY → Prop} {J35 : Int32 → Int32 → Int32 → Int32 → Int32 → Int32 → Int32 → Int32 → (Nat → Int32) → (Nat → Int32) → (Nat → Int32) → (Nat → Int32) → (Nat → Int32) → (Nat → Int32) → (Nat → Int32) → (Nat → Int32) → (Nat → Int32) → (Nat → Int32) → (Nat → Int32) → (Nat → Int32) → (Nat → Int32) → (Nat → Int32) → Prop}
    {J66 : Int32 → (Nat → Int32) → (Nat → Int32) → (Nat → Int32) → (Nat → Int32) → (Nat → Int32) → (Nat → Int32) → (Nat → Int32) → (Nat → Int32) → (Nat → Int32) → (Nat → Int32) → (Nat → Int32) → (Nat → Int32) → (Nat → Int32) → (Nat → Int32) → Prop}
    {x1 : Int32} {s : Nat} (hb : ∀ a s t, T a s t → a ≤ L ∧ s < N ∧ t < N) (hN : N ≤ 12) (hL : L ≤ 3) (hs : s < N) (hC : by_C N c ycl) (hD : ∀ s, s < N → by_Dd N T c yde s) (hS : ∀ s, s < N → by_Ds N T c yst s) (h0 : yfi s = nI s)
    (hJ : ∀ fi, by_Fi N T c fi s → (∀ j, j ≠ s → fi j = yfi j) → J66 (nI (s + 1)) yA yB yC ykd ylf yfl yrt ycl fi yok yse yde yst ytr) : ∃ n, wY_minimise_85 post J35 J66 x1 (nI s) (nI N) (nI L) ymx ymq ymi (nI mv) yff n (nI s + (-1)) yA yB yC ykd ylf yfl yrt ycl yfi yok yse yde yst ytr := by
  refine ⟨s + 1, pk_loopD (fun n i (fi : Nat → Int32) => wY_minimise_85 post J35 J66 x1 (nI s) (nI N) (nI L) ymx ymq ymi (nI mv) yff n (nI i + (-1)) yA yB yC ykd ylf yfl yrt ycl fi yok yse yde yst ytr) (fun i fi => i ≤ s ∧ (∃ f, fi s = nI f ∧ i ≤ f ∧ f ≤ s ∧ bb_Al N T c s f ∧ ∀ t, i ≤ t → t < f → ¬ bb_Al N T c s t) ∧ ∀ j, j ≠ s → fi j = yfi j) ?_ ?_ s yfi ?_⟩
  · rintro n fi ⟨_, ⟨f, e, _, h1, h2, h3⟩, h4⟩
    exact br_t (by decide) (nm_r (nI_1 s) (hJ fi ⟨f, e, h1, h2, fun t ht => h3 t (Nat.zero_le _) ht⟩ h4))
  · rintro n i fi ⟨hi, ⟨f, e, h0', h1, h2, h3⟩, h4⟩ ih
    rw [pk_m1]
    refine br_f (nI_pos (by omega)) (by_alike hb hN hL hs (by omega) hC (hD s hs) (hD i (by omega)) (hS s hs) (hS i (by omega)) (fun q => br_f (by decide) ?_) (fun q => br_t rfl (nm_e (ih fi ⟨by omega, ⟨f, e, by omega, h1, h2, fun t ht ht2 => ?_⟩, h4⟩))))
    · rw [nI_clamp (n := s) (by omega)]
      refine ⟨vp_in_nI (by omega) (by decide), nm_e (nm_e (ih (upd fi s (nI i)) ⟨by omega, ⟨i, pk_us, Nat.le_refl _, by omega, q, fun t ht ht2 => by omega⟩, fun j hj => ?_⟩))⟩
      rw [pk_un hj]
      exact h4 j hj
    · by_cases et : t = i
      · rw [et]; exact q
      · exact h3 t (by omega) ht2
  · exact ⟨Nat.le_refl _, ⟨s, h0, Nat.le_refl _, Nat.le_refl _, bb_al_r c s, fun t ht ht2 => by omega⟩, fun _ _ => rfl⟩
theorem by_m66 {post : Int32 → SY → Prop} {J35 : Int32 → Int32 → Int32 → Int32 → Int32 → Int32 → Int32 → Int32 → (Nat → Int32) → (Nat → Int32) → (Nat → Int32) → (Nat → Int32) → (Nat → Int32) → (Nat → Int32) → (Nat → Int32) → (Nat → Int32) → (Nat → Int32) → (Nat → Int32) → (Nat → Int32) → (Nat → Int32) → (Nat → Int32) → (Nat → Int32) → Prop}
    {r : Nat} (hb : ∀ a s t, T a s t → a ≤ L ∧ s < N ∧ t < N) (hN : N ≤ 12) (hL : L ≤ 3) (hC : by_C N c ycl) (hD : ∀ s, s < N → by_Dd N T c yde s) (hS : ∀ s, s < N → by_Ds N T c yst s)
    (hJ : ∀ fi cl, (∀ s, s < N → by_Fi N T c fi s) → (∀ s, s < N → cl s = fi s) → J35 (nI (r + 1)) (nI N) (nI L) ymx ymq ymi (nI mv) yff yA yB yC ykd ylf yfl yrt cl fi yok yse yde yst ytr) : ∃ n, wY_minimise_66 post J35 (nI r) (nI N) (nI L) ymx ymq ymi (nI mv) yff n 0 yA yB yC ykd ylf yfl yrt ycl yfi yok yse yde yst ytr := by
  refine loop_0 (fun n i (fi : Nat → Int32) => wY_minimise_66 post J35 (nI r) (nI N) (nI L) ymx ymq ymi (nI mv) yff n (nI i) yA yB yC ykd ylf yfl yrt ycl fi yok yse yde yst ytr) (fun i fi => ∀ s, s < i → by_Fi N T c fi s) N yfi (fun s h => absurd h (Nat.not_lt_zero _)) ?_ ?_
  · intro n fi h
    refine br_t (nI_le (Nat.le_refl _) (by omega)) ?_
    refine loop_0 (fun n i (cl : Nat → Int32) => wY_minimise_119 post J35 (nI r) (nI N) (nI L) ymx ymq ymi (nI mv) yff n (nI i) yA yB yC ykd ylf yfl yrt cl fi yok yse yde yst ytr) (fun i cl => ∀ s, s < i → cl s = fi s) N ycl (fun s h => absurd h (Nat.not_lt_zero _)) ?_ ?_
    · intro n cl h'
      exact br_t (nI_le (Nat.le_refl _) (by omega)) (nm_r (nI_1 r) (hJ fi cl h h'))
    · intro n i cl hi h' ih
      refine br_f (nI_ge hi (by omega)) ?_
      rw [nI_clamp (n := i) (by omega)]
      refine ⟨vp_in_nI (by omega) (by decide), vp_in_nI (by omega) (by decide), nm_e (nm_r (nI_1 i) (ih _ fun s hs => ?_))⟩
      by_cases e : s = i
      · rw [e, pk_us]
      · rw [pk_un e]; exact h' s (by omega)
  · intro n i fi hi h ih
    refine br_f (nI_ge hi (by omega)) ?_
    rw [nI_clamp (n := i) (by omega)]
    refine ⟨vp_in_nI (by omega) (by decide), nm_e (nm_r (Int32.sub_eq_add_neg _ _) (by_m85 hb hN hL hi hC hD hS pk_us (fun fi' h1 h2 => ih fi' fun s hs => ?_)))⟩
    by_cases e : s = i
    · rw [e]; exact h1
    · obtain ⟨f, q, q2⟩ := h s (by omega)
      exact ⟨f, by rw [h2 s e, pk_un e]; exact q, q2⟩
theorem by_m45 {post : Int32 → SY → Prop} {J35 : Int32 → Int32 → Int32 → Int32 → Int32 → Int32 → Int32 → Int32 → (Nat → Int32) → (Nat → Int32) → (Nat → Int32) → (Nat → Int32) → (Nat → Int32) → (Nat → Int32) → (Nat → Int32) → (Nat → Int32) → (Nat → Int32) → (Nat → Int32) → (Nat → Int32) → (Nat → Int32) → (Nat → Int32) → (Nat → Int32) → Prop}
    {r : Nat} (hT : by_T N L T mv yA yB yC) (hN : N ≤ 12) (hL : L ≤ 3) (hv : mv ≤ 32) (hC : by_C N c ycl)
    (hJ : ∀ cl fi ok se de st, (∀ s, s < N → by_Fi N T c fi s) → (∀ s, s < N → cl s = fi s) → J35 (nI (r + 1)) (nI N) (nI L) ymx ymq ymi (nI mv) yff yA yB yC ykd ylf yfl yrt cl fi ok se de st ytr) : ∃ n, wY_minimise_45 post J35 (nI r) n 0 (nI N) (nI L) ymx ymq ymi (nI mv) yff yA yB yC ykd ylf yfl yrt ycl yfi yok yse yde yst ytr := by
  refine loop_0 (fun n i (s : (Nat → Int32) × (Nat → Int32) × (Nat → Int32) × (Nat → Int32)) => wY_minimise_45 post J35 (nI r) n (nI i) (nI N) (nI L) ymx ymq ymi (nI mv) yff yA yB yC ykd ylf yfl yrt ycl yfi s.1 s.2.1 s.2.2.1 s.2.2.2 ytr) (fun i s => ∀ t, t < i → by_Dd N T c s.2.2.1 t ∧ by_Ds N T c s.2.2.2 t) N (yok, yse, yde, yst) (fun s h => absurd h (Nat.not_lt_zero _)) ?_ ?_
  · rintro n ⟨ok, se, de, st⟩ h
    dsimp only at h ⊢
    exact br_t (nI_le (Nat.le_refl _) (by omega)) (by_m66 hT.2.2 hN hL hC (fun s hs => (h s hs).1) (fun s hs => (h s hs).2) (fun fi cl h1 h2 => hJ cl fi ok se de st h1 h2))
  · rintro n i ⟨ok, se, de, st⟩ hi h ih
    dsimp only at h ⊢
    refine br_f (nI_ge hi (by omega)) (by_desc hT hN hL hv hi hC (fun ok' se' de' st' h1 h2 h3 h4 => nm_r (nI_1 i) (ih (ok', se', de', st') fun t ht => ?_)))
    dsimp only
    by_cases e : t = i
    · subst e
      exact ⟨h1, h3⟩
    · obtain ⟨q1, q2⟩ := h t (by omega)
      refine ⟨fun a k ha hk => ?_, ?_⟩
      · rw [h2 _ (by omega)]
        exact q1 a k ha hk
      · unfold by_Ds
        rw [h4 t e]
        exact q2
theorem bb_cn_cg {p q : Nat → Bool} : ∀ n, (∀ i, i < n → p i = q i) → bb_cn p n = bb_cn q n
  | 0, _ => rfl
  | n + 1, h => by
    show bb_cn p n + (if p n = true then 1 else 0) = bb_cn q n + (if q n = true then 1 else 0)
    rw [bb_cn_cg n (fun i hi => h i (by omega)), h n (by omega)]
theorem by_min {post : Int32 → SY → Prop} {l : Nat → Nat} (hT : by_T N L T mv yA yB yC) (h2 : 2 ≤ N) (hN : N ≤ 12) (hL : L ≤ 3) (hv : mv ≤ 32) (hl : bb_Ld N T l)
    (hp : ∀ cl fi ok se de st, (∀ v, v < N → cl v = nI (l v)) → post (nI (bb_cn (bb_ldr l) N)) ((nI N), (nI L), ymx, ymq, 1, (nI mv), 0, yA, yB, yC, ykd, ylf, yfl, yrt, cl, fi, ok, se, de, st, ytr)) : wpY_minimise post ((nI N), (nI L), ymx, ymq, 0, (nI mv), yff, yA, yB, yC, ykd, ylf, yfl, yrt, ycl, yfi, yok, yse, yde, yst, ytr) := by
  have hb' : ∀ a s t, T a s t → s < N ∧ t < N := fun a s t m => (hT.2.2 a s t m).2
  unfold wpY_minimise
  dsimp only
  refine br_t rfl ?_
  refine loop_0 (fun n i (cl : Nat → Int32) => wY_minimise_12 post (nI N) (nI L) ymx ymq 0 (nI mv) yff n (nI i) yA yB yC ykd ylf yfl yrt cl yfi yok yse yde yst ytr) (fun i cl => ∀ s, s < i → cl s = 0) N ycl (fun s h => absurd h (Nat.not_lt_zero _)) ?_ ?_
  · intro n cl h
    refine br_t (nI_le (Nat.le_refl _) (by omega)) ?_
    refine loop_0 (fun n i (s : (Nat → Int32) × (Nat → Int32) × (Nat → Int32) × (Nat → Int32) × (Nat → Int32) × (Nat → Int32)) => wY_minimise_35 post n (nI i) (nI N) (nI L) ymx ymq 0 (nI mv) yff yA yB yC ykd ylf yfl yrt s.1 s.2.1 s.2.2.1 s.2.2.2.1 s.2.2.2.2.1 s.2.2.2.2.2 ytr) (fun i s => ∃ c, (∀ v, v < N → s.1 v = nI (c v)) ∧ bb_RI N T i c) N (cl, yfi, yok, yse, yde, yst) ?_ ?_ ?_
    · exact ⟨fun _ => 0, h, bb_RI_0 (by omega) (fun _ _ => rfl)⟩
    · rintro n ⟨cl, fi, ok, se, de, st⟩ ⟨c, hc, hr⟩
      dsimp only at hc ⊢
      refine br_t (nI_le (Nat.le_refl _) (by omega)) ?_
      have hC : by_C N c cl := fun v hv => ⟨hc v hv, by have := (hr.1 v hv).1; omega⟩
      have hsp : bb_Sp N T c := ⟨hr.1, bb_RI_N hb' hr⟩
      have he : ∀ s, s < N → c s = l s := fun s hs => bb_sp_ld hsp hl hs
      unfold wpY_blockCount
      dsimp only
      refine br_f (by decide) (by_bc14 hN hC ?_)
      have e2 : bb_cn (bb_ldr c) N = bb_cn (bb_ldr l) N := by
        refine bb_cn_cg N fun i hi => ?_
        unfold bb_ldr
        rw [he i hi]
      rw [e2]
      exact hp cl fi ok se de st (fun v hv => by rw [hc v hv, he v hv])
    · rintro n i ⟨cl, fi, ok, se, de, st⟩ hi ⟨c, hc, hr⟩ ih
      dsimp only at hc ⊢
      have hC : by_C N c cl := fun v hv => ⟨hc v hv, by have := (hr.1 v hv).1; omega⟩
      refine br_f (nI_ge hi (by omega)) (by_m45 hT hN hL hv hC (fun cl' fi' ok' se' de' st' h1 h2 => ih (cl', fi', ok', se', de', st') ⟨fun v => (fi' v).toNatClampNeg, fun v hv => ?_, bb_RI_s hb' hr ?_⟩))
      · obtain ⟨f, e, h3, _⟩ := h1 v hv
        dsimp only
        rw [h2 v hv, e, nI_clamp (by omega)]
      · intro v hv
        obtain ⟨f, e, h3, h4, h5⟩ := h1 v hv
        dsimp only
        rw [e, nI_clamp (by omega)]
        exact ⟨h3, h4, h5⟩
  · intro n i cl hi h ih
    refine br_f (nI_ge hi (by omega)) ?_
    rw [nI_clamp (n := i) (by omega)]
    refine ⟨vp_in_nI (by omega) (by decide), nm_e (nm_r (nI_1 i) (ih _ fun s hs => ?_))⟩
    by_cases e : s = i
    · rw [e, pk_us]
    · rw [pk_un e]; exact h s (by omega)
end
end
section
section
variable {T : Nat → Nat → Nat → Prop} {N L mv : Nat} {ymx ymq ymi yff : Int32} {yA yB yC ykd ylf yfl yrt ycl yfi yok yse yde yst ytr : Nat → Int32} {c : Nat → Nat}
theorem by_bo {post : Int32 → Prop} {s : Nat} (hN : N ≤ 12) (hC : by_C N c ycl) (hc : ∀ s, s < N → c s ≤ s ∧ c (c s) = c s) (hs : s < N) (hp : post (nI (bb_nb c s))) : wpY_blockOf post ((nI N), (nI L), ymx, ymq, 1, (nI mv), yff, yA, yB, yC, ykd, ylf, yfl, yrt, ycl, yfi, yok, yse, yde, yst, ytr) (nI s) := by
  unfold wpY_blockOf
  dsimp only
  refine br_f (by decide) (by_ns_i hN hs (br_t rfl ?_))
  have h1 := hc s hs
  refine loop_0 (fun n i (r : Nat) => wY_blockOf_25 post (nI s) (nI N) (nI L) ymx ymq 1 (nI mv) yff yA yB yC ykd ylf yfl yrt ycl yfi yok yse yde yst ytr n (nI r) (nI i)) (fun i r => r = bb_cn (bb_ldr c) i) (c s) 0 rfl ?_ ?_
  · intro n r h
    subst h
    dsimp only [wY_blockOf_25]
    rw [nI_clamp (n := s) (by omega), (hC s hs).1]
    exact ⟨vp_in_nI (by omega) (by decide), br_t (nI_le (Nat.le_refl _) (by omega)) hp⟩
  · intro n i r hi h ih
    dsimp only [wY_blockOf_25]
    have ci := hC i (by omega)
    have hci := ci.2
    rw [nI_clamp (n := s) (by omega), (hC s hs).1, nI_clamp (n := i) (by omega), ci.1]
    refine ⟨vp_in_nI (by omega) (by decide), br_f (nI_ge hi (by omega)) ⟨vp_in_nI (by omega) (by decide), pk_eq (c i) i (fun e => nm_r (nI_1 r) (nm_r (nI_1 i) (ih (r + 1) ?_))) (fun e => nm_r (nI_1 i) (ih r ?_))⟩⟩
    · rw [bb_cn_t (decide_eq_true e), h]
    · rw [bb_cn_f (fun z => e (of_decide_eq_true z)), h]
theorem by_ld {post : Int32 → Prop} {p : Int32} (hN : N ≤ 12) (hC : by_C N c ycl) (hc : ∀ s, s < N → c s ≤ s ∧ c (c s) = c s)
    (h1 : ∀ u, u < N → c u = u → p = nI (bb_cn (bb_ldr c) u) → post (nI u)) (h0 : (∀ u, u < N → c u = u → p ≠ nI (bb_cn (bb_ldr c) u)) → post 101) : wpY_leader post ((nI N), (nI L), ymx, ymq, 1, (nI mv), yff, yA, yB, yC, ykd, ylf, yfl, yrt, ycl, yfi, yok, yse, yde, yst, ytr) p := by
  unfold wpY_leader
  dsimp only
  refine br_f (by decide) ?_
  refine loop_0 (fun n i (_ : Unit) => wY_leader_12 post p (nI N) (nI L) ymx ymq 1 (nI mv) yff yA yB yC ykd ylf yfl yrt ycl yfi yok yse yde yst ytr n (nI i)) (fun i _ => ∀ u, u < i → c u = u → p ≠ nI (bb_cn (bb_ldr c) u)) N () (fun u h => absurd h (Nat.not_lt_zero _)) ?_ ?_
  · intro n _ h
    exact br_t (nI_le (Nat.le_refl _) (by omega)) (h0 h)
  · intro n i _ hi h ih
    refine br_f (nI_ge hi (by omega)) ?_
    have ci := hC i hi
    have hci := ci.2
    rw [nI_clamp (n := i) (by omega), ci.1]
    have nx : (c i = i → p ≠ nI (bb_cn (bb_ldr c) i)) → wY_leader_12 post p (nI N) (nI L) ymx ymq 1 (nI mv) yff yA yB yC ykd ylf yfl yrt ycl yfi yok yse yde yst ytr n (nI (i + 1)) := by
      intro q
      refine ih () fun u hu => ?_
      by_cases e : u = i
      · rw [e]; exact q
      · exact h u (by omega)
    refine ⟨vp_in_nI (by omega) (by decide), pk_eq (c i) i (fun e => by_bo hN hC hc hi ?_) (fun e => nm_r (nI_1 i) (nx fun z => absurd z e))⟩
    have e2 : bb_nb c i = bb_cn (bb_ldr c) i := by
      show bb_cn _ (c i) = _
      rw [e]
    rw [e2]
    exact br_c (fun z => h1 i hi e z.symm) (fun z => nm_r (nI_1 i) (nx fun _ q => z q.symm))
theorem by_ld_i {post : Int32 → Prop} {k : Nat} (hN : N ≤ 12) (hC : by_C N c ycl) (hc : ∀ s, s < N → c s ≤ s ∧ c (c s) = c s) (hk : k < bb_cn (bb_ldr c) N)
    (h1 : ∀ u, u < N → c u = u → bb_cn (bb_ldr c) u = k → post (nI u)) : wpY_leader post ((nI N), (nI L), ymx, ymq, 1, (nI mv), yff, yA, yB, yC, ykd, ylf, yfl, yrt, ycl, yfi, yok, yse, yde, yst, ytr) (nI k) := by
  have hB := bb_cn_le (bb_ldr c) N
  refine by_ld hN hC hc (fun u hu e q => h1 u hu e ?_) (fun q => ?_)
  · have := bb_cn_le (bb_ldr c) u
    rw [nI_eq (by omega) (by omega)] at q
    exact q.symm
  · obtain ⟨u, hu, e, e2⟩ := bb_cn_ex N k hk
    exact absurd (by rw [e2]) (q u hu (of_decide_eq_true e))
theorem by_ld_o {post : Int32 → Prop} {p : Int32} (hN : N ≤ 12) (hC : by_C N c ycl) (hc : ∀ s, s < N → c s ≤ s ∧ c (c s) = c s) (hk : ∀ k, k < bb_cn (bb_ldr c) N → p ≠ nI k)
    (h0 : post 101) : wpY_leader post ((nI N), (nI L), ymx, ymq, 1, (nI mv), yff, yA, yB, yC, ykd, ylf, yfl, yrt, ycl, yfi, yok, yse, yde, yst, ytr) p :=
  by_ld hN hC hc (fun u hu e q => absurd q (hk _ (bb_cn_u (decide_eq_true e) hu))) (fun _ => h0)
def bb_Bn (N : Nat) (c : Nat → Nat) (k s : Nat) : Prop := s < N ∧ bb_nb c s = k
theorem bb_Bn_K {u k : Nat} (hc : ∀ s, s < N → c s ≤ s ∧ c (c s) = c s) (hu : u < N) (e : c u = u) (ek : bb_cn (bb_ldr c) u = k) : bb_K N c u = bb_Bn N c k := by
  funext v
  refine propext ⟨fun q => ⟨q.1, ?_⟩, fun q => ⟨q.1, ?_⟩⟩
  · show bb_cn _ (c v) = k
    rw [q.2]; exact ek
  · have h2 : bb_nb c v = bb_nb c u := by
      rw [q.2]
      show k = bb_cn _ (c u)
      rw [e]; exact ek.symm
    rw [(bb_nb_eq hc q.1 hu).mp h2, e]
theorem bb_n101 {u : Nat} (h : u < 12) : ¬ nI u = 101 := by
  intro z
  have z' : nI u = nI 101 := z
  rw [nI_eq (by omega) (by omega)] at z'
  omega
theorem by_q109 {post : Int32 → SY → Prop} {a u w : Nat} (hT : by_T N L T mv yA yB yC) (hN : N ≤ 12) (hL : L ≤ 3) (hv : mv ≤ 32) (hC : by_C N c ycl) (ha : a ≤ L) (hu : u < N) (hw : w < N)
    (h1 : (∃ s t, bb_K N c u s ∧ T a s t ∧ bb_K N c w t) → post 1 ((nI N), (nI L), ymx, ymq, ymi, (nI mv), yff, yA, yB, yC, ykd, ylf, yfl, yrt, ycl, yfi, yok, yse, yde, yst, ytr)) (h0 : ¬ (∃ s t, bb_K N c u s ∧ T a s t ∧ bb_K N c w t) → post 0 ((nI N), (nI L), ymx, ymq, ymi, (nI mv), yff, yA, yB, yC, ykd, ylf, yfl, yrt, ycl, yfi, yok, yse, yde, yst, ytr)) : ∃ n, wY_quotientMove_109 post (nI a) (nI u) (nI w) (nI N) (nI L) ymx ymq ymi (nI mv) yff yA yB yC ykd ylf yfl yrt ycl yfi yok yse yde yst ytr n 0 := by
  refine loop_0 (fun n i (_ : Unit) => wY_quotientMove_109 post (nI a) (nI u) (nI w) (nI N) (nI L) ymx ymq ymi (nI mv) yff yA yB yC ykd ylf yfl yrt ycl yfi yok yse yde yst ytr n (nI i)) (fun i _ => ∀ j s t, j < i → yA j = nI s → yB j = nI a → yC j = nI t → s < N → t < N → c s = u → c t = w → False) mv () (fun j s t h => absurd h (Nat.not_lt_zero _)) ?_ ?_
  · intro n _ h
    refine br_t (nI_le (Nat.le_refl _) (by omega)) (h0 ?_)
    rintro ⟨s, t, k1, m, k2⟩
    obtain ⟨j, hj, e1, e2, e3⟩ := hT.2.1 _ _ _ m
    exact h j s t hj e1 e2 e3 k1.1 k2.1 k1.2 k2.2
  · intro n i _ hi h ih
    refine br_f (nI_ge hi (by omega)) ?_
    obtain ⟨x, b, y, eA, eB, eC, m⟩ := hT.1 i hi
    have bd := hT.2.2 _ _ _ m
    have cx := hC x bd.2.1
    have cy := hC y bd.2.2
    have hcx := cx.2
    have hcy := cy.2
    rw [nI_clamp (n := i) (by omega), eA, eB, eC, nI_clamp (n := x) (by omega), nI_clamp (n := y) (by omega), cx.1, cy.1]
    have v1 := vp_in_nI (n := i) (N := 32) (by omega) (by decide)
    have v2 := vp_in_nI (n := x) (N := 12) (by omega) (by decide)
    have v3 := vp_in_nI (n := y) (N := 12) (by omega) (by decide)
    have nx : (c x = u → b = a → c y = w → False) → wY_quotientMove_109 post (nI a) (nI u) (nI w) (nI N) (nI L) ymx ymq ymi (nI mv) yff yA yB yC ykd ylf yfl yrt ycl yfi yok yse yde yst ytr n (nI (i + 1)) := by
      intro q
      refine ih () fun j s t hj e1 e2 e3 hs ht e4 e5 => ?_
      by_cases e : j = i
      · subst e
        rw [eA, nI_eq (by omega) (by omega)] at e1
        rw [eB, nI_eq (by omega) (by omega)] at e2
        rw [eC, nI_eq (by omega) (by omega)] at e3
        subst e1 e2 e3
        exact q e4 rfl e5
      · exact h j s t (by omega) e1 e2 e3 hs ht e4 e5
    refine ⟨v1, v2, pk_eq (c x) u (fun z1 => ⟨v1, pk_eq b a (fun z2 => ⟨v1, v3, pk_eq (c y) w (fun z3 => h1 ?_) (fun z3 => nm_r (nI_1 i) (nx fun _ _ q => z3 q))⟩) (fun z2 => nm_r (nI_1 i) (nx fun _ q _ => z2 q))⟩) (fun z1 => nm_r (nI_1 i) (nx fun q _ _ => z1 q))⟩
    subst z2
    exact ⟨x, y, ⟨bd.2.1, z1⟩, m, ⟨bd.2.2, z3⟩⟩
theorem by_q77 {post : Int32 → SY → Prop} {P : Nat → Prop} (hN : N ≤ 12) (hse : ∀ v, v < N → bb_z1 (yse v) (P v))
    (h1 : (∃ s, s < N ∧ P s) → post 1 ((nI N), (nI L), ymx, ymq, ymi, (nI mv), yff, yA, yB, yC, ykd, ylf, yfl, yrt, ycl, yfi, yok, yse, yde, yst, ytr)) (h0 : ¬ (∃ s, s < N ∧ P s) → post 0 ((nI N), (nI L), ymx, ymq, ymi, (nI mv), yff, yA, yB, yC, ykd, ylf, yfl, yrt, ycl, yfi, yok, yse, yde, yst, ytr)) : ∃ n, wY_quotientMove_77 post (nI N) (nI L) ymx ymq ymi (nI mv) yff yA yB yC ykd ylf yfl yrt ycl yfi yok yse yde yst ytr n 0 := by
  refine loop_0 (fun n i (_ : Unit) => wY_quotientMove_77 post (nI N) (nI L) ymx ymq ymi (nI mv) yff yA yB yC ykd ylf yfl yrt ycl yfi yok yse yde yst ytr n (nI i)) (fun i _ => ∀ s, s < i → ¬ P s) N () (fun j h => absurd h (Nat.not_lt_zero _)) ?_ ?_
  · intro n _ h
    refine br_t (nI_le (Nat.le_refl _) (by omega)) (h0 ?_)
    rintro ⟨s, hs, p⟩
    exact h s hs p
  · intro n i _ hi h ih
    refine br_f (nI_ge hi (by omega)) ?_
    rw [nI_clamp (n := i) (by omega)]
    refine ⟨vp_in_nI (by omega) (by decide), br_c (fun z => nm_r (nI_1 i) (ih () fun s hs => ?_)) (fun z => h1 ⟨i, hi, (bb_z1_t (hse i hi)).mp z⟩)⟩
    by_cases e : s = i
    · rw [e]; exact (bb_z1_f (hse i hi)).mp z
    · exact h s (by omega)
theorem by_qm_i {post : Int32 → SY → Prop} {k a k' : Nat} (hT : by_T N L T mv yA yB yC) (hN : N ≤ 12) (hL : L ≤ 3) (hv : mv ≤ 32) (hC : by_C N c ycl) (hc : ∀ s, s < N → c s ≤ s ∧ c (c s) = c s) (hk : k < bb_cn (bb_ldr c) N) (ha : a ≤ L) (hk' : k' < bb_cn (bb_ldr c) N)
    (h1 : bb_Q T (bb_Bn N c) k a k' → ∀ ok se, post 1 ((nI N), (nI L), ymx, ymq, 1, (nI mv), yff, yA, yB, yC, ykd, ylf, yfl, yrt, ycl, yfi, ok, se, yde, yst, ytr)) (h0 : ¬ bb_Q T (bb_Bn N c) k a k' → ∀ ok se, post 0 ((nI N), (nI L), ymx, ymq, 1, (nI mv), yff, yA, yB, yC, ykd, ylf, yfl, yrt, ycl, yfi, ok, se, yde, yst, ytr)) : wpY_quotientMove post ((nI N), (nI L), ymx, ymq, 1, (nI mv), yff, yA, yB, yC, ykd, ylf, yfl, yrt, ycl, yfi, yok, yse, yde, yst, ytr) (nI k) (nI a) (nI k') := by
  unfold wpY_quotientMove
  dsimp only
  refine br_f (by decide) (by_ld_i hN hC hc hk (fun u hu eu ku => by_ld_i hN hC hc hk' (fun w hw ew kw => br_f (bb_n101 (by omega)) (br_f (bb_n101 (by omega)) (br_f (nI_pos (by omega)) (br_t (nI_le ha (by omega)) ?_))))))
  have K1 := bb_Bn_K hc hu eu ku
  have K2 := bb_Bn_K hc hw ew kw
  have iff : u = w ↔ k = k' := by
    constructor
    · intro e
      rw [← ku, ← kw, e]
    · intro e
      exact bb_cn_inj (p := bb_ldr c) (decide_eq_true eu) (decide_eq_true ew) (by omega)
  have go : ¬ (a = 0 ∧ u = w) → ∃ n, wY_quotientMove_109 post (nI a) (nI u) (nI w) (nI N) (nI L) ymx ymq 1 (nI mv) yff yA yB yC ykd ylf yfl yrt ycl yfi yok yse yde yst ytr n 0 := by
    intro hn
    refine by_q109 hT hN hL hv hC ha hu hw (fun q => h1 ?_ yok yse) (fun q => h0 ?_ yok yse)
    · rw [K1, K2] at q
      exact Or.inr ⟨fun z => hn ⟨z.1, iff.mpr z.2⟩, q⟩
    · rw [K1, K2] at q
      intro z
      rcases z with z | z
      · exact hn ⟨z.1, iff.mpr z.2.1⟩
      · exact q z.2
  refine pk_eq a 0 (fun e => pk_eq u w (fun e2 => ?_) (fun e2 => go fun z => e2 z.2)) (fun e => go fun z => e z.1)
  refine by_al hN (fun ok hok => ?_)
  have hF : ∀ v, v < N → bb_z1 (ok v) (bb_Bn N c k v) := by
    intro v hv
    have hcv := hC v hv
    have hcv2 := hcv.2
    refine bb_z1_c (hok v hv) ?_
    rw [hcv.1, nI_eq (by omega) (by omega), ← K1]
    exact ⟨fun e => ⟨hv, e⟩, fun e => e.2⟩
  refine by_ling hT hN hL hv hF (fun se hse => by_q77 hN hse (fun q => h1 ?_ ok se) (fun q => h0 ?_ ok se))
  · obtain ⟨s, _, d⟩ := q
    exact Or.inl ⟨e, iff.mp e2, s, d⟩
  · intro z
    rcases z with ⟨_, _, s, d⟩ | z
    · exact q ⟨s, (bb_div_F d).1, d⟩
    · exact z.1 ⟨e, iff.mp e2⟩
theorem by_qm_o {post : Int32 → SY → Prop} {p q r : Int32} (hN : N ≤ 12) (hL : L ≤ 3) (hC : by_C N c ycl) (hc : ∀ s, s < N → c s ≤ s ∧ c (c s) = c s)
    (ho : (∀ k, k < bb_cn (bb_ldr c) N → p ≠ nI k) ∨ (∀ a, a < L + 1 → q ≠ nI a) ∨ (∀ k, k < bb_cn (bb_ldr c) N → r ≠ nI k)) (h : post 101 ((nI N), (nI L), ymx, ymq, 1, (nI mv), yff, yA, yB, yC, ykd, ylf, yfl, yrt, ycl, yfi, yok, yse, yde, yst, ytr)) : wpY_quotientMove post ((nI N), (nI L), ymx, ymq, 1, (nI mv), yff, yA, yB, yC, ykd, ylf, yfl, yrt, ycl, yfi, yok, yse, yde, yst, ytr) p q r := by
  unfold wpY_quotientMove
  dsimp only
  refine br_f (by decide) ?_
  rcases bb_cs p (bb_cn (bb_ldr c) N) with ⟨k, hk, e⟩ | hk
  · subst e
    refine by_ld_i hN hC hc hk (fun u hu eu ku => ?_)
    rcases bb_cs r (bb_cn (bb_ldr c) N) with ⟨k', hk', e⟩ | hk'
    · subst e
      refine by_ld_i hN hC hc hk' (fun w hw ew kw => br_f (bb_n101 (by omega)) (br_f (bb_n101 (by omega)) ?_))
      rcases ho with ho | ho | ho
      · exact absurd rfl (ho k hk)
      · rcases bb_ouL (by omega) ho with z | ⟨z, z2⟩
        · exact br_t z h
        · exact br_f z (br_f (Int32.not_le.mpr z2) h)
      · exact absurd rfl (ho k' hk')
    · exact by_ld_o hN hC hc hk' (br_f (bb_n101 (by omega)) (br_t rfl h))
  · refine by_ld_o hN hC hc hk ?_
    rcases bb_cs r (bb_cn (bb_ldr c) N) with ⟨k', hk', e⟩ | hk'
    · subst e
      exact by_ld_i hN hC hc hk' (fun w hw ew kw => br_t rfl h)
    · exact by_ld_o hN hC hc hk' (br_t rfl h)
def bb_G (N : Nat) (T : Nat → Nat → Nat → Prop) (c : Nat → Nat) (b a d : Nat) : Prop := b < bb_cn (bb_ldr c) N ∧ d < bb_cn (bb_ldr c) N ∧ bb_Q T (bb_Bn N c) b a d
theorem by_qc35 {post : Int32 → SY → Prop} {J14 J24 : Int32 → Int32 → Int32 → Int32 → Int32 → Int32 → Int32 → Int32 → Int32 → (Nat → Int32) → (Nat → Int32) → (Nat → Int32) → (Nat → Int32) → (Nat → Int32) → (Nat → Int32) → (Nat → Int32) → (Nat → Int32) → (Nat → Int32) → (Nat → Int32) → (Nat → Int32) → (Nat → Int32) → (Nat → Int32) → (Nat → Int32) → Prop}
    {b a z : Nat} (hT : by_T N L T mv yA yB yC) (hN : N ≤ 12) (hL : L ≤ 3) (hv : mv ≤ 32) (hC : by_C N c ycl) (hc : ∀ s, s < N → c s ≤ s ∧ c (c s) = c s) (hb : b < N) (ha : a ≤ L)
    (hJ : ∀ ok se, J24 (nI (z + bb_sum (fun d => bb_ind (bb_G N T c b a d)) N)) (nI (a + 1)) (nI N) (nI L) ymx ymq 1 (nI mv) yff yA yB yC ykd ylf yfl yrt ycl yfi ok se yde yst ytr) : ∃ n, wY_quotientMoveCount_35 post J14 J24 (nI b) (nI a) n (nI z) 0 (nI N) (nI L) ymx ymq 1 (nI mv) yff yA yB yC ykd ylf yfl yrt ycl yfi yok yse yde yst ytr := by
  have hB := bb_cn_le (bb_ldr c) N
  refine loop_0 (fun n i (s : Nat × (Nat → Int32) × (Nat → Int32)) => wY_quotientMoveCount_35 post J14 J24 (nI b) (nI a) n (nI s.1) (nI i) (nI N) (nI L) ymx ymq 1 (nI mv) yff yA yB yC ykd ylf yfl yrt ycl yfi s.2.1 s.2.2 yde yst ytr) (fun i s => s.1 = z + bb_sum (fun d => bb_ind (bb_G N T c b a d)) i) N (z, yok, yse) rfl ?_ ?_
  · rintro n ⟨s, ok, se⟩ h
    dsimp only at h ⊢
    subst h
    exact br_t (nI_le (Nat.le_refl _) (by omega)) (nm_r (nI_1 a) (hJ ok se))
  · rintro n i ⟨s, ok, se⟩ hi h ih
    dsimp only at h ⊢
    refine br_f (nI_ge hi (by omega)) ?_
    have hy : bb_G N T c b a i → s + 1 = z + bb_sum (fun d => bb_ind (bb_G N T c b a d)) (i + 1) := by
      intro q
      show s + 1 = z + (bb_sum _ i + bb_ind _)
      rw [bb_ind_t q]
      omega
    have hn : ¬ bb_G N T c b a i → s = z + bb_sum (fun d => bb_ind (bb_G N T c b a d)) (i + 1) := by
      intro q
      show s = z + (bb_sum _ i + bb_ind _)
      rw [bb_ind_f q]
      omega
    by_cases h1 : b < bb_cn (bb_ldr c) N
    · by_cases h2 : i < bb_cn (bb_ldr c) N
      · exact by_qm_i hT hN hL hv hC hc h1 ha h2 (fun q ok' se' => br_t rfl (nm_r (nI_1 s) (nm_r (nI_1 i) (ih (s + 1, ok', se') (hy ⟨h1, h2, q⟩))))) (fun q ok' se' => br_f (by decide) (nm_r (nI_1 i) (ih (s, ok', se') (hn fun z => q z.2.2))))
      · refine by_qm_o hN hL hC hc (Or.inr (Or.inr fun k hk e => ?_)) (br_f (by decide) (nm_r (nI_1 i) (ih (s, ok, se) (hn fun z => h2 z.2.1))))
        rw [nI_eq (by omega) (by omega)] at e
        omega
    · refine by_qm_o hN hL hC hc (Or.inl fun k hk e => ?_) (br_f (by decide) (nm_r (nI_1 i) (ih (s, ok, se) (hn fun z => h1 z.1))))
      rw [nI_eq (by omega) (by omega)] at e
      omega
theorem by_qc24 {post : Int32 → SY → Prop} {J14 : Int32 → Int32 → Int32 → Int32 → Int32 → Int32 → Int32 → Int32 → Int32 → (Nat → Int32) → (Nat → Int32) → (Nat → Int32) → (Nat → Int32) → (Nat → Int32) → (Nat → Int32) → (Nat → Int32) → (Nat → Int32) → (Nat → Int32) → (Nat → Int32) → (Nat → Int32) → (Nat → Int32) → (Nat → Int32) → (Nat → Int32) → Prop}
    {b z : Nat} (hT : by_T N L T mv yA yB yC) (hN : N ≤ 12) (hL : L ≤ 3) (hv : mv ≤ 32) (hC : by_C N c ycl) (hc : ∀ s, s < N → c s ≤ s ∧ c (c s) = c s) (hb : b < N)
    (hJ : ∀ ok se, J14 (nI (z + bb_sum (fun a => bb_sum (fun d => bb_ind (bb_G N T c b a d)) N) (L + 1))) (nI (b + 1)) (nI N) (nI L) ymx ymq 1 (nI mv) yff yA yB yC ykd ylf yfl yrt ycl yfi ok se yde yst ytr) : ∃ n, wY_quotientMoveCount_24 post J14 (nI b) n (nI z) 0 (nI N) (nI L) ymx ymq 1 (nI mv) yff yA yB yC ykd ylf yfl yrt ycl yfi yok yse yde yst ytr := by
  refine loop_0 (fun n i (s : Nat × (Nat → Int32) × (Nat → Int32)) => wY_quotientMoveCount_24 post J14 (nI b) n (nI s.1) (nI i) (nI N) (nI L) ymx ymq 1 (nI mv) yff yA yB yC ykd ylf yfl yrt ycl yfi s.2.1 s.2.2 yde yst ytr) (fun i s => s.1 = z + bb_sum (fun a => bb_sum (fun d => bb_ind (bb_G N T c b a d)) N) i) (L + 1) (z, yok, yse) rfl ?_ ?_
  · rintro n ⟨s, ok, se⟩ h
    dsimp only at h ⊢
    subst h
    exact br_t (nI_lt (by omega) (by omega)) (nm_r (nI_1 b) (hJ ok se))
  · rintro n i ⟨s, ok, se⟩ hi h ih
    dsimp only at h ⊢
    refine br_f (nI_nlt (by omega) (by omega)) (by_qc35 hT hN hL hv hC hc hb (by omega) (fun ok' se' => ih (_, ok', se') ?_))
    show _ = z + (bb_sum _ i + _)
    dsimp only
    omega
theorem by_qc {post : Int32 → SY → Prop} (hT : by_T N L T mv yA yB yC) (hN : N ≤ 12) (hL : L ≤ 3) (hv : mv ≤ 32) (hC : by_C N c ycl) (hc : ∀ s, s < N → c s ≤ s ∧ c (c s) = c s)
    (hp : ∀ ok se, post (nI (bb_sum (fun b => bb_sum (fun a => bb_sum (fun d => bb_ind (bb_G N T c b a d)) N) (L + 1)) N)) ((nI N), (nI L), ymx, ymq, 1, (nI mv), yff, yA, yB, yC, ykd, ylf, yfl, yrt, ycl, yfi, ok, se, yde, yst, ytr)) : wpY_quotientMoveCount post ((nI N), (nI L), ymx, ymq, 1, (nI mv), yff, yA, yB, yC, ykd, ylf, yfl, yrt, ycl, yfi, yok, yse, yde, yst, ytr) := by
  unfold wpY_quotientMoveCount
  dsimp only
  refine br_f (by decide) ?_
  refine loop_0 (fun n i (s : Nat × (Nat → Int32) × (Nat → Int32)) => wY_quotientMoveCount_14 post n (nI s.1) (nI i) (nI N) (nI L) ymx ymq 1 (nI mv) yff yA yB yC ykd ylf yfl yrt ycl yfi s.2.1 s.2.2 yde yst ytr) (fun i s => s.1 = bb_sum (fun b => bb_sum (fun a => bb_sum (fun d => bb_ind (bb_G N T c b a d)) N) (L + 1)) i) N (0, yok, yse) rfl ?_ ?_
  · rintro n ⟨s, ok, se⟩ h
    dsimp only at h ⊢
    subst h
    exact br_t (nI_le (Nat.le_refl _) (by omega)) (hp ok se)
  · rintro n i ⟨s, ok, se⟩ hi h ih
    dsimp only at h ⊢
    refine br_f (nI_ge hi (by omega)) (by_qc24 hT hN hL hv hC hc hi (fun ok' se' => ih (_, ok', se') ?_))
    show _ = bb_sum _ i + _
    dsimp only
    omega
theorem bb_GQ (N L : Nat) (T : Nat → Nat → Nat → Prop) (c : Nat → Nat) : bb_sum (fun b => bb_sum (fun a => bb_sum (fun d => bb_ind (bb_G N T c b a d)) N) (L + 1)) N = bb_sum (fun b => bb_sum (fun a => bb_sum (fun d => bb_ind (bb_Q T (bb_Bn N c) b a d)) (bb_cn (bb_ldr c) N)) (L + 1)) (bb_cn (bb_ldr c) N) := by
  have hB := bb_cn_le (bb_ldr c) N
  rw [bb_sum_z (bb_cn (bb_ldr c) N) _ N hB]
  · refine bb_sum_cg _ fun b hb => bb_sum_cg _ fun a _ => ?_
    rw [bb_sum_z (bb_cn (bb_ldr c) N) _ N hB]
    · refine bb_sum_cg _ fun d hd => ?_
      by_cases q : bb_Q T (bb_Bn N c) b a d
      · rw [bb_ind_t q, bb_ind_t ⟨hb, hd, q⟩]
      · rw [bb_ind_f q, bb_ind_f (fun z => q z.2.2)]
    · intro i hi
      exact bb_ind_f fun z => absurd z.2.1 (by omega)
  · intro i hi
    have : ∀ n, bb_sum (fun a => bb_sum (fun d => bb_ind (bb_G N T c i a d)) N) n = 0 := by
      intro n
      have e := bb_sum_z (f := fun a => bb_sum (fun d => bb_ind (bb_G N T c i a d)) N) 0 (fun a _ => by
        have e2 := bb_sum_z (f := fun d => bb_ind (bb_G N T c i a d)) 0 (fun d _ => bb_ind_f fun z => absurd z.1 (by omega)) N (Nat.zero_le _)
        exact e2) n (Nat.zero_le _)
      exact e
    exact this _
end
end
section
section
variable {T : Nat → Nat → Nat → Prop} {N L mv : Nat} {ymx ymq ymi yff : Int32} {yA yB yC ykd ylf yfl yrt ycl yfi yok yse yde yst ytr xfo : Nat → Int32} {c : Nat → Nat}
def bb_Fm (N L : Nat) (T : Nat → Nat → Nat → Prop) (c : Nat → Nat) (kd lf fl rt fo : Nat → Int32) (f : Nat) : Prop :=
  (kd f = nI 0 ∧ ∀ u, u < N → bt (fo f) u = true) ∨
  (kd f = nI 5 ∧ ∃ l, l < N ∧ lf f = nI l ∧ ∀ u, u < N → (bt (fo f) u = true ↔ c u = c l)) ∨
  (kd f = nI 1 ∧ ∃ l, l < f ∧ lf f = nI l ∧ ∀ u, u < N → (bt (fo f) u = true ↔ ¬ bt (fo l) u = true)) ∨
  (kd f = nI 2 ∧ ∃ l r, l < f ∧ r < f ∧ lf f = nI l ∧ rt f = nI r ∧ ∀ u, u < N → (bt (fo f) u = true ↔ bt (fo l) u = true ∧ bt (fo r) u = true)) ∨
  (kd f = nI 3 ∧ ∃ l a r, l < f ∧ a ≤ L ∧ r < f ∧ lf f = nI l ∧ fl f = nI a ∧ rt f = nI r ∧ ∀ u, u < N → (bt (fo f) u = true ↔ bb_Unt T (bb_BS fo l) a (bb_BS fo r) u ∨ (a = 0 ∧ bt (fo r) u = true))) ∨
  (kd f = nI 4 ∧ ∃ l, l < f ∧ lf f = nI l ∧ ∀ u, u < N → (bt (fo f) u = true ↔ bb_Div T (bb_BS fo l) u))
def bb_Tr (N : Nat) (tr fo : Nat → Int32) (f : Nat) : Prop := ∀ f' v, f' < f → v < N → bb_z1 (tr (f' * 12 + v)) (bt (fo f') v = true)
theorem bb_z1_w {x : Int32} {P : Prop} (h : bb_z1 x P) : narrow .boolean (.int x) = .int x := by
  rcases h with ⟨e, _⟩ | ⟨e, _⟩ <;> rw [e] <;> rfl
theorem by_e211 {post : Int32 → SY → Prop} {P : Nat → Prop} {f r a : Nat} (hT : by_T N L T mv yA yB yC) (hN : N ≤ 12) (hL : L ≤ 3) (hv : mv ≤ 32) (hf : f < 32) (hr : r < f) (ha : a ≤ L) (efl : yfl f = nI a) (htr : bb_Tr N ytr xfo f) (hse : ∀ v, v < N → (¬ yse v = 0 ↔ P v))
    (h1 : (∃ s t, P s ∧ T a s t ∧ bt (xfo r) t = true) → post 1 ((nI N), (nI L), ymx, ymq, ymi, (nI mv), yff, yA, yB, yC, ykd, ylf, yfl, yrt, ycl, yfi, yok, yse, yde, yst, ytr)) (h0 : ¬ (∃ s t, P s ∧ T a s t ∧ bt (xfo r) t = true) → post 0 ((nI N), (nI L), ymx, ymq, ymi, (nI mv), yff, yA, yB, yC, ykd, ylf, yfl, yrt, ycl, yfi, yok, yse, yde, yst, ytr)) : ∃ n, wY_evaluate_211 post (nI f) (nI r) (nI N) (nI L) ymx ymq ymi (nI mv) yff yA yB yC ykd ylf yfl yrt ycl yfi yok yse yde yst ytr n 0 := by
  refine loop_0 (fun n i (_ : Unit) => wY_evaluate_211 post (nI f) (nI r) (nI N) (nI L) ymx ymq ymi (nI mv) yff yA yB yC ykd ylf yfl yrt ycl yfi yok yse yde yst ytr n (nI i)) (fun i _ => ∀ j s t, j < i → yA j = nI s → yB j = nI a → yC j = nI t → s < N → t < N → P s → bt (xfo r) t = true → False) mv () (fun j s t h => absurd h (Nat.not_lt_zero _)) ?_ ?_
  · intro n _ h
    refine br_t (nI_le (Nat.le_refl _) (by omega)) (h0 ?_)
    rintro ⟨s, t, p, m, b⟩
    obtain ⟨j, hj, e1, e2, e3⟩ := hT.2.1 _ _ _ m
    have bd := hT.2.2 _ _ _ m
    exact h j s t hj e1 e2 e3 bd.2.1 bd.2.2 p b
  · intro n i _ hi h ih
    refine br_f (nI_ge hi (by omega)) ?_
    obtain ⟨x, b, y, eA, eB, eC, m⟩ := hT.1 i hi
    have bd := hT.2.2 _ _ _ m
    rw [nI_clamp (n := i) (by omega), nI_clamp (n := f) (by omega), eA, eB, eC, efl, nI_clamp (n := x) (by omega), bb_row, nI_clamp (n := r * 12 + y) (by omega)]
    have v1 := vp_in_nI (n := i) (N := 32) (by omega) (by decide)
    have v2 := vp_in_nI (n := x) (N := 12) (by omega) (by decide)
    have v3 := vp_in_nI (n := r * 12 + y) (N := 384) (by omega) (by decide)
    have v4 := vp_in_nI (n := f) (N := 32) (by omega) (by decide)
    have zt := htr r y hr bd.2.2
    have nx : (P x → b = a → bt (xfo r) y = true → False) → wY_evaluate_211 post (nI f) (nI r) (nI N) (nI L) ymx ymq ymi (nI mv) yff yA yB yC ykd ylf yfl yrt ycl yfi yok yse yde yst ytr n (nI (i + 1)) := by
      intro q
      refine ih () fun j s t hj e1 e2 e3 hs ht e4 e5 => ?_
      by_cases e : j = i
      · subst e
        rw [eA, nI_eq (by omega) (by omega)] at e1
        rw [eB, nI_eq (by omega) (by omega)] at e2
        rw [eC, nI_eq (by omega) (by omega)] at e3
        subst e1 e2 e3
        exact q e4 rfl e5
      · exact h j s t (by omega) e1 e2 e3 hs ht e4 e5
    refine ⟨v1, v2, br_c (fun z1 => nm_r (nI_1 i) (nx fun p _ _ => ((hse x bd.2.1).mpr p) z1)) (fun z1 => ⟨v1, v4, pk_eq b a (fun z2 => ⟨v1, v3, br_c (fun z3 => nm_r (nI_1 i) (nx fun _ _ q => (bb_z1_f zt).mp z3 q)) (fun z3 => h1 ?_)⟩) (fun z2 => nm_r (nI_1 i) (nx fun _ q _ => z2 q))⟩)⟩
    subst z2
    exact ⟨x, y, (hse x bd.2.1).mp z1, m, (bb_z1_t zt).mp z3⟩
theorem by_e126 {post : Int32 → SY → Prop} {x1 x2 x3 x5 : Int32} {f l : Nat} (hN : N ≤ 12) (hf : f < 32) (hl : l < f) (htr : bb_Tr N ytr xfo f)
    (hx : ∀ ok n, (∀ v, v < N → bb_z1 (ok v) (bb_BS xfo l v)) → wY_evaluate_126 post x1 x2 x3 (nI l) x5 (nI N) (nI L) ymx ymq ymi (nI mv) yff (n + 1) (nI N) yA yB yC ykd ylf yfl yrt ycl yfi ok yse yde yst ytr) : ∃ n, wY_evaluate_126 post x1 x2 x3 (nI l) x5 (nI N) (nI L) ymx ymq ymi (nI mv) yff n 0 yA yB yC ykd ylf yfl yrt ycl yfi yok yse yde yst ytr := by
  refine loop_0 (fun n i (ok : Nat → Int32) => wY_evaluate_126 post x1 x2 x3 (nI l) x5 (nI N) (nI L) ymx ymq ymi (nI mv) yff n (nI i) yA yB yC ykd ylf yfl yrt ycl yfi ok yse yde yst ytr) (fun i ok => ∀ v, v < i → bb_z1 (ok v) (bb_BS xfo l v)) N yok (fun v h => absurd h (Nat.not_lt_zero _)) ?_ ?_
  · intro n ok h
    exact hx ok n h
  · intro n i ok hi h ih
    refine br_f (nI_ge hi (by omega)) ?_
    rw [bb_row, nI_clamp (n := l * 12 + i) (by omega), nI_clamp (n := i) (by omega)]
    have zt := htr l i hl hi
    refine ⟨vp_in_nI (by omega) (by decide), vp_in_nI (by omega) (by decide), nm_r (congrArg (upd ok i) (bb_z1_n zt)) (nm_r (nI_1 i) (ih _ fun v hv => ?_))⟩
    by_cases e : v = i
    · rw [e, pk_us]; exact zt
    · rw [pk_un e]; exact h v (by omega)
theorem by_ev {post : Int32 → SY → Prop} {f u : Nat} (hT : by_T N L T mv yA yB yC) (hN : N ≤ 12) (hL : L ≤ 3) (hv : mv ≤ 32) (hC : by_C N c ycl) (hf : f < 32) (hu : u < N) (hFm : bb_Fm N L T c ykd ylf yfl yrt xfo f) (htr : bb_Tr N ytr xfo f)
    (hp : ∀ r ok se, bb_z1 r (bt (xfo f) u = true) → post r ((nI N), (nI L), ymx, ymq, ymi, (nI mv), yff, yA, yB, yC, ykd, ylf, yfl, yrt, ycl, yfi, ok, se, yde, yst, ytr)) : wpY_evaluate post ((nI N), (nI L), ymx, ymq, ymi, (nI mv), yff, yA, yB, yC, ykd, ylf, yfl, yrt, ycl, yfi, yok, yse, yde, yst, ytr) (nI f) (nI u) := by
  unfold wpY_evaluate
  dsimp only
  rw [nI_clamp (n := f) (by omega)]
  have v1 := vp_in_nI (n := f) (N := 32) (by omega) (by decide)
  have v2 := vp_in_nI (n := u) (N := 12) (by omega) (by decide)
  rcases hFm with ⟨ek, h⟩ | ⟨ek, l, hl, el, h⟩ | ⟨ek, l, hl, el, h⟩ | ⟨ek, l, r, hl, hr, el, er, h⟩ | ⟨ek, l, a, r, hl, ha, hr, el, ea, er, h⟩ | ⟨ek, l, hl, el, h⟩
  · exact ⟨v1, nm_r ek ⟨v1, nm_e ⟨v1, nm_e (br_t rfl (hp 1 yok yse (Or.inl ⟨rfl, h u hu⟩)))⟩⟩⟩
  · refine ⟨v1, nm_r ek ⟨v1, nm_r el ⟨v1, nm_e (br_f (by decide) (br_t rfl ?_))⟩⟩⟩
    have cu := hC u hu
    have cl' := hC l hl
    have hcu := cu.2
    have hcl := cl'.2
    rw [nI_clamp (n := u) (by omega), nI_clamp (n := l) (by omega), cu.1, cl'.1]
    exact ⟨v2, vp_in_nI (by omega) (by decide), pk_eq (c u) (c l) (fun e => hp 1 yok yse (Or.inl ⟨rfl, (h u hu).mpr e⟩)) (fun e => hp 0 yok yse (Or.inr ⟨rfl, fun z => e ((h u hu).mp z)⟩))⟩
  · refine ⟨v1, nm_r ek ⟨v1, nm_r el ⟨v1, nm_e (br_f (by decide) (br_f (by decide) (br_t rfl ?_)))⟩⟩⟩
    rw [bb_row, nI_clamp (n := l * 12 + u) (by omega)]
    have zt := htr l u hl hu
    exact ⟨vp_in_nI (by omega) (by decide), br_c (fun z => hp 1 yok yse (Or.inl ⟨rfl, (h u hu).mpr ((bb_z1_f zt).mp z)⟩)) (fun z => hp 0 yok yse (Or.inr ⟨rfl, fun q => (h u hu).mp q ((bb_z1_t zt).mp z)⟩))⟩
  · refine ⟨v1, nm_r ek ⟨v1, nm_r el ⟨v1, nm_r er (br_f (by decide) (br_f (by decide) (br_f (by decide) (br_t rfl ?_))))⟩⟩⟩
    rw [bb_row, bb_row, nI_clamp (n := l * 12 + u) (by omega), nI_clamp (n := r * 12 + u) (by omega)]
    have zl := htr l u hl hu
    have zr := htr r u hr hu
    exact ⟨vp_in_nI (by omega) (by decide), br_c (fun z => hp 0 yok yse (Or.inr ⟨rfl, fun q => (bb_z1_f zl).mp z ((h u hu).mp q).1⟩)) (fun z => ⟨vp_in_nI (by omega) (by decide), br_c (fun z2 => hp 0 yok yse (Or.inr ⟨rfl, fun q => (bb_z1_f zr).mp z2 ((h u hu).mp q).2⟩)) (fun z2 => hp 1 yok yse (Or.inl ⟨rfl, (h u hu).mpr ⟨(bb_z1_t zl).mp z, (bb_z1_t zr).mp z2⟩⟩))⟩)⟩
  · refine ⟨v1, nm_r ek ⟨v1, nm_r el ⟨v1, nm_r er (br_f (by decide) (br_f (by decide) (br_f (by decide) (br_f (by decide) (by_e126 hN hf hl htr (fun ok n hok => ?_))))))⟩⟩⟩
    refine br_t (nI_le (Nat.le_refl _) (by omega)) (br_f (by decide) ?_)
    have go : (a = 0 → ¬ bt (xfo r) u = true) → wY_evaluate_203 post (nI f) (nI u) (nI r) (nI N) (nI L) ymx ymq ymi (nI mv) yff yA yB yC ykd ylf yfl yrt ycl yfi ok yse yde yst ytr := by
      intro h0
      unfold wY_evaluate_203
      refine by_walk hT hN hL hv hu hok (fun se hse => by_e211 hT hN hL hv hf hr ha ea htr hse (fun q => hp 1 ok se (Or.inl ⟨rfl, (h u hu).mpr (Or.inl (bb_rch_unt.mpr q))⟩)) (fun q => hp 0 ok se (Or.inr ⟨rfl, fun z => ?_⟩)))
      rcases (h u hu).mp z with z | z
      · exact q (bb_rch_unt.mp z)
      · exact h0 z.1 z.2
    rw [nI_clamp (n := f) (by omega), ea, bb_row, nI_clamp (n := r * 12 + u) (by omega)]
    have zr := htr r u hr hu
    exact ⟨v1, pk_eq a 0 (fun e => ⟨vp_in_nI (by omega) (by decide), br_c (fun z => go fun _ => (bb_z1_f zr).mp z) (fun z => hp 1 ok yse (Or.inl ⟨rfl, (h u hu).mpr (Or.inr ⟨e, (bb_z1_t zr).mp z⟩)⟩))⟩) (fun e => go fun z => absurd z e)⟩
  · refine ⟨v1, nm_r ek ⟨v1, nm_r el ⟨v1, nm_e (br_f (by decide) (br_f (by decide) (br_f (by decide) (br_f (by decide) (by_e126 hN hf hl htr (fun ok n hok => ?_))))))⟩⟩⟩
    refine br_t (nI_le (Nat.le_refl _) (by omega)) (br_t rfl (by_ling hT hN hL hv hok (fun se hse => ?_)))
    rw [nI_clamp (n := u) (by omega)]
    exact ⟨v2, bb_z1_w (hse u hu), hp (se u) ok se (bb_z1_c (hse u hu) (h u hu).symm)⟩
theorem by_h39 {post : Int32 → SY → Prop} {J31 : Int32 → Int32 → Int32 → Int32 → Int32 → Int32 → Int32 → Int32 → (Nat → Int32) → (Nat → Int32) → (Nat → Int32) → (Nat → Int32) → (Nat → Int32) → (Nat → Int32) → (Nat → Int32) → (Nat → Int32) → (Nat → Int32) → (Nat → Int32) → (Nat → Int32) → (Nat → Int32) → (Nat → Int32) → (Nat → Int32) → Prop}
    {x1 x2 : Int32} {f : Nat} (hT : by_T N L T mv yA yB yC) (hN : N ≤ 12) (hL : L ≤ 3) (hv : mv ≤ 32) (hC : by_C N c ycl) (hf : f < 32) (hFm : bb_Fm N L T c ykd ylf yfl yrt xfo f) (htr : bb_Tr N ytr xfo f)
    (hJ : ∀ ok se tr, bb_Tr N tr xfo (f + 1) → J31 (nI (f + 1)) (nI N) (nI L) ymx ymq ymi (nI mv) yff yA yB yC ykd ylf yfl yrt ycl yfi ok se yde yst tr) : ∃ n, wY_holds_39 post J31 x1 x2 (nI f) n 0 (nI N) (nI L) ymx ymq ymi (nI mv) yff yA yB yC ykd ylf yfl yrt ycl yfi yok yse yde yst ytr := by
  refine loop_0 (fun n i (s : (Nat → Int32) × (Nat → Int32) × (Nat → Int32)) => wY_holds_39 post J31 x1 x2 (nI f) n (nI i) (nI N) (nI L) ymx ymq ymi (nI mv) yff yA yB yC ykd ylf yfl yrt ycl yfi s.1 s.2.1 yde yst s.2.2) (fun i s => bb_Tr N s.2.2 xfo f ∧ ∀ v, v < i → bb_z1 (s.2.2 (f * 12 + v)) (bt (xfo f) v = true)) N (yok, yse, ytr) ⟨htr, fun v h => absurd h (Nat.not_lt_zero _)⟩ ?_ ?_
  · rintro n ⟨ok, se, tr⟩ ⟨h1, h2⟩
    dsimp only at h1 h2 ⊢
    refine br_t (nI_le (Nat.le_refl _) (by omega)) (nm_r (nI_1 f) (hJ ok se tr fun f' v hf' hv' => ?_))
    by_cases e : f' = f
    · rw [e]; exact h2 v hv'
    · exact h1 f' v (by omega) hv'
  · rintro n i ⟨ok, se, tr⟩ hi ⟨h1, h2⟩ ih
    dsimp only at h1 h2 ⊢
    refine br_f (nI_ge hi (by omega)) (by_ev hT hN hL hv hC hf hi hFm h1 (fun r ok' se' hr => ?_))
    rw [bb_row, nI_clamp (n := f * 12 + i) (by omega)]
    refine ⟨vp_in_nI (by omega) (by decide), nm_r (congrArg (upd tr _) (bb_z1_n hr)) (nm_r (nI_1 i) (ih (ok', se', upd tr (f * 12 + i) r) ⟨fun f' v hf' hv' => ?_, fun v hv' => ?_⟩))⟩
    · dsimp only
      rw [pk_un (by omega)]
      exact h1 f' v hf' hv'
    · dsimp only
      by_cases e : v = i
      · rw [e, pk_us]; exact hr
      · rw [pk_un (by omega)]; exact h2 v (by omega)
theorem by_holds {post : Int32 → SY → Prop} {g u fm : Nat} (hT : by_T N L T mv yA yB yC) (hN : N ≤ 12) (hL : L ≤ 3) (hv : mv ≤ 32) (hC : by_C N c ycl) (hfm : fm ≤ 32) (hg : g < fm) (hu : u < N) (hFm : ∀ f, f < fm → bb_Fm N L T c ykd ylf yfl yrt xfo f)
    (h1 : bt (xfo g) u = true → ∀ ok se tr, post 1 ((nI N), (nI L), ymx, ymq, 1, (nI mv), nI fm, yA, yB, yC, ykd, ylf, yfl, yrt, ycl, yfi, ok, se, yde, yst, tr)) (h0 : ¬ bt (xfo g) u = true → ∀ ok se tr, post 0 ((nI N), (nI L), ymx, ymq, 1, (nI mv), nI fm, yA, yB, yC, ykd, ylf, yfl, yrt, ycl, yfi, ok, se, yde, yst, tr)) : wpY_holds post ((nI N), (nI L), ymx, ymq, 1, (nI mv), nI fm, yA, yB, yC, ykd, ylf, yfl, yrt, ycl, yfi, yok, yse, yde, yst, ytr) (nI g) (nI u) := by
  unfold wpY_holds
  dsimp only
  refine br_f (by decide) (by_nf_i hfm hg (br_t rfl (by_ns_i hN hu (br_t rfl ?_))))
  refine loop_0 (fun n i (s : (Nat → Int32) × (Nat → Int32) × (Nat → Int32)) => wY_holds_31 post (nI g) (nI u) n (nI i) (nI N) (nI L) ymx ymq 1 (nI mv) (nI fm) yA yB yC ykd ylf yfl yrt ycl yfi s.1 s.2.1 yde yst s.2.2) (fun i s => bb_Tr N s.2.2 xfo i) (g + 1) (yok, yse, ytr) (fun f' v h => absurd h (Nat.not_lt_zero _)) ?_ ?_
  · rintro n ⟨ok, se, tr⟩ h
    dsimp only at h ⊢
    refine br_t (nI_lt (by omega) (by omega)) ?_
    rw [bb_row, nI_clamp (n := g * 12 + u) (by omega)]
    have zt := h g u (by omega) hu
    exact ⟨vp_in_nI (by omega) (by decide), br_c (fun z => h0 ((bb_z1_f zt).mp z) ok se tr) (fun z => h1 ((bb_z1_t zt).mp z) ok se tr)⟩
  · rintro n i ⟨ok, se, tr⟩ hi h ih
    dsimp only at h ⊢
    exact br_f (nI_nlt (by omega) (by omega)) (by_h39 hT hN hL hv hC (by omega) (hFm i (by omega)) h (fun ok' se' tr' q => ih (ok', se', tr') q))
end
end
section
section
variable {T : Nat → Nat → Nat → Prop} {N L M Q mv fm : Nat} {A B C tg fo kd lf fl rt : Nat → Int32} {c : Nat → Nat}
def bb_Nd (mv : Nat) (A B C : Nat → Int32) : Prop := ∀ i j, i < mv → j < mv → A i = A j → B i = B j → C i = C j → i = j
theorem by_Tof {m s a t : Nat} (hT : by_T N L T mv A B C) (hN : N ≤ 12) (hL : L ≤ 3) (hm : m < mv) (hs : s < N) (ha : a ≤ L) (ht : t < N) (e1 : A m = nI s) (e2 : B m = nI a) (e3 : C m = nI t) : T a s t := by
  obtain ⟨x', a', w', f1, f2, f3, q⟩ := hT.1 m hm
  have b := hT.2.2 _ _ _ q
  rw [e1, nI_eq (by omega) (by omega)] at f1
  rw [e2, nI_eq (by omega) (by omega)] at f2
  rw [e3, nI_eq (by omega) (by omega)] at f3
  subst f1 f2 f3
  exact q
def bb_Mo (N L M mv : Nat) (T : Nat → Nat → Nat → Prop) (tg A B C : Nat → Int32) : Prop := bx_T N L T tg ∧ by_T N L T mv A B C ∧ bb_Nd mv A B C
theorem bb_mo_add {s a t : Nat} (hN : N ≤ 12) (hL : L ≤ 3) (h : bb_Mo N L M mv T tg A B C) (hs : s < N) (ha : a ≤ L) (ht : t < N) (hn : ¬ T a s t) :
    bb_Mo N L M (mv + 1) (fun a' s' t' => T a' s' t' ∨ (a' = a ∧ s' = s ∧ t' = t)) (upd tg (a * 12 + s) (tg (a * 12 + s) ||| ((1 : Int32) <<< (nI t &&& 31)))) (upd A mv (nI s)) (upd B mv (nI a)) (upd C mv (nI t)) := by
  obtain ⟨h1, h2, h3⟩ := h
  refine ⟨⟨?_, ?_⟩, ⟨?_, ?_, ?_⟩, ?_⟩
  · rintro a' s' t' (q | ⟨e1, e2, e3⟩)
    · exact h1.1 _ _ _ q
    · exact ⟨by omega, by omega, by omega⟩
  · intro a' s' t' ha' hs'
    by_cases e : a' * 12 + s' = a * 12 + s
    · have e1 : a' = a := by omega
      have e2 : s' = s := by omega
      subst e1 e2
      rw [pk_us, bb_ins _ (by omega), h1.2 _ _ _ ha' hs']
      exact ⟨fun z => z.elim Or.inl (fun z => Or.inr ⟨rfl, rfl, z⟩), fun z => z.elim Or.inl (fun z => Or.inr z.2.2)⟩
    · rw [pk_un e, h1.2 _ _ _ ha' hs']
      exact ⟨Or.inl, fun z => z.elim id (fun z => absurd (by rw [z.1, z.2.1]) e)⟩
  · intro m hm
    by_cases e : m = mv
    · rw [e, pk_us, pk_us, pk_us]
      exact ⟨s, a, t, rfl, rfl, rfl, Or.inr ⟨rfl, rfl, rfl⟩⟩
    · rw [pk_un e, pk_un e, pk_un e]
      obtain ⟨x, b, y, e1, e2, e3, q⟩ := h2.1 m (by omega)
      exact ⟨x, b, y, e1, e2, e3, Or.inl q⟩
  · rintro a' s' t' (q | ⟨e1, e2, e3⟩)
    · obtain ⟨m, hm, q1, q2, q3⟩ := h2.2.1 _ _ _ q
      have e : m ≠ mv := by omega
      refine ⟨m, by omega, ?_, ?_, ?_⟩
      · rw [pk_un e]; exact q1
      · rw [pk_un e]; exact q2
      · rw [pk_un e]; exact q3
    · subst e1 e2 e3
      exact ⟨mv, by omega, pk_us, pk_us, pk_us⟩
  · rintro a' s' t' (q | ⟨e1, e2, e3⟩)
    · exact h1.1 _ _ _ q
    · exact ⟨by omega, by omega, by omega⟩
  · intro i j hi hj q1 q2 q3
    by_cases e : i = mv
    · by_cases e' : j = mv
      · omega
      · rw [e, pk_us, pk_un e'] at q1 q2 q3
        exact absurd (by_Tof h2 hN hL (by omega) hs ha ht q1.symm q2.symm q3.symm) hn
    · by_cases e' : j = mv
      · rw [e', pk_us, pk_un e] at q1 q2 q3
        exact absurd (by_Tof h2 hN hL (by omega) hs ha ht q1 q2 q3) hn
      · rw [pk_un e, pk_un e'] at q1 q2 q3
        exact h3 i j (by omega) (by omega) q1 q2 q3
theorem bb_mo_del {s a t m : Nat} (hN : N ≤ 12) (hL : L ≤ 3) (h : bb_Mo N L M (mv + 1) T tg A B C) (hs : s < N) (ha : a ≤ L) (ht : t < N) (hm : m < mv + 1) (e1 : A m = nI s) (e2 : B m = nI a) (e3 : C m = nI t) :
    bb_Mo N L M mv (fun a' s' t' => T a' s' t' ∧ ¬ (a' = a ∧ s' = s ∧ t' = t)) (upd tg (a * 12 + s) (tg (a * 12 + s) &&& (((1 : Int32) <<< (nI t &&& 31)) ^^^ (-1)))) (upd A m (A mv)) (upd B m (B mv)) (upd C m (C mv)) := by
  obtain ⟨h1, h2, h3⟩ := h
  have eq : ∀ i, i < mv + 1 → ∀ x b y, A i = nI x → B i = nI b → C i = nI y → (b = a ∧ x = s ∧ y = t) → i = m := by
    rintro i hi x b y f1 f2 f3 ⟨z1, z2, z3⟩
    subst z1 z2 z3
    exact h3 i m hi hm (f1.trans e1.symm) (f2.trans e2.symm) (f3.trans e3.symm)
  refine ⟨⟨?_, ?_⟩, ⟨?_, ?_, ?_⟩, ?_⟩
  · rintro a' s' t' q
    exact h1.1 _ _ _ q.1
  · intro a' s' t' ha' hs'
    by_cases e : a' * 12 + s' = a * 12 + s
    · have z1 : a' = a := by omega
      have z2 : s' = s := by omega
      subst z1 z2
      rw [pk_us, bb_del _ (by omega), h1.2 _ _ _ ha' hs']
      exact ⟨fun z => ⟨z.1, fun y => z.2 y.2.2⟩, fun z => ⟨z.1, fun y => z.2 ⟨rfl, rfl, y⟩⟩⟩
    · rw [pk_un e, h1.2 _ _ _ ha' hs']
      exact ⟨fun z => ⟨z, fun y => e (by rw [y.1, y.2.1])⟩, fun z => z.1⟩
  · intro j hj
    by_cases e : j = m
    · rw [e, pk_us, pk_us, pk_us]
      obtain ⟨x, b, y, f1, f2, f3, q⟩ := h2.1 mv (by omega)
      refine ⟨x, b, y, f1, f2, f3, q, fun z => ?_⟩
      have := eq mv (by omega) x b y f1 f2 f3 z
      omega
    · rw [pk_un e, pk_un e, pk_un e]
      obtain ⟨x, b, y, f1, f2, f3, q⟩ := h2.1 j (by omega)
      refine ⟨x, b, y, f1, f2, f3, q, fun z => ?_⟩
      exact e (eq j (by omega) x b y f1 f2 f3 z)
  · rintro a' s' t' ⟨q, qn⟩
    obtain ⟨i, hi, f1, f2, f3⟩ := h2.2.1 _ _ _ q
    have bd := h1.1 _ _ _ q
    have hne : i ≠ m := by
      intro z
      subst z
      rw [e1, nI_eq (by omega) (by omega)] at f1
      rw [e2, nI_eq (by omega) (by omega)] at f2
      rw [e3, nI_eq (by omega) (by omega)] at f3
      exact qn ⟨f2.symm, f1.symm, f3.symm⟩
    by_cases e : i = mv
    · subst e
      exact ⟨m, by omega, by rw [pk_us]; exact f1, by rw [pk_us]; exact f2, by rw [pk_us]; exact f3⟩
    · exact ⟨i, by omega, by rw [pk_un hne]; exact f1, by rw [pk_un hne]; exact f2, by rw [pk_un hne]; exact f3⟩
  · rintro a' s' t' q
    exact h1.1 _ _ _ q.1
  · intro i j hi hj
    by_cases ei : i = m
    · by_cases ej : j = m
      · intro _ _ _
        omega
      · rw [ei, pk_us, pk_us, pk_us, pk_un ej, pk_un ej, pk_un ej]
        intro q1 q2 q3
        have := h3 mv j (by omega) (by omega) q1 q2 q3
        omega
    · by_cases ej : j = m
      · rw [ej, pk_us, pk_us, pk_us, pk_un ei, pk_un ei, pk_un ei]
        intro q1 q2 q3
        have := h3 i mv (by omega) (by omega) q1 q2 q3
        omega
      · rw [pk_un ei, pk_un ei, pk_un ei, pk_un ej, pk_un ej, pk_un ej]
        exact h3 i j (by omega) (by omega)
theorem bb_Fm_up {f : Nat} {k1 k2 k3 k4 r : Int32} (hf : f < fm) (h : bb_Fm N L T c kd lf fl rt fo f) : bb_Fm N L T c (upd kd fm k1) (upd lf fm k2) (upd fl fm k3) (upd rt fm k4) (upd fo fm r) f := by
  have ne : f ≠ fm := by omega
  have ks : ∀ l, l < f → bb_BS (upd fo fm r) l = bb_BS fo l := by
    intro l hl
    funext s
    unfold bb_BS
    rw [pk_un (by omega)]
  have k0 : ∀ l, l < f → upd fo fm r l = fo l := fun l hl => pk_un (by omega)
  unfold bb_Fm
  rw [pk_un ne, pk_un ne, pk_un ne, pk_un ne, pk_un ne]
  rcases h with h | h | ⟨ek, l, hl, el, h⟩ | ⟨ek, l, r', hl, hr, el, er, h⟩ | ⟨ek, l, a, r', hl, ha, hr, el, ea, er, h⟩ | ⟨ek, l, hl, el, h⟩
  · exact Or.inl h
  · exact Or.inr (Or.inl h)
  · refine Or.inr (Or.inr (Or.inl ⟨ek, l, hl, el, ?_⟩))
    rw [k0 l hl]; exact h
  · refine Or.inr (Or.inr (Or.inr (Or.inl ⟨ek, l, r', hl, hr, el, er, ?_⟩)))
    rw [k0 l hl, k0 r' hr]; exact h
  · refine Or.inr (Or.inr (Or.inr (Or.inr (Or.inl ⟨ek, l, a, r', hl, ha, hr, el, ea, er, ?_⟩))))
    rw [ks l hl, ks r' hr, k0 r' hr]; exact h
  · refine Or.inr (Or.inr (Or.inr (Or.inr (Or.inr ⟨ek, l, hl, el, ?_⟩))))
    rw [ks l hl]; exact h
end
def bb_Mi (N L fm : Nat) (bT : Int32) (bs fo kd lf fl rt cl : Nat → Int32) (T : Nat → Nat → Nat → Prop) (c : Nat → Nat) : Prop :=
  bT = nI (bb_cn (bb_ldr c) N) ∧ (∀ s, s < N → c s ≤ s ∧ c (c s) = c s) ∧ (∀ s, s < N → cl s = nI (c s)) ∧ (∀ i s, i < bb_cn (bb_ldr c) N → (bt (bs i) s = true ↔ s < N ∧ bb_nb c s = i)) ∧
  ∀ f, f < fm → (∀ u, bt (fo f) u = true → u < N) ∧ bb_Fm N L T c kd lf fl rt fo f
def bb_Rl (N L M Q mv fm : Nat) (T : Nat → Nat → Nat → Prop) (c : Nat → Nat) (mi bT : Int32) (tg bs fo A B C kd lf fl rt cl : Nat → Int32) : Prop :=
  2 ≤ N ∧ N ≤ 12 ∧ L ≤ 3 ∧ M ≤ 32 ∧ Q ≤ 32 ∧ mv ≤ M ∧ fm ≤ Q ∧ bb_Mo N L M mv T tg A B C ∧ ((mi = 0 ∧ fm = 0) ∨ (mi = 1 ∧ bb_Mi N L fm bT bs fo kd lf fl rt cl T c))
def i_Rel (k : Nat) (u : SX) (v : SY) : Prop :=
  ∃ (N L M Q mv fm : Nat) (T : Nat → Nat → Nat → Prop) (c : Nat → Nat) (mi bT : Int32) (tg bs fo A B C kd lf fl rt cl fi ok se de st tr : Nat → Int32),
    u = (nI N, nI L, nI M, nI Q, nI mv, mi, bT, nI fm, tg, bs, fo) ∧ v = (nI N, nI L, nI M, nI Q, mi, nI mv, nI fm, A, B, C, kd, lf, fl, rt, cl, fi, ok, se, de, st, tr) ∧
    bb_Rl N L M Q mv fm T c mi bT tg bs fo A B C kd lf fl rt cl
theorem i_up {k : Nat} {u : SX} {v : SY} (h : i_Rel k u v) : i_Rel (k + 5) u v := h
theorem bb_clamp (p : Int32) {lo hi : Nat} (h : lo ≤ hi) (hh : hi < 2 ^ 31) : ∃ n, lo ≤ n ∧ n ≤ hi ∧ (∀ post : Int32 → Prop, post (nI n) → wpX_clamp post p (nI lo) (nI hi)) ∧ (∀ (post : Int32 → Prop) (a1 a2 a3 a4 a5 a6 a7 : Int32) (b1 b2 b3 b4 b5 b6 b7 b8 b9 b10 b11 b12 b13 b14 : Nat → Int32), post (nI n) → wpY_clamp post (a1, a2, a3, a4, a5, a6, a7, b1, b2, b3, b4, b5, b6, b7, b8, b9, b10, b11, b12, b13, b14) p (nI lo) (nI hi)) := by
  by_cases h1 : nI lo ≤ p
  · by_cases h2 : p ≤ nI hi
    · obtain ⟨j, hj, e⟩ := nI_of (x := p) (Int32.not_lt.mpr (Int32.le_trans (nI_pos' (by omega)) h1))
      subst e
      have k1 := (nI_leI (by omega) hj).mp h1
      have k2 := (nI_leI hj hh).mp h2
      exact ⟨j, k1, k2, fun _ q => br_t h1 (br_t h2 q), fun _ _ _ _ _ _ _ _ _ _ _ _ _ _ _ _ _ _ _ _ _ _ q => br_t h1 (br_t h2 q)⟩
    · exact ⟨hi, h, Nat.le_refl _, fun _ q => br_t h1 (br_f h2 q), fun _ _ _ _ _ _ _ _ _ _ _ _ _ _ _ _ _ _ _ _ _ _ q => br_t h1 (br_f h2 q)⟩
  · exact ⟨lo, Nat.le_refl _, h, fun _ q => br_f h1 q, fun _ _ _ _ _ _ _ _ _ _ _ _ _ _ _ _ _ _ _ _ _ _ q => br_f h1 q⟩
theorem i_vc0 (k0 : Int32) (k1 : Int32) (k2 : Int32) (k3 : Int32) : wpX_init (fun u => wpY_init (fun v => i_Rel 4 u v) k0 k1 k2 k3) k0 k1 k2 k3 := by
  obtain ⟨N, n1, n2, xN, yN⟩ := bb_clamp k0 (lo := 2) (hi := 12) (by omega) (by omega)
  obtain ⟨L, l1, l2, xL, yL⟩ := bb_clamp k1 (lo := 1) (hi := 3) (by omega) (by omega)
  obtain ⟨M, m1, m2, xM, yM⟩ := bb_clamp k2 (lo := 8) (hi := 32) (by omega) (by omega)
  obtain ⟨Q, q1, q2, xQ, yQ⟩ := bb_clamp k3 (lo := 8) (hi := 32) (by omega) (by omega)
  unfold wpX_init wpY_init
  refine xN _ (xL _ (xM _ (xQ _ (yN _ _ _ _ _ _ _ _ _ _ _ _ _ _ _ _ _ _ _ _ _ _ (yL _ _ _ _ _ _ _ _ _ _ _ _ _ _ _ _ _ _ _ _ _ _ (yM _ _ _ _ _ _ _ _ _ _ _ _ _ _ _ _ _ _ _ _ _ _ (yQ _ _ _ _ _ _ _ _ _ _ _ _ _ _ _ _ _ _ _ _ _ _ ?_)))))))
  refine ⟨N, L, M, Q, 0, 0, fun _ _ _ => False, fun s => s, 0, 0, _, _, _, _, _, _, _, _, _, _, _, _, _, _, _, _, _, rfl, rfl, n1, n2, l2, m2, q2, by omega, by omega, ⟨⟨fun _ _ _ z => z.elim, ?_⟩, ⟨?_, fun _ _ _ z => z.elim, fun _ _ _ z => z.elim⟩, ?_⟩, Or.inl ⟨rfl, rfl⟩⟩
  · intro a s t _ _
    rw [b_0]
    exact ⟨fun z => absurd z (by decide), fun z => z.elim⟩
  · intro m hm
    omega
  · intro i j hi
    omega
end
section
theorem bb_mk {k N L M Q mv fm : Nat} {T : Nat → Nat → Nat → Prop} {c : Nat → Nat} {mi bT : Int32} {tg bs fo A B C kd lf fl rt cl fi ok se de st tr : Nat → Int32} (h : bb_Rl N L M Q mv fm T c mi bT tg bs fo A B C kd lf fl rt cl) :
    i_Rel k (nI N, nI L, nI M, nI Q, nI mv, mi, bT, nI fm, tg, bs, fo) (nI N, nI L, nI M, nI Q, mi, nI mv, nI fm, A, B, C, kd, lf, fl, rt, cl, fi, ok, se, de, st, tr) :=
  ⟨N, L, M, Q, mv, fm, T, c, mi, bT, tg, bs, fo, A, B, C, kd, lf, fl, rt, cl, fi, ok, se, de, st, tr, rfl, rfl, h⟩
section
variable {N L : Nat} {xml xql xmt xmi xbT xft : Int32} {xtg xbs xfo : Nat → Int32}
theorem bx_pre {P G : Prop} {p0 p1 p2 : Int32} (hN : N ≤ 12) (hL : L ≤ 3) (hbad : ((∀ s, s < N → p0 ≠ nI s) ∨ (∀ s, s < L + 1 → p1 ≠ nI s) ∨ (∀ s, s < N → p2 ≠ nI s)) → P)
    (hok : ∀ s a t, s < N → a < L + 1 → t < N → p0 = nI s → p1 = nI a → p2 = nI t → G) :
    wpX_isState (fun r => (r = 0 → P) ∧ (¬ r = 0 → wpX_isLabel (fun r => (r = 0 → P) ∧ (¬ r = 0 → wpX_isState (fun r => (r = 0 → P) ∧ (¬ r = 0 → G)) ((nI N), (nI L), xml, xql, xmt, xmi, xbT, xft, xtg, xbs, xfo) p2)) ((nI N), (nI L), xml, xql, xmt, xmi, xbT, xft, xtg, xbs, xfo) p1)) ((nI N), (nI L), xml, xql, xmt, xmi, xbT, xft, xtg, xbs, xfo) p0 := by
  rcases bb_cs p0 N with ⟨s, hs, e1⟩ | hs
  · rcases bb_cs p1 (L + 1) with ⟨a, ha, e2⟩ | ha
    · rcases bb_cs p2 N with ⟨t, ht, e3⟩ | ht
      · have g := hok s a t hs ha ht e1 e2 e3
        subst e1 e2 e3
        exact bx_st_i hN hs (br_f (by decide) (bx_lb_i hL ha (br_f (by decide) (bx_st_i hN ht (br_f (by decide) g)))))
      · subst e1 e2
        exact bx_st_i hN hs (br_f (by decide) (bx_lb_i hL ha (br_f (by decide) (bx_st_o hN ht (br_t rfl (hbad (Or.inr (Or.inr ht))))))))
    · subst e1
      exact bx_st_i hN hs (br_f (by decide) (bx_lb_o hL ha (br_t rfl (hbad (Or.inr (Or.inl ha))))))
  · exact bx_st_o hN hs (br_t rfl (hbad (Or.inl hs)))
theorem bx_preB {P G : Prop} {p0 p1 p2 : Int32} {m : Nat} (hm : m ≤ 12) (hL : L ≤ 3) (hbad : ((∀ s, s < m → p0 ≠ nI s) ∨ (∀ s, s < L + 1 → p1 ≠ nI s) ∨ (∀ s, s < m → p2 ≠ nI s)) → P)
    (hok : ∀ s a t, s < m → a < L + 1 → t < m → p0 = nI s → p1 = nI a → p2 = nI t → G) :
    wpX_isBlock (fun r => (r = 0 → P) ∧ (¬ r = 0 → wpX_isLabel (fun r => (r = 0 → P) ∧ (¬ r = 0 → wpX_isBlock (fun r => (r = 0 → P) ∧ (¬ r = 0 → G)) ((nI N), (nI L), xml, xql, xmt, xmi, nI m, xft, xtg, xbs, xfo) p2)) ((nI N), (nI L), xml, xql, xmt, xmi, nI m, xft, xtg, xbs, xfo) p1)) ((nI N), (nI L), xml, xql, xmt, xmi, nI m, xft, xtg, xbs, xfo) p0 := by
  rcases bb_cs p0 m with ⟨s, hs, e1⟩ | hs
  · rcases bb_cs p1 (L + 1) with ⟨a, ha, e2⟩ | ha
    · rcases bb_cs p2 m with ⟨t, ht, e3⟩ | ht
      · have g := hok s a t hs ha ht e1 e2 e3
        subst e1 e2 e3
        exact bx_bl_i hm hs (br_f (by decide) (bx_lb_i hL ha (br_f (by decide) (bx_bl_i hm ht (br_f (by decide) g)))))
      · subst e1 e2
        exact bx_bl_i hm hs (br_f (by decide) (bx_lb_i hL ha (br_f (by decide) (bx_bl_o hm ht (br_t rfl (hbad (Or.inr (Or.inr ht))))))))
    · subst e1
      exact bx_bl_i hm hs (br_f (by decide) (bx_lb_o hL ha (br_t rfl (hbad (Or.inr (Or.inl ha))))))
  · exact bx_bl_o hm hs (br_t rfl (hbad (Or.inl hs)))
end
theorem i_vc_addMove {k : Nat} {u : SX} {v : SY} (I : i_Rel k u v) (hk : k + 5 ≤ 2564) (v1 : Int32) (v2 : Int32) (v3 : Int32) : wpX_addMove (fun r u' => wpY_addMove (fun r' v' => r' = r ∧ i_Rel (k + 5) u' v') v v1 v2 v3) u v1 v2 v3 := by
  obtain ⟨N, L, M, Q, mv, fm, T, c, mi, bT, tg, bs, fo, A, B, C, kd, lf, fl, rt, cl, fi, ok, se, de, st, tr, rfl, rfl, R⟩ := I
  have rel : ∀ ok se tr, i_Rel (k + 5) (nI N, nI L, nI M, nI Q, nI mv, mi, bT, nI fm, tg, bs, fo) (nI N, nI L, nI M, nI Q, mi, nI mv, nI fm, A, B, C, kd, lf, fl, rt, cl, fi, ok, se, de, st, tr) := fun ok se tr => bb_mk R
  obtain ⟨h2, hN, hL, hM, hQ, hmv, hfm, hMo, hm⟩ := R
  have hX := hMo.1
  have hY := hMo.2.1
  have hB := bb_cn_le (bb_ldr c) N
  rcases hm with ⟨e, ef⟩ | ⟨e, hmi⟩
  · subst e
    unfold wpX_addMove
    dsimp only
    refine br_t rfl (bx_pre hN hL (fun h => ?_) (fun s a t hs ha ht e1 e2 e3 => ?_))
    · unfold wpY_addMove
      dsimp only
      exact br_t rfl (by_bm_o hN hL h (br_f (by decide) ⟨rfl, rel _ _ _⟩))
    · subst e1 e2 e3
      refine bx_mit hX hN hL (by omega) hs ht (fun q => br_f (by decide) ?_) (fun q => br_t rfl (pk_lt mv M (fun z => ?_) (fun z => ?_)))
      · unfold wpY_addMove
        dsimp only
        exact br_t rfl (by_bm_i hN hL hs ha ht (br_t rfl (by_find hY (by omega) (fun m hm _ _ _ => br_f (nI_pos (by omega)) ⟨rfl, rel _ _ _⟩) (fun z => absurd q z))))
      · unfold wpX_row
        dsimp only
        rw [bb_row, nI_clamp (n := a * 12 + s) (by omega)]
        refine ⟨vp_in_nI (by omega) (by decide), vp_in_nI (by omega) (by decide), nm_e (nm_r (nI_1 mv) ?_)⟩
        unfold wpY_addMove
        dsimp only
        refine br_t rfl (by_bm_i hN hL hs ha ht (br_t rfl (by_find hY (by omega) (fun m hm e1 e2 e3 => absurd (by_Tof hY hN hL hm hs (by omega) ht e1 e2 e3) q) (fun _ => br_t (by decide) (br_t (nI_lt z (by omega)) ?_)))))
        rw [nI_clamp (n := mv) (by omega)]
        have v1 := vp_in_nI (n := mv) (N := 32) (by omega) (by decide)
        exact ⟨v1, nm_e ⟨v1, nm_e ⟨v1, nm_e (nm_r (nI_1 mv) ⟨rfl, bb_mk (c := c) ⟨h2, hN, hL, hM, hQ, by omega, hfm, bb_mo_add hN hL hMo hs (by omega) ht q, Or.inl ⟨rfl, ef⟩⟩⟩)⟩⟩⟩
      · unfold wpY_addMove
        dsimp only
        exact br_t rfl (by_bm_i hN hL hs ha ht (br_t rfl (by_find hY (by omega) (fun m hm e1 e2 e3 => absurd (by_Tof hY hN hL hm hs (by omega) ht e1 e2 e3) q) (fun _ => br_t (by decide) (br_f (nI_nlt z (by omega)) ⟨rfl, rel _ _ _⟩)))))
  · subst e
    exact br_f (by decide) (br_f (by decide) ⟨rfl, rel _ _ _⟩)
theorem i_vc_removeMove {k : Nat} {u : SX} {v : SY} (I : i_Rel k u v) (hk : k + 5 ≤ 2564) (v1 : Int32) (v2 : Int32) (v3 : Int32) : wpX_removeMove (fun r u' => wpY_removeMove (fun r' v' => r' = r ∧ i_Rel (k + 5) u' v') v v1 v2 v3) u v1 v2 v3 := by
  obtain ⟨N, L, M, Q, mv, fm, T, c, mi, bT, tg, bs, fo, A, B, C, kd, lf, fl, rt, cl, fi, ok, se, de, st, tr, rfl, rfl, R⟩ := I
  have rel : ∀ ok se tr, i_Rel (k + 5) (nI N, nI L, nI M, nI Q, nI mv, mi, bT, nI fm, tg, bs, fo) (nI N, nI L, nI M, nI Q, mi, nI mv, nI fm, A, B, C, kd, lf, fl, rt, cl, fi, ok, se, de, st, tr) := fun ok se tr => bb_mk R
  obtain ⟨h2, hN, hL, hM, hQ, hmv, hfm, hMo, hm⟩ := R
  have hX := hMo.1
  have hY := hMo.2.1
  have hB := bb_cn_le (bb_ldr c) N
  rcases hm with ⟨e, ef⟩ | ⟨e, hmi⟩
  · subst e
    unfold wpX_removeMove
    dsimp only
    refine br_t rfl (bx_pre hN hL (fun h => ?_) (fun s a t hs ha ht e1 e2 e3 => ?_))
    · unfold wpY_removeMove
      dsimp only
      exact br_t rfl (by_bm_o hN hL h (br_f (by decide) ⟨rfl, rel _ _ _⟩))
    · subst e1 e2 e3
      refine bx_mit hX hN hL (by omega) hs ht (fun q => br_f (by decide) ?_) (fun q => br_t rfl ?_)
      · obtain ⟨m0, hm0, _⟩ := hY.2.1 _ _ _ q
        obtain ⟨w, rfl⟩ : ∃ w, mv = w + 1 := ⟨mv - 1, by omega⟩
        unfold wpX_row
        dsimp only
        rw [bb_row, nI_clamp (n := a * 12 + s) (by omega)]
        refine ⟨vp_in_nI (by omega) (by decide), vp_in_nI (by omega) (by decide), nm_e (nm_r (nI_pred w) ?_)⟩
        unfold wpY_removeMove
        dsimp only
        refine br_t rfl (by_bm_i hN hL hs ha ht (br_t rfl (by_find hY (by omega) (fun m hm e1 e2 e3 => br_t (nI_pos' (by omega)) (nm_r (nI_pred w) ?_)) (fun z => absurd q z))))
        rw [nI_clamp (n := m) (by omega), nI_clamp (n := w) (by omega)]
        have v1 := vp_in_nI (n := w) (N := 32) (by omega) (by decide)
        have v2 := vp_in_nI (n := m) (N := 32) (by omega) (by decide)
        exact ⟨v1, v2, nm_e ⟨v1, v2, nm_e ⟨v1, v2, nm_e ⟨rfl, bb_mk (c := c) ⟨h2, hN, hL, hM, hQ, by omega, hfm, bb_mo_del hN hL hMo hs (by omega) ht hm e1 e2 e3, Or.inl ⟨rfl, ef⟩⟩⟩⟩⟩⟩
      · unfold wpY_removeMove
        dsimp only
        exact br_t rfl (by_bm_i hN hL hs ha ht (br_t rfl (by_find hY (by omega) (fun m hm e1 e2 e3 => absurd (by_Tof hY hN hL hm hs (by omega) ht e1 e2 e3) q) (fun _ => br_f (by decide) ⟨rfl, rel _ _ _⟩))))
  · subst e
    exact br_f (by decide) (br_f (by decide) ⟨rfl, rel _ _ _⟩)
theorem i_vc_hasMove {k : Nat} {u : SX} {v : SY} (I : i_Rel k u v) (hk : k + 5 ≤ 2564) (v1 : Int32) (v2 : Int32) (v3 : Int32) : wpX_hasMove (fun r => wpY_hasMove (fun r' => r' = r ∧ i_Rel (k + 5) u v) v v1 v2 v3) u v1 v2 v3 := by
  obtain ⟨N, L, M, Q, mv, fm, T, c, mi, bT, tg, bs, fo, A, B, C, kd, lf, fl, rt, cl, fi, ok, se, de, st, tr, rfl, rfl, R⟩ := I
  have rel : ∀ ok se tr, i_Rel (k + 5) (nI N, nI L, nI M, nI Q, nI mv, mi, bT, nI fm, tg, bs, fo) (nI N, nI L, nI M, nI Q, mi, nI mv, nI fm, A, B, C, kd, lf, fl, rt, cl, fi, ok, se, de, st, tr) := fun ok se tr => bb_mk R
  obtain ⟨h2, hN, hL, hM, hQ, hmv, hfm, hMo, hm⟩ := R
  have hX := hMo.1
  have hY := hMo.2.1
  have hB := bb_cn_le (bb_ldr c) N
  unfold wpX_hasMove
  dsimp only
  refine bx_pre hN hL (fun h => ?_) (fun s a t hs ha ht e1 e2 e3 => ?_)
  · unfold wpY_hasMove
    dsimp only
    exact by_bm_o hN hL h (br_f (by decide) ⟨rfl, rel _ _ _⟩)
  · subst e1 e2 e3
    refine bx_mit hX hN hL (by omega) hs ht (fun q => br_f (by decide) ?_) (fun q => br_t rfl ?_)
    · unfold wpY_hasMove
      dsimp only
      exact by_bm_i hN hL hs ha ht (br_t rfl (by_find hY (by omega) (fun m hm _ _ _ => br_f (nI_pos (by omega)) ⟨rfl, rel _ _ _⟩) (fun z => absurd q z)))
    · unfold wpY_hasMove
      dsimp only
      exact by_bm_i hN hL hs ha ht (br_t rfl (by_find hY (by omega) (fun m hm e1 e2 e3 => absurd (by_Tof hY hN hL hm hs (by omega) ht e1 e2 e3) q) (fun _ => br_t (by decide) ⟨rfl, rel _ _ _⟩)))
theorem i_vc_moveCount {k : Nat} {u : SX} {v : SY} (I : i_Rel k u v) (hk : k + 5 ≤ 2564) : wpX_moveCount (fun r => wpY_moveCount (fun r' => r' = r ∧ i_Rel (k + 5) u v) v) u := by
  obtain ⟨N, L, M, Q, mv, fm, T, c, mi, bT, tg, bs, fo, A, B, C, kd, lf, fl, rt, cl, fi, ok, se, de, st, tr, rfl, rfl, R⟩ := I
  have rel : ∀ ok se tr, i_Rel (k + 5) (nI N, nI L, nI M, nI Q, nI mv, mi, bT, nI fm, tg, bs, fo) (nI N, nI L, nI M, nI Q, mi, nI mv, nI fm, A, B, C, kd, lf, fl, rt, cl, fi, ok, se, de, st, tr) := fun ok se tr => bb_mk R
  obtain ⟨h2, hN, hL, hM, hQ, hmv, hfm, hMo, hm⟩ := R
  have hX := hMo.1
  have hY := hMo.2.1
  have hB := bb_cn_le (bb_ldr c) N
  exact ⟨rfl, rel _ _ _⟩
theorem i_vc_minimise {k : Nat} {u : SX} {v : SY} (I : i_Rel k u v) (hk : k + 5 ≤ 2564) : wpX_minimise (fun r u' => wpY_minimise (fun r' v' => r' = r ∧ i_Rel (k + 5) u' v') v) u := by
  obtain ⟨N, L, M, Q, mv, fm, T, c, mi, bT, tg, bs, fo, A, B, C, kd, lf, fl, rt, cl, fi, ok, se, de, st, tr, rfl, rfl, R⟩ := I
  have rel : ∀ ok se tr, i_Rel (k + 5) (nI N, nI L, nI M, nI Q, nI mv, mi, bT, nI fm, tg, bs, fo) (nI N, nI L, nI M, nI Q, mi, nI mv, nI fm, A, B, C, kd, lf, fl, rt, cl, fi, ok, se, de, st, tr) := fun ok se tr => bb_mk R
  obtain ⟨h2, hN, hL, hM, hQ, hmv, hfm, hMo, hm⟩ := R
  have hX := hMo.1
  have hY := hMo.2.1
  have hB := bb_cn_le (bb_ldr c) N
  rcases hm with ⟨e, ef⟩ | ⟨e, hmi⟩
  · subst e ef
    obtain ⟨l, hl⟩ := bb_ldx N T
    refine bx_min hX h2 hN hL hl (fun g hc hg => by_min hY h2 hN hL (by omega) hl (fun cl' fi' ok' se' de' st' hcl => ⟨rfl, bb_mk (c := l) (fm := 0) ⟨h2, hN, hL, hM, hQ, hmv, Nat.zero_le _, hMo, Or.inr ⟨rfl, rfl, hc, hcl, hg, fun f hf => absurd hf (Nat.not_lt_zero _)⟩⟩⟩))
  · subst e
    exact br_f (by decide) (br_f (by decide) ⟨rfl, rel _ _ _⟩)
theorem i_vc_reopen {k : Nat} {u : SX} {v : SY} (I : i_Rel k u v) (hk : k + 5 ≤ 2564) : wpX_reopen (fun r u' => wpY_reopen (fun r' v' => r' = r ∧ i_Rel (k + 5) u' v') v) u := by
  obtain ⟨N, L, M, Q, mv, fm, T, c, mi, bT, tg, bs, fo, A, B, C, kd, lf, fl, rt, cl, fi, ok, se, de, st, tr, rfl, rfl, R⟩ := I
  have rel : ∀ ok se tr, i_Rel (k + 5) (nI N, nI L, nI M, nI Q, nI mv, mi, bT, nI fm, tg, bs, fo) (nI N, nI L, nI M, nI Q, mi, nI mv, nI fm, A, B, C, kd, lf, fl, rt, cl, fi, ok, se, de, st, tr) := fun ok se tr => bb_mk R
  obtain ⟨h2, hN, hL, hM, hQ, hmv, hfm, hMo, hm⟩ := R
  have hX := hMo.1
  have hY := hMo.2.1
  have hB := bb_cn_le (bb_ldr c) N
  rcases hm with ⟨e, ef⟩ | ⟨e, hmi⟩
  · subst e
    exact br_t rfl (br_t rfl ⟨rfl, rel _ _ _⟩)
  · subst e
    exact br_f (by decide) (br_f (by decide) ⟨rfl, bb_mk (c := c) (fm := 0) ⟨h2, hN, hL, hM, hQ, hmv, Nat.zero_le _, hMo, Or.inl ⟨rfl, rfl⟩⟩⟩)
theorem i_vc_blockCount {k : Nat} {u : SX} {v : SY} (I : i_Rel k u v) (hk : k + 5 ≤ 2564) : wpX_blockCount (fun r => wpY_blockCount (fun r' => r' = r ∧ i_Rel (k + 5) u v) v) u := by
  obtain ⟨N, L, M, Q, mv, fm, T, c, mi, bT, tg, bs, fo, A, B, C, kd, lf, fl, rt, cl, fi, ok, se, de, st, tr, rfl, rfl, R⟩ := I
  have rel : ∀ ok se tr, i_Rel (k + 5) (nI N, nI L, nI M, nI Q, nI mv, mi, bT, nI fm, tg, bs, fo) (nI N, nI L, nI M, nI Q, mi, nI mv, nI fm, A, B, C, kd, lf, fl, rt, cl, fi, ok, se, de, st, tr) := fun ok se tr => bb_mk R
  obtain ⟨h2, hN, hL, hM, hQ, hmv, hfm, hMo, hm⟩ := R
  have hX := hMo.1
  have hY := hMo.2.1
  have hB := bb_cn_le (bb_ldr c) N
  rcases hm with ⟨e, ef⟩ | ⟨e, hmi⟩
  · subst e
    exact br_t rfl (br_t rfl ⟨rfl, rel _ _ _⟩)
  subst e
  obtain ⟨rfl, hc, hcl, hg, hF⟩ := hmi
  have hC : by_C N c cl := fun v hv => ⟨hcl v hv, by have := (hc v hv).1; omega⟩
  have eB : ∀ i, i < bb_cn (bb_ldr c) N → bb_BS bs i = bb_Bn N c i := fun i hi => by
    funext s
    exact propext (hg i s hi)
  refine br_f (by decide) ?_
  unfold wpY_blockCount
  dsimp only
  exact br_f (by decide) (by_bc14 hN hC ⟨rfl, rel _ _ _⟩)
theorem i_vc_blockOf {k : Nat} {u : SX} {v : SY} (I : i_Rel k u v) (hk : k + 5 ≤ 2564) (v1 : Int32) : wpX_blockOf (fun r => wpY_blockOf (fun r' => r' = r ∧ i_Rel (k + 5) u v) v v1) u v1 := by
  obtain ⟨N, L, M, Q, mv, fm, T, c, mi, bT, tg, bs, fo, A, B, C, kd, lf, fl, rt, cl, fi, ok, se, de, st, tr, rfl, rfl, R⟩ := I
  have rel : ∀ ok se tr, i_Rel (k + 5) (nI N, nI L, nI M, nI Q, nI mv, mi, bT, nI fm, tg, bs, fo) (nI N, nI L, nI M, nI Q, mi, nI mv, nI fm, A, B, C, kd, lf, fl, rt, cl, fi, ok, se, de, st, tr) := fun ok se tr => bb_mk R
  obtain ⟨h2, hN, hL, hM, hQ, hmv, hfm, hMo, hm⟩ := R
  have hX := hMo.1
  have hY := hMo.2.1
  have hB := bb_cn_le (bb_ldr c) N
  rcases hm with ⟨e, ef⟩ | ⟨e, hmi⟩
  · subst e
    exact br_t rfl (br_t rfl ⟨rfl, rel _ _ _⟩)
  subst e
  obtain ⟨rfl, hc, hcl, hg, hF⟩ := hmi
  have hC : by_C N c cl := fun v hv => ⟨hcl v hv, by have := (hc v hv).1; omega⟩
  have eB : ∀ i, i < bb_cn (bb_ldr c) N → bb_BS bs i = bb_Bn N c i := fun i hi => by
    funext s
    exact propext (hg i s hi)
  have bw : ∀ s, s < N → ∀ post : Int32 → Prop, post (nI (bb_nb c s)) → wpX_blockWith post (nI N, nI L, nI M, nI Q, nI mv, 1, nI (bb_cn (bb_ldr c) N), nI fm, tg, bs, fo) (nI s) := by
    intro s hs post hp
    exact bx_bw (k := bb_nb c s) (by omega) (by omega) (bb_nb_lt hc hs) ((hg _ s (bb_nb_lt hc hs)).mpr ⟨hs, rfl⟩) (fun i hi q => ((hg i s hi).mp q).2.symm) hp
  unfold wpX_blockOf
  dsimp only
  refine br_f (by decide) ?_
  rcases bb_cs v1 N with ⟨s, hs, e1⟩ | hs
  · subst e1
    exact bx_st_i hN hs (br_f (by decide) (bw s hs _ (by_bo hN hC hc hs ⟨rfl, rel _ _ _⟩)))
  · refine bx_st_o hN hs (br_t rfl ?_)
    unfold wpY_blockOf
    dsimp only
    exact br_f (by decide) (by_ns_o hN hs (br_f (by decide) ⟨rfl, rel _ _ _⟩))
theorem i_vc_leader {k : Nat} {u : SX} {v : SY} (I : i_Rel k u v) (hk : k + 5 ≤ 2564) (v1 : Int32) : wpX_leader (fun r => wpY_leader (fun r' => r' = r ∧ i_Rel (k + 5) u v) v v1) u v1 := by
  obtain ⟨N, L, M, Q, mv, fm, T, c, mi, bT, tg, bs, fo, A, B, C, kd, lf, fl, rt, cl, fi, ok, se, de, st, tr, rfl, rfl, R⟩ := I
  have rel : ∀ ok se tr, i_Rel (k + 5) (nI N, nI L, nI M, nI Q, nI mv, mi, bT, nI fm, tg, bs, fo) (nI N, nI L, nI M, nI Q, mi, nI mv, nI fm, A, B, C, kd, lf, fl, rt, cl, fi, ok, se, de, st, tr) := fun ok se tr => bb_mk R
  obtain ⟨h2, hN, hL, hM, hQ, hmv, hfm, hMo, hm⟩ := R
  have hX := hMo.1
  have hY := hMo.2.1
  have hB := bb_cn_le (bb_ldr c) N
  rcases hm with ⟨e, ef⟩ | ⟨e, hmi⟩
  · subst e
    exact br_t rfl (br_t rfl ⟨rfl, rel _ _ _⟩)
  subst e
  obtain ⟨rfl, hc, hcl, hg, hF⟩ := hmi
  have hC : by_C N c cl := fun v hv => ⟨hcl v hv, by have := (hc v hv).1; omega⟩
  have eB : ∀ i, i < bb_cn (bb_ldr c) N → bb_BS bs i = bb_Bn N c i := fun i hi => by
    funext s
    exact propext (hg i s hi)
  unfold wpX_leader
  dsimp only
  refine br_f (by decide) ?_
  rcases bb_cs v1 (bb_cn (bb_ldr c) N) with ⟨b, hb, e1⟩ | hb
  · subst e1
    refine bx_bl_i (by omega) hb (br_f (by decide) ?_)
    rw [nI_clamp (n := b) (by omega)]
    obtain ⟨u, hu, eu, ku⟩ := bb_cn_ex N b hb
    have eu' : c u = u := of_decide_eq_true eu
    have nu : bb_nb c u = b := by
      show bb_cn _ (c u) = b
      rw [eu']; exact ku
    refine ⟨vp_in_nI (by omega) (by decide), bx_ls (s := u) (by omega) ((hg b u hb).mpr ⟨hu, nu⟩) (fun t ht q => ?_) ?_⟩
    · have q' := (hg b t hb).mp q
      have e3 := (bb_nb_eq hc q'.1 hu).mp (q'.2.trans nu.symm)
      have := (hc t q'.1).1
      omega
    · refine by_ld_i hN hC hc hb (fun w hw ew kw => ⟨?_, rel _ _ _⟩)
      rw [bb_cn_inj (p := bb_ldr c) eu (decide_eq_true ew) (ku.trans kw.symm)]
  · exact bx_bl_o (by omega) hb (br_t rfl (by_ld_o hN hC hc hb ⟨rfl, rel _ _ _⟩))
theorem i_vc_quotientMove {k : Nat} {u : SX} {v : SY} (I : i_Rel k u v) (hk : k + 5 ≤ 2564) (v1 : Int32) (v2 : Int32) (v3 : Int32) : wpX_quotientMove (fun r => wpY_quotientMove (fun r' v' => r' = r ∧ i_Rel (k + 5) u v') v v1 v2 v3) u v1 v2 v3 := by
  obtain ⟨N, L, M, Q, mv, fm, T, c, mi, bT, tg, bs, fo, A, B, C, kd, lf, fl, rt, cl, fi, ok, se, de, st, tr, rfl, rfl, R⟩ := I
  have rel : ∀ ok se tr, i_Rel (k + 5) (nI N, nI L, nI M, nI Q, nI mv, mi, bT, nI fm, tg, bs, fo) (nI N, nI L, nI M, nI Q, mi, nI mv, nI fm, A, B, C, kd, lf, fl, rt, cl, fi, ok, se, de, st, tr) := fun ok se tr => bb_mk R
  obtain ⟨h2, hN, hL, hM, hQ, hmv, hfm, hMo, hm⟩ := R
  have hX := hMo.1
  have hY := hMo.2.1
  have hB := bb_cn_le (bb_ldr c) N
  rcases hm with ⟨e, ef⟩ | ⟨e, hmi⟩
  · subst e
    exact br_t rfl (br_t rfl ⟨rfl, rel _ _ _⟩)
  subst e
  obtain ⟨rfl, hc, hcl, hg, hF⟩ := hmi
  have hC : by_C N c cl := fun v hv => ⟨hcl v hv, by have := (hc v hv).1; omega⟩
  have eB : ∀ i, i < bb_cn (bb_ldr c) N → bb_BS bs i = bb_Bn N c i := fun i hi => by
    funext s
    exact propext (hg i s hi)
  unfold wpX_quotientMove
  dsimp only
  refine br_f (by decide) (bx_preB (by omega) hL (fun h => by_qm_o hN hL hC hc h ⟨rfl, rel _ _ _⟩) (fun b a d hb ha hd e1 e2 e3 => ?_))
  subst e1 e2 e3
  have eQ : bb_Q T (bb_BS bs) b a d ↔ bb_Q T (bb_Bn N c) b a d := by
    unfold bb_Q
    rw [eB b hb, eB d hd]
  refine bx_bm hX hN hL (m := bb_cn (bb_ldr c) N) (by omega) hb hd (by omega) (fun s q => ((hg b s hb).mp q).1) (fun q => br_f (by decide) ?_) (fun q => br_t rfl ?_)
  · exact by_qm_i hY hN hL (by omega) hC hc hb (by omega) hd (fun _ ok se => ⟨rfl, rel _ _ _⟩) (fun z => absurd (eQ.mp q) z)
  · exact by_qm_i hY hN hL (by omega) hC hc hb (by omega) hd (fun z => absurd (eQ.mpr z) q) (fun _ ok se => ⟨rfl, rel _ _ _⟩)
theorem i_vc_quotientMoveCount {k : Nat} {u : SX} {v : SY} (I : i_Rel k u v) (hk : k + 5 ≤ 2564) : wpX_quotientMoveCount (fun r => wpY_quotientMoveCount (fun r' v' => r' = r ∧ i_Rel (k + 5) u v') v) u := by
  obtain ⟨N, L, M, Q, mv, fm, T, c, mi, bT, tg, bs, fo, A, B, C, kd, lf, fl, rt, cl, fi, ok, se, de, st, tr, rfl, rfl, R⟩ := I
  have rel : ∀ ok se tr, i_Rel (k + 5) (nI N, nI L, nI M, nI Q, nI mv, mi, bT, nI fm, tg, bs, fo) (nI N, nI L, nI M, nI Q, mi, nI mv, nI fm, A, B, C, kd, lf, fl, rt, cl, fi, ok, se, de, st, tr) := fun ok se tr => bb_mk R
  obtain ⟨h2, hN, hL, hM, hQ, hmv, hfm, hMo, hm⟩ := R
  have hX := hMo.1
  have hY := hMo.2.1
  have hB := bb_cn_le (bb_ldr c) N
  rcases hm with ⟨e, ef⟩ | ⟨e, hmi⟩
  · subst e
    exact br_t rfl (br_t rfl ⟨rfl, rel _ _ _⟩)
  subst e
  obtain ⟨rfl, hc, hcl, hg, hF⟩ := hmi
  have hC : by_C N c cl := fun v hv => ⟨hcl v hv, by have := (hc v hv).1; omega⟩
  have eB : ∀ i, i < bb_cn (bb_ldr c) N → bb_BS bs i = bb_Bn N c i := fun i hi => by
    funext s
    exact propext (hg i s hi)
  refine bx_qc hX hN hL (by omega) (fun b s hb q => ((hg b s hb).mp q).1) ?_
  have e : bb_sum (fun b => bb_sum (fun a => bb_sum (fun d => bb_ind (bb_Q T (bb_BS bs) b a d)) (bb_cn (bb_ldr c) N)) (L + 1)) (bb_cn (bb_ldr c) N) = bb_sum (fun b => bb_sum (fun a => bb_sum (fun d => bb_ind (bb_Q T (bb_Bn N c) b a d)) (bb_cn (bb_ldr c) N)) (L + 1)) (bb_cn (bb_ldr c) N) := by
    refine bb_sum_cg _ fun b hb => bb_sum_cg _ fun a _ => bb_sum_cg _ fun d hd => ?_
    have eQ : bb_Q T (bb_BS bs) b a d = bb_Q T (bb_Bn N c) b a d := by
      unfold bb_Q
      rw [eB b hb, eB d hd]
    rw [eQ]
  rw [e, ← bb_GQ N L T c]
  exact by_qc hY hN hL (by omega) hC hc (fun ok se => ⟨rfl, rel _ _ _⟩)
end
section
section
variable {T : Nat → Nat → Nat → Prop} {N L fm : Nat} {xml xql xmt xmi xbT xft : Int32} {xtg xbs xfo : Nat → Int32} {c : Nat → Nat}
def bb_V (fm L : Nat) (p0 p1 p2 p3 : Int32) : Prop := ∃ kk, kk < 5 ∧ p0 = nI kk ∧ (kk ≠ 0 → ∃ l, l < fm ∧ p1 = nI l) ∧ ((kk = 2 ∨ kk = 3) → ∃ r, r < fm ∧ p3 = nI r) ∧ (kk = 3 → ∃ a, a < L + 1 ∧ p2 = nI a)
theorem bb_BS_up {fo : Nat → Int32} {r : Int32} {l : Nat} (hl : l < fm) : bb_BS (upd fo fm r) l = bb_BS fo l := by
  funext s
  unfold bb_BS
  rw [pk_un (by omega)]
theorem bx_sf {post : Int32 → Prop} {p0 p1 p2 p3 : Int32} (hT : bx_T N L T xtg) (hN : N ≤ 12) (hL : L ≤ 3) (hfm : fm ≤ 32) (hV : bb_V fm L p0 p1 p2 p3) (hF : ∀ f, f < fm → ∀ u, bt (xfo f) u = true → u < N)
    (hp : ∀ r, (∀ u, bt r u = true → u < N) → (∀ kd lf fl rt, bb_Fm N L T c (upd kd fm p0) (upd lf fm p1) (upd fl fm p2) (upd rt fm p3) (upd xfo fm r) fm) → post r) : wpX_statesOfForm post ((nI N), (nI L), xml, xql, xmt, xmi, xbT, xft, xtg, xbs, xfo) p0 p1 p2 p3 := by
  obtain ⟨kk, hk, e0, o1, o3, o2⟩ := hV
  have all : ∀ i, bt (((1 : Int32) <<< (nI N &&& 31)) - 1) i = true ↔ i < N := fun i => bb_allS (by omega) i
  unfold wpX_statesOfForm wpX_allStates
  dsimp only
  have hk' : kk = 0 ∨ kk = 1 ∨ kk = 2 ∨ kk = 3 ∨ kk = 4 := by omega
  rcases hk' with e | e | e | e | e
  · subst e e0
    refine br_t (by decide) (hp _ (fun u q => (all u).mp q) fun kd lf fl rt => Or.inl ⟨pk_us, fun u hu => ?_⟩)
    rw [pk_us]
    exact (all u).mpr hu
  · obtain ⟨l, hl, e1⟩ := o1 (by omega)
    subst e e0 e1
    rw [nI_clamp (n := l) (by omega)]
    refine br_f (by decide) (br_f (by decide) (br_t rfl ⟨vp_in_nI (by omega) (by decide), hp _ (fun u q => (all u).mp ((bb_diffS _ _ _).mp q).1) fun kd lf fl rt => Or.inr (Or.inr (Or.inl ⟨pk_us, l, hl, pk_us, fun u hu => ?_⟩))⟩))
    rw [pk_us, pk_un (by omega), bb_diffS]
    exact ⟨fun q => q.2, fun q => ⟨(all u).mpr hu, q⟩⟩
  · obtain ⟨l, hl, e1⟩ := o1 (by omega)
    obtain ⟨r, hr, e3⟩ := o3 (by omega)
    subst e e0 e1 e3
    rw [nI_clamp (n := l) (by omega), nI_clamp (n := r) (by omega)]
    refine br_f (by decide) (br_f (by decide) (br_f (by decide) (br_t rfl ⟨vp_in_nI (by omega) (by decide), vp_in_nI (by omega) (by decide), hp _ (fun u q => hF l hl u ((bb_andS _ _ _).mp q).1) fun kd lf fl rt => Or.inr (Or.inr (Or.inr (Or.inl ⟨pk_us, l, r, hl, hr, pk_us, pk_us, fun u hu => ?_⟩)))⟩)))
    rw [pk_us, pk_un (by omega), pk_un (by omega), bb_andS]
  · obtain ⟨l, hl, e1⟩ := o1 (by omega)
    obtain ⟨r, hr, e3⟩ := o3 (by omega)
    obtain ⟨a, ha, e2⟩ := o2 (by omega)
    subst e e0 e1 e2 e3
    rw [nI_clamp (n := l) (by omega), nI_clamp (n := r) (by omega)]
    refine br_f (by decide) (br_f (by decide) (br_f (by decide) (br_f (by decide) (br_t rfl ⟨vp_in_nI (by omega) (by decide), vp_in_nI (by omega) (by decide), bx_unt hT hN hL (by omega) (fun x hx => hp x (fun u q => ?_) fun kd lf fl rt => Or.inr (Or.inr (Or.inr (Or.inr (Or.inl ⟨pk_us, l, a, r, hl, by omega, hr, pk_us, pk_us, pk_us, fun u hu => ?_⟩)))))⟩))))
    · rcases (hx u).mp q with z | z
      · exact hF l hl u (bb_unt_F z)
      · exact hF r hr u z.2
    · rw [pk_us, bb_BS_up hl, bb_BS_up hr, pk_un (by omega)]
      exact hx u
  · obtain ⟨l, hl, e1⟩ := o1 (by omega)
    subst e e0 e1
    rw [nI_clamp (n := l) (by omega)]
    refine br_f (by decide) (br_f (by decide) (br_f (by decide) (br_f (by decide) (br_f (by decide) (br_t rfl ⟨vp_in_nI (by omega) (by decide), bx_div hT hN hL (hF l hl) (fun x hx => hp x (fun u q => ?_) fun kd lf fl rt => Or.inr (Or.inr (Or.inr (Or.inr (Or.inr ⟨pk_us, l, hl, pk_us, fun u hu => ?_⟩)))))⟩)))))
    · exact hF l hl u (bb_div_F ((hx u).mp q))
    · rw [pk_us, bb_BS_up hl]
      exact hx u
theorem bx_kf {post : Int32 → SX → Prop} {r : Int32} (h : fm < 32) (hp : post (nI fm) ((nI N), (nI L), xml, xql, xmt, xmi, xbT, nI (fm + 1), xtg, xbs, upd xfo fm r)) : wpX_keepFormula post ((nI N), (nI L), xml, xql, xmt, xmi, xbT, nI fm, xtg, xbs, xfo) r := by
  unfold wpX_keepFormula
  dsimp only
  rw [nI_clamp (n := fm) (by omega)]
  exact ⟨vp_in_nI h (by decide), nm_e (nm_r (nI_1 fm) hp)⟩
theorem bx_make {post : Int32 → SX → Prop} {p0 p1 p2 p3 : Int32} (hL : L ≤ 3) (hfm : fm ≤ 32) (hbad : ¬ bb_V fm L p0 p1 p2 p3 → post 101 ((nI N), (nI L), xml, xql, xmt, 1, xbT, nI fm, xtg, xbs, xfo)) (hok : bb_V fm L p0 p1 p2 p3 → wX_make_75 post p0 p1 p2 p3 (nI N) (nI L) xml xql xmt 1 xbT (nI fm) xtg xbs xfo) : wpX_make post ((nI N), (nI L), xml, xql, xmt, 1, xbT, nI fm, xtg, xbs, xfo) p0 p1 p2 p3 := by
  unfold wpX_make
  dsimp only
  refine br_f (by decide) ?_
  rcases bb_cs p0 (4 + 1) with ⟨kk, hk, e⟩ | hk
  · subst e
    have inj : ∀ j, j < 5 → nI kk = nI j → kk = j := fun j hj z => (nI_eq (by omega) (by omega)).mp z
    have vk : ∀ {P : Nat → Prop}, (∀ j, j < 5 → nI kk = nI j → P j) → P kk := fun h => h kk hk rfl
    have s59 : (kk ≠ 0 → ∃ l, l < fm ∧ p1 = nI l) → ((kk = 2 ∨ kk = 3) → ∃ r, r < fm ∧ p3 = nI r) → wX_make_59 post (nI kk) p1 p2 p3 (nI N) (nI L) xml xql xmt 1 xbT (nI fm) xtg xbs xfo := by
      intro o1 o3
      refine pk_eq kk 3 (fun e3 => ?_) (fun e3 => hok ⟨kk, hk, rfl, o1, o3, fun z => absurd z e3⟩)
      rcases bb_cs p2 (L + 1) with ⟨a, ha, e⟩ | ha
      · subst e
        exact bx_lb_i hL ha (br_f (by decide) (hok ⟨kk, hk, rfl, o1, o3, fun _ => ⟨a, ha, rfl⟩⟩))
      · refine bx_lb_o hL ha (br_t rfl (hbad fun z => ?_))
        obtain ⟨j, hj, ej, _, _, q⟩ := z
        rw [← inj j hj ej] at q
        obtain ⟨a, ha', e⟩ := q e3
        exact ha a ha' e
    have s47 : (kk ≠ 0 → ∃ l, l < fm ∧ p1 = nI l) → (kk = 2 ∨ kk = 3) → wX_make_47 post (nI kk) p1 p2 p3 (nI N) (nI L) xml xql xmt 1 xbT (nI fm) xtg xbs xfo := by
      intro o1 h23
      unfold wX_make_47
      rcases bb_cs p3 fm with ⟨r, hr, e⟩ | hr
      · refine ek_v (P := fun p3 => wpX_isFormula _ _ p3) e (bx_fm_i hfm hr (br_f (by decide) (s59 o1 fun _ => ⟨r, hr, e⟩)))
      · refine bx_fm_o hfm hr (br_t rfl (hbad fun z => ?_))
        obtain ⟨j, hj, ej, _, q, _⟩ := z
        rw [← inj j hj ej] at q
        obtain ⟨r, hr', e⟩ := q h23
        exact hr r hr' e
    have s37 : (kk ≠ 0 → ∃ l, l < fm ∧ p1 = nI l) → wX_make_37 post (nI kk) p1 p2 p3 (nI N) (nI L) xml xql xmt 1 xbT (nI fm) xtg xbs xfo := by
      intro o1
      exact pk_eq kk 2 (fun e => s47 o1 (Or.inl e)) (fun e => pk_eq kk 3 (fun e2 => s47 o1 (Or.inr e2)) (fun e2 => s59 o1 fun z => absurd z (by omega)))
    refine br_f (nI_pos (by omega)) (br_t (nI_le (b := 4) (by omega) (by decide)) (pk_eq kk 0 (fun e => s37 fun z => absurd e z) (fun e => ?_)))
    rcases bb_cs p1 fm with ⟨l, hl, e1⟩ | hl
    · refine ek_v (P := fun p1 => wpX_isFormula _ _ p1) e1 (bx_fm_i hfm hl (br_f (by decide) (s37 fun _ => ⟨l, hl, e1⟩)))
    · refine bx_fm_o hfm hl (br_t rfl (hbad fun z => ?_))
      obtain ⟨j, hj, ej, q, _, _⟩ := z
      rw [← inj j hj ej] at q
      obtain ⟨l, hl', e1⟩ := q e
      exact hl l hl' e1
  · have hb : ¬ bb_V fm L p0 p1 p2 p3 := by
      rintro ⟨kk, hk', e, _⟩
      exact hk kk hk' e
    rcases bb_ouL (by omega) hk with q | ⟨q, q2⟩
    · exact br_t q (hbad hb)
    · exact br_f q (br_f (Int32.not_le.mpr q2) (hbad hb))
end
section
variable {N L mv fm Q : Nat} {ymx ymq ymi yff : Int32} {yA yB yC ykd ylf yfl yrt ycl yfi yok yse yde yst ytr : Nat → Int32}
theorem by_note {post : Int32 → SY → Prop} {p0 p1 p2 p3 : Int32} (hfm : fm ≤ 32) (hQ : Q ≤ 32) (h0 : Q ≤ fm → post 104 ((nI N), (nI L), ymx, nI Q, ymi, (nI mv), nI fm, yA, yB, yC, ykd, ylf, yfl, yrt, ycl, yfi, yok, yse, yde, yst, ytr)) (h1 : fm < Q → post (nI fm) ((nI N), (nI L), ymx, nI Q, ymi, (nI mv), nI (fm + 1), yA, yB, yC, upd ykd fm p0, upd ylf fm p1, upd yfl fm p2, upd yrt fm p3, ycl, yfi, yok, yse, yde, yst, ytr)) : wpY_note post ((nI N), (nI L), ymx, nI Q, ymi, (nI mv), nI fm, yA, yB, yC, ykd, ylf, yfl, yrt, ycl, yfi, yok, yse, yde, yst, ytr) p0 p1 p2 p3 := by
  unfold wpY_note
  dsimp only
  rw [nI_clamp (n := fm) (by omega)]
  refine pk_lt fm Q (fun z => ?_) h0
  have v1 := vp_in_nI (n := fm) (N := 32) (by omega) (by decide)
  refine ⟨v1, nm_e ⟨v1, nm_e ⟨v1, nm_e ⟨v1, nm_e (nm_r (nI_1 fm) ?_)⟩⟩⟩⟩
  rw [nI_pred]
  exact h1 z
theorem by_make {post : Int32 → SY → Prop} {p0 p1 p2 p3 : Int32} (hL : L ≤ 3) (hfm : fm ≤ 32) (hbad : ¬ bb_V fm L p0 p1 p2 p3 → post 101 ((nI N), (nI L), ymx, ymq, 1, (nI mv), nI fm, yA, yB, yC, ykd, ylf, yfl, yrt, ycl, yfi, yok, yse, yde, yst, ytr)) (hok : bb_V fm L p0 p1 p2 p3 → wY_make_79 post p0 p1 p2 p3 (nI N) (nI L) ymx ymq 1 (nI mv) (nI fm) yA yB yC ykd ylf yfl yrt ycl yfi yok yse yde yst ytr) : wpY_make post ((nI N), (nI L), ymx, ymq, 1, (nI mv), nI fm, yA, yB, yC, ykd, ylf, yfl, yrt, ycl, yfi, yok, yse, yde, yst, ytr) p0 p1 p2 p3 := by
  unfold wpY_make
  dsimp only
  refine br_f (by decide) ?_
  rcases bb_cs p0 (4 + 1) with ⟨kk, hk, e⟩ | hk
  · subst e
    have inj : ∀ j, j < 5 → nI kk = nI j → kk = j := fun j hj z => (nI_eq (by omega) (by omega)).mp z
    have s59 : (kk ≠ 0 → ∃ l, l < fm ∧ p1 = nI l) → ((kk = 2 ∨ kk = 3) → ∃ r, r < fm ∧ p3 = nI r) → wY_make_59 post (nI kk) p1 p2 p3 (nI N) (nI L) ymx ymq 1 (nI mv) (nI fm) yA yB yC ykd ylf yfl yrt ycl yfi yok yse yde yst ytr := by
      intro o1 o3
      refine pk_eq kk 3 (fun e3 => ?_) (fun e3 => hok ⟨kk, hk, rfl, o1, o3, fun z => absurd z e3⟩)
      rcases bb_cs p2 (L + 1) with ⟨a, ha, e⟩ | ha
      · subst e
        exact br_f (nI_pos (by omega)) (br_t (nI_le (by omega) (by omega)) (hok ⟨kk, hk, rfl, o1, o3, fun _ => ⟨a, ha, rfl⟩⟩))
      · have hb : ¬ bb_V fm L (nI kk) p1 p2 p3 := by
          intro z
          obtain ⟨j, hj, ej, _, _, q⟩ := z
          rw [← inj j hj ej] at q
          obtain ⟨a, ha', e⟩ := q e3
          exact ha a ha' e
        rcases bb_ouL (by omega) ha with q | ⟨q, q2⟩
        · exact br_t q (hbad hb)
        · exact br_f q (br_f (Int32.not_le.mpr q2) (hbad hb))
    have s47 : (kk ≠ 0 → ∃ l, l < fm ∧ p1 = nI l) → (kk = 2 ∨ kk = 3) → wY_make_47 post (nI kk) p1 p2 p3 (nI N) (nI L) ymx ymq 1 (nI mv) (nI fm) yA yB yC ykd ylf yfl yrt ycl yfi yok yse yde yst ytr := by
      intro o1 h23
      unfold wY_make_47
      rcases bb_cs p3 fm with ⟨r, hr, e⟩ | hr
      · refine ek_v (P := fun p3 => wpY_noFormula _ _ p3) e (by_nf_i hfm hr (br_t rfl (s59 o1 fun _ => ⟨r, hr, e⟩)))
      · refine by_nf_o hfm hr (br_f (by decide) (hbad fun z => ?_))
        obtain ⟨j, hj, ej, _, q, _⟩ := z
        rw [← inj j hj ej] at q
        obtain ⟨r, hr', e⟩ := q h23
        exact hr r hr' e
    have s37 : (kk ≠ 0 → ∃ l, l < fm ∧ p1 = nI l) → wY_make_37 post (nI kk) p1 p2 p3 (nI N) (nI L) ymx ymq 1 (nI mv) (nI fm) yA yB yC ykd ylf yfl yrt ycl yfi yok yse yde yst ytr := by
      intro o1
      exact pk_eq kk 2 (fun e => s47 o1 (Or.inl e)) (fun e => pk_eq kk 3 (fun e2 => s47 o1 (Or.inr e2)) (fun e2 => s59 o1 fun z => absurd z (by omega)))
    refine br_f (nI_pos (by omega)) (br_t (nI_le (b := 4) (by omega) (by decide)) (pk_eq kk 0 (fun e => s37 fun z => absurd e z) (fun e => ?_)))
    rcases bb_cs p1 fm with ⟨l, hl, e1⟩ | hl
    · refine ek_v (P := fun p1 => wpY_noFormula _ _ p1) e1 (by_nf_i hfm hl (br_t rfl (s37 fun _ => ⟨l, hl, e1⟩)))
    · refine by_nf_o hfm hl (br_f (by decide) (hbad fun z => ?_))
      obtain ⟨j, hj, ej, q, _, _⟩ := z
      rw [← inj j hj ej] at q
      obtain ⟨l, hl', e1⟩ := q e
      exact hl l hl' e1
  · have hb : ¬ bb_V fm L p0 p1 p2 p3 := by
      rintro ⟨kk, hk', e, _⟩
      exact hk kk hk' e
    rcases bb_ouL (by omega) hk with q | ⟨q, q2⟩
    · exact br_t q (hbad hb)
    · exact br_f q (br_f (Int32.not_le.mpr q2) (hbad hb))
end
theorem bb_mi_add {N L fm : Nat} {bT : Int32} {bs fo kd lf fl rt cl : Nat → Int32} {T : Nat → Nat → Nat → Prop} {c : Nat → Nat} {p0 p1 p2 p3 r : Int32} (h : bb_Mi N L fm bT bs fo kd lf fl rt cl T c) (hr : ∀ u, bt r u = true → u < N)
    (hn : bb_Fm N L T c (upd kd fm p0) (upd lf fm p1) (upd fl fm p2) (upd rt fm p3) (upd fo fm r) fm) : bb_Mi N L (fm + 1) bT bs (upd fo fm r) (upd kd fm p0) (upd lf fm p1) (upd fl fm p2) (upd rt fm p3) cl T c := by
  obtain ⟨h1, h2, h3, h4, h5⟩ := h
  refine ⟨h1, h2, h3, h4, fun f hf => ?_⟩
  by_cases e : f = fm
  · subst e
    refine ⟨?_, hn⟩
    rw [pk_us]; exact hr
  · have q := h5 f (by omega)
    refine ⟨?_, bb_Fm_up (by omega) q.2⟩
    rw [pk_un e]; exact q.1
theorem i_vc_make {k : Nat} {u : SX} {v : SY} (I : i_Rel k u v) (hk : k + 5 ≤ 2564) (v1 : Int32) (v2 : Int32) (v3 : Int32) (v4 : Int32) : wpX_make (fun r u' => wpY_make (fun r' v' => r' = r ∧ i_Rel (k + 5) u' v') v v1 v2 v3 v4) u v1 v2 v3 v4 := by
  obtain ⟨N, L, M, Q, mv, fm, T, c, mi, bT, tg, bs, fo, A, B, C, kd, lf, fl, rt, cl, fi, ok, se, de, st, tr, rfl, rfl, R⟩ := I
  have rel : ∀ ok se tr, i_Rel (k + 5) (nI N, nI L, nI M, nI Q, nI mv, mi, bT, nI fm, tg, bs, fo) (nI N, nI L, nI M, nI Q, mi, nI mv, nI fm, A, B, C, kd, lf, fl, rt, cl, fi, ok, se, de, st, tr) := fun ok se tr => bb_mk R
  obtain ⟨h2, hN, hL, hM, hQ, hmv, hfm, hMo, hm⟩ := R
  have hX := hMo.1
  have hY := hMo.2.1
  have hB := bb_cn_le (bb_ldr c) N
  rcases hm with ⟨e, ef⟩ | ⟨e, hmi⟩
  · subst e
    exact br_t rfl (br_t rfl ⟨rfl, rel _ _ _⟩)
  subst e
  have hmi' := hmi
  obtain ⟨rfl, hc, hcl, hg, hF⟩ := hmi
  have hC : by_C N c cl := fun v hv => ⟨hcl v hv, by have := (hc v hv).1; omega⟩
  have eB : ∀ i, i < bb_cn (bb_ldr c) N → bb_BS bs i = bb_Bn N c i := fun i hi => by
    funext s
    exact propext (hg i s hi)
  refine bx_make hL (by omega) (fun h => by_make hL (by omega) (fun _ => ⟨rfl, rel _ _ _⟩) (fun z => absurd z h)) (fun h => ?_)
  refine pk_lt fm Q (fun z => bx_sf (c := c) hX hN hL (by omega) h (fun f hf => (hF f hf).1) (fun r hr hn => bx_kf (by omega) (by_make hL (by omega) (fun z => absurd h z) (fun _ => ?_)))) (fun z => by_make hL (by omega) (fun z => absurd h z) (fun _ => ?_))
  · unfold wY_make_79
    refine by_note (by omega) hQ (fun z2 => by omega) (fun _ => ⟨rfl, bb_mk (c := c) ⟨h2, hN, hL, hM, hQ, hmv, by omega, hMo, Or.inr ⟨rfl, bb_mi_add hmi' hr (hn kd lf fl rt)⟩⟩⟩)
  · unfold wY_make_79
    refine by_note (by omega) hQ (fun z2 => ⟨rfl, rel _ _ _⟩) (fun z2 => by omega)
theorem i_vc_tell {k : Nat} {u : SX} {v : SY} (I : i_Rel k u v) (hk : k + 5 ≤ 2564) (v1 : Int32) (v2 : Int32) : wpX_tell (fun r u' => wpY_tell (fun r' v' => r' = r ∧ i_Rel (k + 5) u' v') v v1 v2) u v1 v2 := by
  obtain ⟨N, L, M, Q, mv, fm, T, c, mi, bT, tg, bs, fo, A, B, C, kd, lf, fl, rt, cl, fi, ok, se, de, st, tr, rfl, rfl, R⟩ := I
  have rel : ∀ ok se tr, i_Rel (k + 5) (nI N, nI L, nI M, nI Q, nI mv, mi, bT, nI fm, tg, bs, fo) (nI N, nI L, nI M, nI Q, mi, nI mv, nI fm, A, B, C, kd, lf, fl, rt, cl, fi, ok, se, de, st, tr) := fun ok se tr => bb_mk R
  obtain ⟨h2, hN, hL, hM, hQ, hmv, hfm, hMo, hm⟩ := R
  have hX := hMo.1
  have hY := hMo.2.1
  have hB := bb_cn_le (bb_ldr c) N
  rcases hm with ⟨e, ef⟩ | ⟨e, hmi⟩
  · subst e
    exact br_t rfl (br_t rfl ⟨rfl, rel _ _ _⟩)
  subst e
  have hmi' := hmi
  obtain ⟨rfl, hc, hcl, hg, hF⟩ := hmi
  have hC : by_C N c cl := fun v hv => ⟨hcl v hv, by have := (hc v hv).1; omega⟩
  have eB : ∀ i, i < bb_cn (bb_ldr c) N → bb_BS bs i = bb_Bn N c i := fun i hi => by
    funext s
    exact propext (hg i s hi)
  have bw : ∀ s, s < N → ∀ post : Int32 → Prop, post (nI (bb_nb c s)) → wpX_blockWith post (nI N, nI L, nI M, nI Q, nI mv, 1, nI (bb_cn (bb_ldr c) N), nI fm, tg, bs, fo) (nI s) := by
    intro s hs post hp
    exact bx_bw (k := bb_nb c s) (by omega) (by omega) (bb_nb_lt hc hs) ((hg _ s (bb_nb_lt hc hs)).mpr ⟨hs, rfl⟩) (fun i hi q => ((hg i s hi).mp q).2.symm) hp
  unfold wpX_tell
  dsimp only
  refine br_f (by decide) ?_
  rcases bb_cs v1 N with ⟨s, hs, e1⟩ | hs
  · subst e1
    refine bx_st_i hN hs (br_f (by decide) ?_)
    rcases bb_cs v2 N with ⟨t, ht, e2⟩ | ht
    · subst e2
      have hns := bb_nb_lt hc hs
      have hnt := bb_nb_lt hc ht
      have hcs := (hC s hs).2
      have hct := (hC t ht).2
      have v1 := vp_in_nI (n := s) (N := 12) (by omega) (by decide)
      have v2 := vp_in_nI (n := t) (N := 12) (by omega) (by decide)
      refine bx_st_i hN ht (br_f (by decide) (bw s hs _ (bw t ht _ (pk_eq (bb_nb c s) (bb_nb c t) (fun e => ?_) (fun e => pk_lt fm Q (fun z => ?_) (fun z => ?_))))))
      · unfold wpY_tell
        dsimp only
        rw [nI_clamp (n := s) (by omega), nI_clamp (n := t) (by omega), (hC s hs).1, (hC t ht).1]
        have e' := (bb_nb_eq hc hs ht).mp e
        exact br_f (by decide) (by_ns_i hN hs (br_t rfl (by_ns_i hN ht (br_t rfl ⟨v1, v2, br_t (by rw [e']) ⟨rfl, rel _ _ _⟩⟩))))
      · rw [nI_clamp (n := bb_nb c s) (by omega)]
        refine ⟨vp_in_nI (by omega) (by decide), bx_kf (by omega) ?_⟩
        unfold wpY_tell
        dsimp only
        rw [nI_clamp (n := s) (by omega), nI_clamp (n := t) (by omega), (hC s hs).1, (hC t ht).1]
        have hne : ¬ nI (c s) = nI (c t) := fun q => e ((bb_nb_eq hc hs ht).mpr ((nI_eq (by omega) (by omega)).mp q))
        refine br_f (by decide) (by_ns_i hN hs (br_t rfl (by_ns_i hN ht (br_t rfl ⟨v1, v2, br_f hne (by_note (by omega) hQ (fun z2 => by omega) (fun _ => ⟨rfl, bb_mk (c := c) ⟨h2, hN, hL, hM, hQ, hmv, by omega, hMo, Or.inr ⟨rfl, bb_mi_add hmi' (fun u q => ((hg _ u hns).mp q).1) (Or.inr (Or.inl ⟨pk_us, s, hs, pk_us, fun u hu => ?_⟩))⟩⟩⟩))⟩))))
        rw [pk_us, hg _ u hns]
        exact ⟨fun q => (bb_nb_eq hc q.1 hs).mp q.2, fun q => ⟨hu, (bb_nb_eq hc hu hs).mpr q⟩⟩
      · unfold wpY_tell
        dsimp only
        rw [nI_clamp (n := s) (by omega), nI_clamp (n := t) (by omega), (hC s hs).1, (hC t ht).1]
        have hne : ¬ nI (c s) = nI (c t) := fun q => e ((bb_nb_eq hc hs ht).mpr ((nI_eq (by omega) (by omega)).mp q))
        exact br_f (by decide) (by_ns_i hN hs (br_t rfl (by_ns_i hN ht (br_t rfl ⟨v1, v2, br_f hne (by_note (by omega) hQ (fun z2 => ⟨rfl, rel _ _ _⟩) (fun z2 => by omega))⟩))))
    · refine bx_st_o hN ht (br_t rfl ?_)
      unfold wpY_tell
      dsimp only
      exact br_f (by decide) (by_ns_i hN hs (br_t rfl (by_ns_o hN ht (br_f (by decide) ⟨rfl, rel _ _ _⟩))))
  · refine bx_st_o hN hs (br_t rfl ?_)
    unfold wpY_tell
    dsimp only
    exact br_f (by decide) (by_ns_o hN hs (br_f (by decide) ⟨rfl, rel _ _ _⟩))
theorem i_vc_holds {k : Nat} {u : SX} {v : SY} (I : i_Rel k u v) (hk : k + 5 ≤ 2564) (v1 : Int32) (v2 : Int32) : wpX_holds (fun r => wpY_holds (fun r' v' => r' = r ∧ i_Rel (k + 5) u v') v v1 v2) u v1 v2 := by
  obtain ⟨N, L, M, Q, mv, fm, T, c, mi, bT, tg, bs, fo, A, B, C, kd, lf, fl, rt, cl, fi, ok, se, de, st, tr, rfl, rfl, R⟩ := I
  have rel : ∀ ok se tr, i_Rel (k + 5) (nI N, nI L, nI M, nI Q, nI mv, mi, bT, nI fm, tg, bs, fo) (nI N, nI L, nI M, nI Q, mi, nI mv, nI fm, A, B, C, kd, lf, fl, rt, cl, fi, ok, se, de, st, tr) := fun ok se tr => bb_mk R
  obtain ⟨h2, hN, hL, hM, hQ, hmv, hfm, hMo, hm⟩ := R
  have hX := hMo.1
  have hY := hMo.2.1
  have hB := bb_cn_le (bb_ldr c) N
  rcases hm with ⟨e, ef⟩ | ⟨e, hmi⟩
  · subst e
    exact br_t rfl (br_t rfl ⟨rfl, rel _ _ _⟩)
  subst e
  have hmi' := hmi
  obtain ⟨rfl, hc, hcl, hg, hF⟩ := hmi
  have hC : by_C N c cl := fun v hv => ⟨hcl v hv, by have := (hc v hv).1; omega⟩
  have eB : ∀ i, i < bb_cn (bb_ldr c) N → bb_BS bs i = bb_Bn N c i := fun i hi => by
    funext s
    exact propext (hg i s hi)
  unfold wpX_holds
  dsimp only
  refine br_f (by decide) ?_
  rcases bb_cs v1 fm with ⟨f, hf, e1⟩ | hf
  · subst e1
    refine bx_fm_i (by omega) hf (br_f (by decide) ?_)
    rcases bb_cs v2 N with ⟨s, hs, e2⟩ | hs
    · subst e2
      refine bx_st_i hN hs (br_f (by decide) ?_)
      rw [nI_clamp (n := f) (by omega)]
      refine ⟨vp_in_nI (by omega) (by decide), bx_con (by omega) (fun q => br_f (by decide) ?_) (fun q => br_t rfl ?_)⟩
      · exact by_holds hY hN hL (by omega) hC (by omega) hf hs (fun f hf => (hF f hf).2) (fun _ ok se tr => ⟨rfl, rel _ _ _⟩) (fun z => absurd q z)
      · exact by_holds hY hN hL (by omega) hC (by omega) hf hs (fun f hf => (hF f hf).2) (fun z => absurd z q) (fun _ ok se tr => ⟨rfl, rel _ _ _⟩)
    · refine bx_st_o hN hs (br_t rfl ?_)
      unfold wpY_holds
      dsimp only
      exact br_f (by decide) (by_nf_i (by omega) hf (br_t rfl (by_ns_o hN hs (br_f (by decide) ⟨rfl, rel _ _ _⟩))))
  · refine bx_fm_o (by omega) hf (br_t rfl ?_)
    unfold wpY_holds
    dsimp only
    exact br_f (by decide) (by_nf_o (by omega) hf (br_f (by decide) ⟨rfl, rel _ _ _⟩))
theorem i_vc_formulaCount {k : Nat} {u : SX} {v : SY} (I : i_Rel k u v) (hk : k + 5 ≤ 2564) : wpX_formulaCount (fun r => wpY_formulaCount (fun r' => r' = r ∧ i_Rel (k + 5) u v) v) u := by
  obtain ⟨N, L, M, Q, mv, fm, T, c, mi, bT, tg, bs, fo, A, B, C, kd, lf, fl, rt, cl, fi, ok, se, de, st, tr, rfl, rfl, R⟩ := I
  have rel : ∀ ok se tr, i_Rel (k + 5) (nI N, nI L, nI M, nI Q, nI mv, mi, bT, nI fm, tg, bs, fo) (nI N, nI L, nI M, nI Q, mi, nI mv, nI fm, A, B, C, kd, lf, fl, rt, cl, fi, ok, se, de, st, tr) := fun ok se tr => bb_mk R
  obtain ⟨h2, hN, hL, hM, hQ, hmv, hfm, hMo, hm⟩ := R
  have hX := hMo.1
  have hY := hMo.2.1
  have hB := bb_cn_le (bb_ldr c) N
  exact ⟨rfl, rel _ _ _⟩
end
