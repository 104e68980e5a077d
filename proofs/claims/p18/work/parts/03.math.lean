section
variable {T : Nat → Nat → Nat → Prop} {N : Nat}
def bb_Rch (T : Nat → Nat → Nat → Prop) (F : Nat → Prop) (u v : Nat) : Prop :=
  ∀ S : Nat → Prop, (F u → S u) → (∀ x w, S x → T 0 x w → F w → S w) → S v
theorem bb_rch_0 {F : Nat → Prop} {u : Nat} (h : F u) : bb_Rch T F u u := fun _ h1 _ => h1 h
theorem bb_rch_s {F : Nat → Prop} {u x w : Nat} (h : bb_Rch T F u x) (hT : T 0 x w) (hF : F w) : bb_Rch T F u w := fun S h1 h2 => h2 x w (h S h1 h2) hT hF
theorem bb_rch_F {F : Nat → Prop} {u v : Nat} (h : bb_Rch T F u v) : F v := h F id (fun _ _ _ _ z => z)
theorem bb_rch_u {F : Nat → Prop} {u v : Nat} (h : bb_Rch T F u v) : F u := h (fun _ => F u) id (fun _ _ z _ _ => z)
theorem bb_rch_h {F : Nat → Prop} {u w v : Nat} (hF : F u) (hT : T 0 u w) (h : bb_Rch T F w v) : bb_Rch T F u v :=
  fun S h1 h2 => h S (fun fw => h2 u w (h1 hF) hT fw) h2
theorem bb_rch_unt {F G : Nat → Prop} {a u : Nat} : bb_Unt T F a G u ↔ ∃ v t, bb_Rch T F u v ∧ T a v t ∧ G t := by
  constructor
  · intro h
    refine bb_unt_ind (fun u => ∃ v t, bb_Rch T F u v ∧ T a v t ∧ G t) h ?_ ?_
    · intro v t f m g
      exact ⟨v, t, bb_rch_0 f, m, g⟩
    · intro v w f m _ ⟨x, t, r, m', g⟩
      exact ⟨x, t, bb_rch_h f m r, m', g⟩
  · intro ⟨v, t, r, m, g⟩
    have h := r (fun x => F x ∧ (bb_Unt T F a G x → bb_Unt T F a G u)) (fun f => ⟨f, id⟩) (fun x w hx hm fw => ⟨fw, fun q => hx.2 (bb_unt_s hx.1 hm q)⟩)
    exact h.2 (bb_unt_b h.1 m g)
def bb_WC (T : Nat → Nat → Nat → Prop) (F : Nat → Prop) (p : Nat → Bool) : Prop := ∀ x w, p x = true → T 0 x w → F w → p w = true
def bb_WI (N : Nat) (T : Nat → Nat → Nat → Prop) (F : Nat → Prop) (u i : Nat) (p : Nat → Bool) : Prop :=
  (∀ v, v < N → p v = true → bb_Rch T F u v) ∧ (F u → p u = true) ∧ (bb_WC T F p ∨ i ≤ bb_cn p N)
theorem bb_WI_s {F : Nat → Prop} {u i : Nat} {p p' : Nat → Bool} (hT : ∀ a s t, T a s t → s < N ∧ t < N) (hu : u < N) (h : bb_WI N T F u i p) (h1 : ∀ v, v < N → p v = true → p' v = true)
    (h2 : ∀ v, v < N → p' v = true → bb_Rch T F u v) (h3 : ∀ x w, p x = true → T 0 x w → F w → p' w = true) (h4 : bb_WC T F p → ∀ v, v < N → p' v = true → p v = true) : bb_WI N T F u (i + 1) p' := by
  refine ⟨h2, fun f => h1 u hu (h.2.1 f), ?_⟩
  by_cases c : bb_WC T F p
  · refine Or.inl fun x w px m f => ?_
    exact h3 x w (h4 c x (hT _ _ _ m).1 px) m f
  · refine Or.inr (Nat.lt_of_le_of_lt (h.2.2.resolve_left c) (bb_cn_lt N h1 ?_))
    refine Classical.byContradiction fun hn => c fun x w px m f => ?_
    refine Classical.byContradiction fun hp => hn ⟨w, (hT _ _ _ m).2, Bool.eq_false_iff.mpr hp, h3 x w px m f⟩
theorem bb_WI_N {F : Nat → Prop} {u v : Nat} {p : Nat → Bool} (h : bb_WI N T F u N p) (hv : v < N) : p v = true ↔ bb_Rch T F u v := by
  refine ⟨h.1 v hv, fun q => ?_⟩
  rcases h.2.2 with c | c
  · exact q (fun v => p v = true) h.2.1 c
  · exact bb_cn_all N c v hv
def bb_LC (N : Nat) (T : Nat → Nat → Nat → Prop) (p : Nat → Bool) : Prop := ∀ s, s < N → p s = true → ∃ w, T 0 s w ∧ p w = true
def bb_LI (N : Nat) (T : Nat → Nat → Nat → Prop) (F : Nat → Prop) (i : Nat) (p : Nat → Bool) : Prop :=
  (∀ s, s < N → p s = true → F s) ∧ (∀ s, s < N → bb_Div T F s → p s = true) ∧ (bb_LC N T p ∨ bb_cn p N + i ≤ N)
theorem bb_LI_s {F : Nat → Prop} {i : Nat} {p p' : Nat → Bool} (hT : ∀ a s t, T a s t → s < N ∧ t < N) (h : bb_LI N T F i p) (h1 : ∀ s, s < N → p' s = true → p s = true)
    (h2 : ∀ s, s < N → bb_Div T F s → p' s = true) (h3 : ∀ s, s < N → p' s = true → ∃ w, T 0 s w ∧ p w = true) (h4 : bb_LC N T p → ∀ s, s < N → p s = true → p' s = true) : bb_LI N T F (i + 1) p' := by
  refine ⟨fun s hs q => h.1 s hs (h1 s hs q), h2, ?_⟩
  by_cases c : bb_LC N T p
  · refine Or.inl fun s hs q => ?_
    obtain ⟨w, m, pw⟩ := h3 s hs q
    exact ⟨w, m, h4 c w (hT _ _ _ m).2 pw⟩
  · have h5 := h.2.2.resolve_left c
    have : bb_cn p' N < bb_cn p N := by
      refine bb_cn_lt N h1 ?_
      refine Classical.byContradiction fun hn => c fun s hs q => ?_
      refine Classical.byContradiction fun hw => hn ⟨s, hs, Bool.eq_false_iff.mpr fun q' => hw (h3 s hs q'), q⟩
    exact Or.inr (by omega)
theorem bb_LI_N {F : Nat → Prop} {s : Nat} {p : Nat → Bool} (hT : ∀ a s t, T a s t → s < N ∧ t < N) (h : bb_LI N T F N p) (hs : s < N) : p s = true ↔ bb_Div T F s := by
  refine ⟨fun q => ?_, h.2.1 s hs⟩
  rcases h.2.2 with c | c
  · refine ⟨fun s => s < N ∧ p s = true, ⟨hs, q⟩, fun v r => ⟨h.1 v r.1 r.2, ?_⟩⟩
    obtain ⟨w, m, pw⟩ := c v r.1 r.2
    exact ⟨w, m, (hT _ _ _ m).2, pw⟩
  · have := bb_cn_none (p := p) N (by omega) s hs
    rw [this] at q
    exact absurd q (by decide)
def bb_K (N : Nat) (c : Nat → Nat) (k : Nat) : Nat → Prop := fun v => v < N ∧ c v = k
def bb_Al (N : Nat) (T : Nat → Nat → Nat → Prop) (c : Nat → Nat) (s t : Nat) : Prop :=
  c s = c t ∧ (bb_Div T (bb_K N c (c s)) s ↔ bb_Div T (bb_K N c (c t)) t) ∧
  ∀ a k, (a = 0 → k ≠ c s) → (bb_Unt T (bb_K N c (c s)) a (bb_K N c k) s ↔ bb_Unt T (bb_K N c (c t)) a (bb_K N c k) t)
theorem bb_al_r (c : Nat → Nat) (s : Nat) : bb_Al N T c s s := ⟨rfl, Iff.rfl, fun _ _ _ => Iff.rfl⟩
theorem bb_al_s {c : Nat → Nat} {s t : Nat} (h : bb_Al N T c s t) : bb_Al N T c t s :=
  ⟨h.1.symm, h.2.1.symm, fun a k hk => (h.2.2 a k (by rw [h.1]; exact hk)).symm⟩
theorem bb_al_t {c : Nat → Nat} {s t u : Nat} (h : bb_Al N T c s t) (h' : bb_Al N T c t u) : bb_Al N T c s u :=
  ⟨h.1.trans h'.1, h.2.1.trans h'.2.1, fun a k hk => (h.2.2 a k hk).trans (h'.2.2 a k (by rw [← h.1]; exact hk))⟩
theorem bb_K_cg {c c' : Nat → Nat} (h : ∀ v, v < N → c' v = c v) (k : Nat) : bb_K N c' k = bb_K N c k := by
  funext v
  refine propext ⟨fun q => ⟨q.1, ?_⟩, fun q => ⟨q.1, ?_⟩⟩
  · rw [← h v q.1]; exact q.2
  · rw [h v q.1]; exact q.2
theorem bb_al_cg {c c' : Nat → Nat} {s t : Nat} (h : ∀ v, v < N → c' v = c v) (hs : s < N) (ht : t < N) (q : bb_Al N T c s t) : bb_Al N T c' s t := by
  obtain ⟨q1, q2, q3⟩ := q
  unfold bb_Al
  rw [h s hs, h t ht]
  refine ⟨q1, ?_, ?_⟩
  · rw [bb_K_cg h, bb_K_cg h]; exact q2
  · intro a k hk
    rw [bb_K_cg h, bb_K_cg h, bb_K_cg h]
    exact q3 a k hk
def bb_Nx (N : Nat) (T : Nat → Nat → Nat → Prop) (c c' : Nat → Nat) : Prop :=
  ∀ s, s < N → c' s ≤ s ∧ bb_Al N T c s (c' s) ∧ ∀ t, t < c' s → ¬ bb_Al N T c s t
theorem bb_nx_eq {c c' : Nat → Nat} {s t : Nat} (h : bb_Nx N T c c') (hs : s < N) (ht : t < N) : c' s = c' t ↔ bb_Al N T c s t := by
  obtain ⟨_, a1, a2⟩ := h s hs
  obtain ⟨_, b1, b2⟩ := h t ht
  constructor
  · intro e
    rw [e] at a1
    exact bb_al_t a1 (bb_al_s b1)
  · intro q
    rcases Nat.lt_trichotomy (c' s) (c' t) with l | l | l
    · exact absurd (bb_al_t (bb_al_s q) a1) (b2 _ l)
    · exact l
    · exact absurd (bb_al_t q b1) (a2 _ l)
theorem bb_nx_id {c c' : Nat → Nat} {s : Nat} (h : bb_Nx N T c c') (hs : s < N) : c' (c' s) = c' s := by
  have h1 := h s hs
  exact (bb_nx_eq h (by omega) hs).mpr (bb_al_s h1.2.1)
def bb_RI (N : Nat) (T : Nat → Nat → Nat → Prop) (r : Nat) (c : Nat → Nat) : Prop :=
  (∀ s, s < N → c s ≤ s ∧ c (c s) = c s) ∧ (∀ R, bb_Eqv N R → bb_Stb T R → ∀ s t, R s t → c s = c t) ∧
  ((∀ s t, s < N → t < N → c s = c t → bb_Al N T c s t) ∨ r + 1 ≤ bb_cn (fun s => decide (c s = s)) N)
theorem bb_cn_pos {p : Nat → Bool} : ∀ n i, i < n → p i = true → 1 ≤ bb_cn p n
  | 0, i, hi, _ => by omega
  | n + 1, i, hi, h => by
    show 1 ≤ bb_cn p n + (if p n = true then 1 else 0)
    by_cases e : i = n
    · subst e
      rw [if_pos h]; omega
    · have := bb_cn_pos n i (by omega) h
      omega
theorem bb_RI_0 (hN : 0 < N) {c : Nat → Nat} (h : ∀ s, s < N → c s = 0) : bb_RI N T 0 c := by
  refine ⟨fun s hs => ?_, fun R hE _ s t r => ?_, Or.inr ?_⟩
  · rw [h s hs]
    exact ⟨Nat.zero_le _, h 0 hN⟩
  · rw [h s (hE.2.2.2 _ _ r).1, h t (hE.2.2.2 _ _ r).2]
  · exact bb_cn_pos N 0 hN (decide_eq_true (h 0 hN))
theorem bb_co_al {c : Nat → Nat} (hT : ∀ a s t, T a s t → s < N ∧ t < N) (h : ∀ R, bb_Eqv N R → bb_Stb T R → ∀ s t, R s t → c s = c t)
    {R : Nat → Nat → Prop} (hE : bb_Eqv N R) (hS : bb_Stb T R) {s t : Nat} (hR : R s t) : bb_Al N T c s t := by
  have hK : ∀ k x y, R x y → bb_K N c k x → bb_K N c k y := fun k x y r q => ⟨(hE.2.2.2 _ _ r).2, by rw [← h R hE hS x y r]; exact q.2⟩
  have e := h R hE hS s t hR
  have hR' := hE.2.1 _ _ hR
  refine ⟨e, ?_, ?_⟩
  · rw [← e]
    exact ⟨fun d => bb_cutD hT hE hS (hK _) d hR, fun d => bb_cutD hT hE hS (hK _) d hR'⟩
  · intro a k hk
    rw [← e]
    have h0 : a = 0 → ∀ x, bb_K N c (c s) x → bb_K N c k x → False := fun ha x p q => hk ha (q.2.symm.trans p.2)
    exact ⟨fun d => bb_cutU hT hE hS (hK _) (hK _) h0 d t hR, fun d => bb_cutU hT hE hS (hK _) (hK _) h0 d s hR'⟩
theorem bb_RI_s {c c' : Nat → Nat} {r : Nat} (hT : ∀ a s t, T a s t → s < N ∧ t < N) (h : bb_RI N T r c) (hn : bb_Nx N T c c') : bb_RI N T (r + 1) c' := by
  obtain ⟨h1, h2, h3⟩ := h
  refine ⟨fun s hs => ⟨(hn s hs).1, bb_nx_id hn hs⟩, fun R hE hS s t q => ?_, ?_⟩
  · exact (bb_nx_eq hn (hE.2.2.2 _ _ q).1 (hE.2.2.2 _ _ q).2).mpr (bb_co_al hT h2 hE hS q)
  · have low : ∀ s, s < N → c s ≤ c' s := by
      intro s hs
      have a := hn s hs
      have b := (h1 (c' s) (by omega)).1
      have e := a.2.1.1
      omega
    by_cases st : ∀ s t, s < N → t < N → c s = c t → bb_Al N T c s t
    · have eq : ∀ s, s < N → c' s = c s := by
        intro s hs
        have a := hn s hs
        have b := h1 s hs
        have l := low s hs
        have : ¬ c s < c' s := fun z => a.2.2 _ z (st s (c s) hs (by omega) b.2.symm)
        omega
      refine Or.inl fun s t hs ht e => bb_al_cg eq hs ht (st s t hs ht ?_)
      rw [← eq s hs, ← eq t ht]; exact e
    · have h4 := h3.resolve_left st
      refine Or.inr (Nat.lt_of_le_of_lt h4 (bb_cn_lt N ?_ ?_))
      · intro s hs q
        have q1 : c s = s := of_decide_eq_true q
        have a := (hn s hs).1
        have l := low s hs
        exact decide_eq_true (by omega)
      · refine Classical.byContradiction fun hc => st fun s t hs ht e => ?_
        have key : ∀ s, s < N → c' s = c s := by
          intro s hs
          have a := hn s hs
          refine Classical.byContradiction fun ne => hc ⟨c' s, by omega, decide_eq_false ?_, decide_eq_true (bb_nx_id hn hs)⟩
          intro z
          have e := a.2.1.1
          omega
        exact (bb_nx_eq hn hs ht).mp (by rw [key s hs, key t ht]; exact e)
theorem bb_RI_N {c : Nat → Nat} (hT : ∀ a s t, T a s t → s < N ∧ t < N) (h : bb_RI N T N c) (s t : Nat) : (s < N ∧ t < N ∧ c s = c t) ↔ bb_Bis N T s t := by
  obtain ⟨h1, h2, h3⟩ := h
  have st : ∀ s t, s < N → t < N → c s = c t → bb_Al N T c s t := by
    rcases h3 with q | q
    · exact q
    · have := bb_cn_le (fun s => decide (c s = s)) N
      omega
  constructor
  · intro hst
    have cls : ∀ s, s < N → (fun t => s < N ∧ t < N ∧ c s = c t) = bb_K N c (c s) := by
      intro s hs
      funext t
      exact propext ⟨fun q => ⟨q.2.1, q.2.2.symm⟩, fun q => ⟨hs, q.1, q.2.symm⟩⟩
    refine ⟨fun s t => s < N ∧ t < N ∧ c s = c t, ⟨?_, ?_, ?_, ?_⟩, ⟨?_, ?_⟩, hst⟩
    · intro s hs
      exact ⟨hs, hs, rfl⟩
    · intro s t q
      exact ⟨q.2.1, q.1, q.2.2.symm⟩
    · intro s t u q q'
      exact ⟨q.1, q'.2.1, q.2.2.trans q'.2.2⟩
    · intro s t q
      exact ⟨q.1, q.2.1⟩
    · intro s t k a q h0 hu
      have al := st s t q.1 q.2.1 q.2.2
      by_cases hk : k < N
      · have e1 := cls s q.1
        have e2 := cls k hk
        dsimp only at hu ⊢
        rw [e1, e2] at hu ⊢
        have := (al.2.2 a (c k) (fun ha e => h0 ha ⟨q.1, hk, e.symm⟩)).mp hu
        rw [← q.2.2] at this
        exact this
      · refine (hu (fun _ => False) ?_ ?_).elim
        · intro v x _ _ z
          exact hk z.1
        · intro v w _ _ z
          exact z
    · intro s t q hd
      have al := st s t q.1 q.2.1 q.2.2
      have e1 := cls s q.1
      dsimp only at hd ⊢
      rw [e1] at hd ⊢
      have := al.2.1.mp hd
      rw [← q.2.2] at this
      exact this
  · intro ⟨R, hE, hS, r⟩
    exact ⟨(hE.2.2.2 _ _ r).1, (hE.2.2.2 _ _ r).2, h2 R hE hS s t r⟩
theorem bb_ldx (N : Nat) (T : Nat → Nat → Nat → Prop) : ∃ c : Nat → Nat, ∀ s t, bb_Bis N T s t → bb_Bis N T s (c s) ∧ c s ≤ t := by
  have h : ∀ s, ∃ k, ∀ t, bb_Bis N T s t → bb_Bis N T s k ∧ k ≤ t := by
    intro s
    by_cases e : ∃ t, bb_Bis N T s t
    · obtain ⟨k, hk, hl⟩ := pk_least _ e
      exact ⟨k, fun t q => ⟨hk, Nat.le_of_not_lt fun z => hl t z q⟩⟩
    · exact ⟨0, fun t q => absurd ⟨t, q⟩ e⟩
  exact ⟨fun s => Classical.choose (h s), fun s => Classical.choose_spec (h s)⟩
def bb_Ld (N : Nat) (T : Nat → Nat → Nat → Prop) (c : Nat → Nat) : Prop := ∀ s t, bb_Bis N T s t → bb_Bis N T s (c s) ∧ c s ≤ t
def bb_Sp (N : Nat) (T : Nat → Nat → Nat → Prop) (c : Nat → Nat) : Prop :=
  (∀ s, s < N → c s ≤ s ∧ c (c s) = c s) ∧ ∀ s t, (s < N ∧ t < N ∧ c s = c t) ↔ bb_Bis N T s t
theorem bb_sp_ld {c l : Nat → Nat} (h : bb_Sp N T c) (hl : bb_Ld N T l) {s : Nat} (hs : s < N) : c s = l s := by
  have h1 := h.1 s hs
  have b := hl s (c s) ((h.2 s (c s)).mp ⟨hs, by omega, h1.2.symm⟩)
  have d := (h.2 s (l s)).mpr b.1
  have e := (h.1 (l s) d.2.1).1
  have := d.2.2
  omega
theorem bb_ld_sp {l : Nat → Nat} (hl : bb_Ld N T l) (hr : ∀ s, s < N → bb_Bis N T s s) (hs : ∀ s t, bb_Bis N T s t → bb_Bis N T t s) (ht : ∀ s t u, bb_Bis N T s t → bb_Bis N T t u → bb_Bis N T s u) : bb_Sp N T l := by
  have bd : ∀ s t, bb_Bis N T s t → s < N ∧ t < N := by
    intro s t ⟨R, hE, _, r⟩
    exact hE.2.2.2 _ _ r
  have same : ∀ s t, bb_Bis N T s t → l s = l t := by
    intro s t q
    have a := hl s t q
    have b := hl t s (hs _ _ q)
    have x := (hl s (l t) (ht _ _ _ q b.1)).2
    have y := (hl t (l s) (ht _ _ _ (hs _ _ q) a.1)).2
    omega
  refine ⟨fun s h => ?_, fun s t => ⟨?_, fun q => ⟨(bd _ _ q).1, (bd _ _ q).2, same s t q⟩⟩⟩
  · have a := hl s s (hr s h)
    exact ⟨a.2, (same _ _ a.1).symm⟩
  · intro ⟨h1, h2, e⟩
    have a := (hl s s (hr s h1)).1
    have b := (hl t t (hr t h2)).1
    rw [e] at a
    exact ht _ _ _ a (hs _ _ b)
def bb_ldr (c : Nat → Nat) : Nat → Bool := fun s => decide (c s = s)
def bb_nb (c : Nat → Nat) (s : Nat) : Nat := bb_cn (bb_ldr c) (c s)
theorem bb_cn_m {p : Nat → Bool} : ∀ n m, m ≤ n → bb_cn p m ≤ bb_cn p n
  | 0, m, h => by
    cases Nat.le_zero.mp h
    exact Nat.le_refl _
  | n + 1, m, h => by
    by_cases e : m = n + 1
    · rw [e]; exact Nat.le_refl _
    · have := bb_cn_m (p := p) n m (by omega)
      exact Nat.le_trans this (Nat.le_add_right _ _)
theorem bb_cn_t {p : Nat → Bool} {u : Nat} (h : p u = true) : bb_cn p (u + 1) = bb_cn p u + 1 := by
  show bb_cn p u + (if p u = true then 1 else 0) = _
  rw [if_pos h]
theorem bb_cn_f {p : Nat → Bool} {u : Nat} (h : ¬ p u = true) : bb_cn p (u + 1) = bb_cn p u := by
  show bb_cn p u + (if p u = true then 1 else 0) = _
  rw [if_neg h]; omega
theorem bb_cn_u {p : Nat → Bool} {u n : Nat} (h : p u = true) (hu : u < n) : bb_cn p u < bb_cn p n := by
  have a := bb_cn_m (p := p) n (u + 1) hu
  rw [bb_cn_t h] at a
  omega
theorem bb_cn_inj {p : Nat → Bool} {u v : Nat} (h : p u = true) (h' : p v = true) (e : bb_cn p u = bb_cn p v) : u = v := by
  rcases Nat.lt_trichotomy u v with l | l | l
  · have := bb_cn_u h l
    omega
  · exact l
  · have := bb_cn_u h' l
    omega
theorem bb_cn_ex {p : Nat → Bool} : ∀ n i, i < bb_cn p n → ∃ u, u < n ∧ p u = true ∧ bb_cn p u = i
  | 0, i, h => by
    have : i < 0 := h
    omega
  | n + 1, i, h => by
    by_cases e : p n = true
    · rw [bb_cn_t e] at h
      by_cases e2 : i = bb_cn p n
      · exact ⟨n, by omega, e, e2.symm⟩
      · obtain ⟨u, a, b, d⟩ := bb_cn_ex (p := p) n i (by omega)
        exact ⟨u, by omega, b, d⟩
    · rw [bb_cn_f e] at h
      obtain ⟨u, a, b, d⟩ := bb_cn_ex (p := p) n i h
      exact ⟨u, by omega, b, d⟩
theorem bb_nb_lt {c : Nat → Nat} (h : ∀ s, s < N → c s ≤ s ∧ c (c s) = c s) {s : Nat} (hs : s < N) : bb_nb c s < bb_cn (bb_ldr c) N := by
  have a := h s hs
  exact bb_cn_u (decide_eq_true a.2) (by omega)
theorem bb_nb_eq {c : Nat → Nat} (h : ∀ s, s < N → c s ≤ s ∧ c (c s) = c s) {s t : Nat} (hs : s < N) (ht : t < N) : bb_nb c s = bb_nb c t ↔ c s = c t := by
  constructor
  · intro e
    exact bb_cn_inj (decide_eq_true (h s hs).2) (decide_eq_true (h t ht).2) e
  · intro e
    show bb_cn _ (c s) = bb_cn _ (c t)
    rw [e]
def bb_BS (g : Nat → Int32) (i s : Nat) : Prop := bt (g i) s = true
theorem bb_par_pm {m : Nat} {B : Nat → Nat → Prop} {π : Nat → Nat} (h : bb_Par N m B) (h1 : ∀ i, i < m → π i < m) (h2 : ∀ i, π (π i) = i) : bb_Par N m (fun i => B (π i)) := by
  refine ⟨fun i hi => h.1 _ (h1 i hi), fun i s hi => h.2.1 _ s (h1 i hi), ?_, ?_⟩
  · intro i j s hi hj a b
    have e := h.2.2.1 _ _ s (h1 i hi) (h1 j hj) a b
    rw [← h2 i, e, h2 j]
  · intro s hs
    obtain ⟨i, hi, q⟩ := h.2.2.2 s hs
    refine ⟨π i, h1 i hi, ?_⟩
    dsimp only
    rw [h2 i]; exact q
theorem bb_pr_pm {m : Nat} {B : Nat → Nat → Prop} {π : Nat → Nat} (h1 : ∀ i, i < m → π i < m) (h2 : ∀ i, π (π i) = i) (s t : Nat) : bb_PR m (fun i => B (π i)) s t ↔ bb_PR m B s t := by
  constructor
  · intro ⟨i, hi, a, b⟩
    exact ⟨π i, h1 i hi, a, b⟩
  · intro ⟨i, hi, a, b⟩
    refine ⟨π i, h1 i hi, ?_, ?_⟩
    · dsimp only
      rw [h2 i]; exact a
    · dsimp only
      rw [h2 i]; exact b
def bb_OI (N : Nat) (c : Nat → Nat) (m : Nat) (g : Nat → Int32) (s o : Nat) : Prop :=
  bb_Par N m (bb_BS g) ∧ (∀ x y, bb_PR m (bb_BS g) x y ↔ (x < N ∧ y < N ∧ c x = c y)) ∧ o = bb_cn (bb_ldr c) s ∧ o ≤ m ∧
  (∀ i, i < o → ∃ t, t < s ∧ bb_BS g i t) ∧ ∀ t i, t < s → i < m → bb_BS g i t → i = bb_nb c t
theorem bb_OI_0 {c : Nat → Nat} {m : Nat} {g : Nat → Int32} (h : bb_Par N m (bb_BS g)) (h2 : ∀ x y, bb_PR m (bb_BS g) x y ↔ (x < N ∧ y < N ∧ c x = c y)) : bb_OI N c m g 0 0 :=
  ⟨h, h2, rfl, Nat.zero_le _, fun i hi => absurd hi (Nat.not_lt_zero _), fun t i ht => absurd ht (Nat.not_lt_zero _)⟩
theorem bb_OI_a {c : Nat → Nat} {m s o k : Nat} {g : Nat → Int32} (hc : ∀ s, s < N → c s ≤ s ∧ c (c s) = c s) (h : bb_OI N c m g s o) (hs : s < N) (hk : k < m) (hb : bb_BS g k s) (ho : k < o) : bb_OI N c m g (s + 1) o := by
  obtain ⟨p, r, e, l, q1, q2⟩ := h
  obtain ⟨t, ht, bt'⟩ := q1 k ho
  have rel := (r t s).mp ⟨k, hk, bt', hb⟩
  have kn : k = bb_nb c s := by
    rw [q2 t k ht hk bt']
    exact (bb_nb_eq hc rel.1 hs).mpr rel.2.2
  refine ⟨p, r, ?_, l, ?_, ?_⟩
  · have nl : ¬ bb_ldr c s = true := by
      intro z
      have z1 : c s = s := of_decide_eq_true z
      have := (hc t rel.1).1
      have := rel.2.2
      omega
    rw [bb_cn_f nl]; exact e
  · intro i hi
    obtain ⟨t, ht, q⟩ := q1 i hi
    exact ⟨t, by omega, q⟩
  · intro t i ht hi q
    by_cases es : t = s
    · subst es
      rw [p.2.2.1 i k t hi hk q hb]; exact kn
    · exact q2 t i (by omega) hi q
theorem bb_OI_b {c : Nat → Nat} {m s o k : Nat} {g g' : Nat → Int32} (hc : ∀ s, s < N → c s ≤ s ∧ c (c s) = c s) (h : bb_OI N c m g s o) (hs : s < N) (hk : k < m) (hb : bb_BS g k s) (ho : o ≤ k)
    (hg : ∀ i, g' i = g (if i = o then k else if i = k then o else i)) : bb_OI N c m g' (s + 1) (o + 1) := by
  obtain ⟨p, r, e, l, q1, q2⟩ := h
  have eB : bb_BS g' = fun i => bb_BS g ((fun i => if i = o then k else if i = k then o else i) i) := by
    funext i s
    show (bt (g' i) s = true) = _
    rw [hg i]
    rfl
  have pi1 : ∀ i, i < m → (fun i => if i = o then k else if i = k then o else i) i < m := by
    intro i hi
    dsimp only
    split
    · exact hk
    · split
      · omega
      · exact hi
  have pi2 : ∀ i, (fun i => if i = o then k else if i = k then o else i) ((fun i => if i = o then k else if i = k then o else i) i) = i := by
    intro i
    dsimp only
    by_cases a : i = o
    · rw [if_pos a]
      by_cases b : k = o
      · rw [if_pos b]; omega
      · rw [if_neg b, if_pos rfl]; omega
    · rw [if_neg a]
      by_cases b : i = k
      · rw [if_pos b, if_pos rfl]; omega
      · rw [if_neg b, if_neg a, if_neg b]
  have cs : c s = s := by
    have a := hc s hs
    refine Classical.byContradiction fun ne => ?_
    obtain ⟨i, hi, x, y⟩ := (r s (c s)).mpr ⟨hs, by omega, a.2.symm⟩
    cases p.2.2.1 i k s hi hk x hb
    have z := q2 (c s) k (by omega) hk y
    have z2 : bb_nb c (c s) = bb_cn (bb_ldr c) (c s) := by
      show bb_cn _ (c (c s)) = _
      rw [a.2]
    have z3 := bb_cn_u (p := bb_ldr c) (u := c s) (n := s) (decide_eq_true a.2) (by omega)
    omega
  have no : bb_nb c s = o := by
    show bb_cn _ (c s) = o
    rw [cs]; exact e.symm
  refine ⟨?_, ?_, ?_, by omega, ?_, ?_⟩
  · rw [eB]; exact bb_par_pm p pi1 pi2
  · intro x y
    rw [eB, bb_pr_pm pi1 pi2]; exact r x y
  · rw [bb_cn_t (decide_eq_true cs)]; omega
  · intro i hi
    by_cases ei : i = o
    · refine ⟨s, by omega, ?_⟩
      show bt (g' i) s = true
      rw [hg, if_pos ei]; exact hb
    · obtain ⟨t, ht, q⟩ := q1 i (by omega)
      refine ⟨t, by omega, ?_⟩
      show bt (g' i) t = true
      rw [hg, if_neg ei, if_neg (by omega)]; exact q
  · intro t i ht hi q
    have q' : bt (g' i) t = true := q
    rw [hg] at q'
    by_cases es : t = s
    · subst es
      have e2 := p.2.2.1 _ k t (pi1 i hi) hk q' hb
      rw [no]
      dsimp only at e2
      by_cases a : i = o
      · exact a
      · rw [if_neg a] at e2
        by_cases b : i = k
        · rw [if_pos b] at e2; omega
        · rw [if_neg b] at e2; omega
    · have e3 := q2 t _ (by omega) (pi1 i hi) q'
      dsimp only at e3
      have e4 : bb_nb c t < o := by
        have rel := (r t t).mp ⟨_, pi1 i hi, q', q'⟩
        have a := hc t rel.1
        rw [e]
        exact bb_cn_u (decide_eq_true a.2) (by omega)
      by_cases a : i = o
      · rw [if_pos a] at e3; omega
      · rw [if_neg a] at e3
        by_cases b : i = k
        · rw [if_pos b] at e3; omega
        · rw [if_neg b] at e3; exact e3
theorem bb_OI_N {c : Nat → Nat} {m o : Nat} {g : Nat → Int32} (hc : ∀ s, s < N → c s ≤ s ∧ c (c s) = c s) (h : bb_OI N c m g N o) : m = bb_cn (bb_ldr c) N ∧ ∀ i s, i < m → (bt (g i) s = true ↔ s < N ∧ bb_nb c s = i) := by
  obtain ⟨p, r, e, l, q1, q2⟩ := h
  refine ⟨?_, fun i s hi => ⟨fun q => ?_, fun q => ?_⟩⟩
  · refine Nat.le_antisymm (Nat.le_of_not_lt fun z => ?_) (by omega)
    obtain ⟨s, q⟩ := p.1 _ z
    have hs := p.2.1 _ s z q
    have a := q2 s _ hs z q
    have b := bb_nb_lt hc hs
    omega
  · have hs := p.2.1 i s hi q
    exact ⟨hs, (q2 s i hs hi q).symm⟩
  · obtain ⟨j, hj, b⟩ := p.2.2.2 s q.1
    have a := q2 s j q.1 hj b
    have e : i = j := by omega
    rw [e]; exact b
def bb_sum (f : Nat → Nat) : Nat → Nat
  | 0 => 0
  | n + 1 => bb_sum f n + f n
theorem bb_sum_cg {f f' : Nat → Nat} : ∀ n, (∀ i, i < n → f i = f' i) → bb_sum f n = bb_sum f' n
  | 0, _ => rfl
  | n + 1, h => by
    show bb_sum f n + f n = bb_sum f' n + f' n
    rw [bb_sum_cg n (fun i hi => h i (by omega)), h n (by omega)]
theorem bb_sum_z {f : Nat → Nat} (b : Nat) (h : ∀ i, b ≤ i → f i = 0) : ∀ n, b ≤ n → bb_sum f n = bb_sum f b
  | 0, hn => by
    cases Nat.le_zero.mp hn
    rfl
  | n + 1, hn => by
    by_cases e : b = n + 1
    · rw [e]
    · show bb_sum f n + f n = _
      rw [bb_sum_z b h n (by omega), h n (by omega), Nat.add_zero]
theorem bb_sum_le {f : Nat → Nat} (b : Nat) (h : ∀ i, f i ≤ b) : ∀ n, bb_sum f n ≤ n * b
  | 0 => by
    show 0 ≤ 0 * b
    omega
  | n + 1 => by
    have := bb_sum_le b h n
    have := h n
    show bb_sum f n + f n ≤ (n + 1) * b
    rw [Nat.succ_mul]
    omega
end
