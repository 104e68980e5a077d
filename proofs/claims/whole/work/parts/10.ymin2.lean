section
variable {T : Nat → Nat → Nat → Prop} {N L mv : Nat} {ymx ymq ymi yff : Int32} {yA yB yC ykd ylf yfl yrt ycl yfi yok yse yde yst ytr : Nat → Int32} {c : Nat → Nat}
def by_Fi (N : Nat) (T : Nat → Nat → Nat → Prop) (c : Nat → Nat) (fi : Nat → Int32) (s : Nat) : Prop := ∃ f, fi s = nI f ∧ f ≤ s ∧ bb_Al N T c s f ∧ ∀ t, t < f → ¬ bb_Al N T c s t
theorem by_m85 {post : Int32 → SY → Prop} {J35 : Int32 → Int32 → Int32 → Int32 → Int32 → Int32 → Int32 → Int32 → (Nat → Int32) → (Nat → Int32) → (Nat → Int32) → (Nat → Int32) → (Nat → Int32) → (Nat → Int32) → (Nat → Int32) → (Nat → Int32) → (Nat → Int32) → (Nat → Int32) → (Nat → Int32) → (Nat → Int32) → (Nat → Int32) → (Nat → Int32) → Prop}
    {J66 : Int32 → (Nat → Int32) → (Nat → Int32) → (Nat → Int32) → (Nat → Int32) → (Nat → Int32) → (Nat → Int32) → (Nat → Int32) → (Nat → Int32) → (Nat → Int32) → (Nat → Int32) → (Nat → Int32) → (Nat → Int32) → (Nat → Int32) → (Nat → Int32) → Prop}
    {x1 : Int32} {s : Nat} (hb : ∀ a s t, T a s t → a ≤ L ∧ s < N ∧ t < N) (hN : N ≤ 12) (hL : L ≤ 3) (hs : s < N) (hC : by_C N c ycl) (hD : ∀ s, s < N → by_Dd N T c yde s) (hS : ∀ s, s < N → by_Ds N T c yst s) (h0 : yfi s = nI s)
    (hJ : ∀ fi, by_Fi N T c fi s → (∀ j, j ≠ s → fi j = yfi j) → J66 (nI (s + 1)) yA yB yC ykd ylf yfl yrt ycl fi yok yse yde yst ytr) : ∃ n, wY_minimise_85 post J35 J66 x1 (nI s) (nI N) (nI L) ymx ymq ymi (nI mv) yff n (nI s + (-1)) yA yB yC ykd ylf yfl yrt ycl yfi yok yse yde yst ytr := by
  refine ⟨s + 1, pk_loopD (fun n i (fi : Nat → Int32) => wY_minimise_85 post J35 J66 x1 (nI s) (nI N) (nI L) ymx ymq ymi (nI mv) yff n (nI i + (-1)) yA yB yC ykd ylf yfl yrt ycl fi yok yse yde yst ytr) (fun i fi => i ≤ s ∧ (∃ f, fi s = nI f ∧ i ≤ f ∧ f ≤ s ∧ bb_Al N T c s f ∧ ∀ t, i ≤ t → t < f → ¬ bb_Al N T c s t) ∧ ∀ j, j ≠ s → fi j = yfi j) ?_ ?_ s yfi ?_⟩
  · rintro n fi ⟨_, ⟨f, e, _, h1, h2, h3⟩, h4⟩
    exact br_t (by decide) (nm_r (nI_1 s) (hJ fi ⟨f, e, h1, h2, fun t ht => h3 t (Nat.zero_le _) ht⟩ h4))
  · rintro n i fi ⟨hi, ⟨f, e, h0', h1, h2, h3⟩, h4⟩ ih
    rw [pk_m1]
    refine br_f (nI_pos (by omega)) (by_alike hb hN hL hs (by omega) hC (hD s hs) (hD i (by omega)) (hS s hs) (hS i (by omega)) (fun q => br_f (by decide) ?_) (fun q => br_t rfl (nm_e (ih fi ⟨by omega, ⟨f, e, by omega, h1, h2, fun t ht ht2 => ?_⟩, h4⟩))))
    · rw [nI_clamp (n := s) (by omega)]
      refine ⟨vp_in_nI (by omega) (by decide), nm_e (nm_e (ih (upd fi s (nI i)) ⟨by omega, ⟨i, pk_us, Nat.le_refl _, by omega, q, fun t ht ht2 => by omega⟩, fun j hj => ?_⟩))⟩
      rw [pk_un hj]
      exact h4 j hj
    · by_cases et : t = i
      · rw [et]; exact q
      · exact h3 t (by omega) ht2
  · exact ⟨Nat.le_refl _, ⟨s, h0, Nat.le_refl _, Nat.le_refl _, bb_al_r c s, fun t ht ht2 => by omega⟩, fun _ _ => rfl⟩
theorem by_m66 {post : Int32 → SY → Prop} {J35 : Int32 → Int32 → Int32 → Int32 → Int32 → Int32 → Int32 → Int32 → (Nat → Int32) → (Nat → Int32) → (Nat → Int32) → (Nat → Int32) → (Nat → Int32) → (Nat → Int32) → (Nat → Int32) → (Nat → Int32) → (Nat → Int32) → (Nat → Int32) → (Nat → Int32) → (Nat → Int32) → (Nat → Int32) → (Nat → Int32) → Prop}
    {r : Nat} (hb : ∀ a s t, T a s t → a ≤ L ∧ s < N ∧ t < N) (hN : N ≤ 12) (hL : L ≤ 3) (hC : by_C N c ycl) (hD : ∀ s, s < N → by_Dd N T c yde s) (hS : ∀ s, s < N → by_Ds N T c yst s)
    (hJ : ∀ fi cl, (∀ s, s < N → by_Fi N T c fi s) → (∀ s, s < N → cl s = fi s) → J35 (nI (r + 1)) (nI N) (nI L) ymx ymq ymi (nI mv) yff yA yB yC ykd ylf yfl yrt cl fi yok yse yde yst ytr) : ∃ n, wY_minimise_66 post J35 (nI r) (nI N) (nI L) ymx ymq ymi (nI mv) yff n 0 yA yB yC ykd ylf yfl yrt ycl yfi yok yse yde yst ytr := by
  refine loop_0 (fun n i (fi : Nat → Int32) => wY_minimise_66 post J35 (nI r) (nI N) (nI L) ymx ymq ymi (nI mv) yff n (nI i) yA yB yC ykd ylf yfl yrt ycl fi yok yse yde yst ytr) (fun i fi => ∀ s, s < i → by_Fi N T c fi s) N yfi (fun s h => absurd h (Nat.not_lt_zero _)) ?_ ?_
  · intro n fi h
    refine br_t (nI_le (Nat.le_refl _) (by omega)) ?_
    refine loop_0 (fun n i (cl : Nat → Int32) => wY_minimise_119 post J35 (nI r) (nI N) (nI L) ymx ymq ymi (nI mv) yff n (nI i) yA yB yC ykd ylf yfl yrt cl fi yok yse yde yst ytr) (fun i cl => ∀ s, s < i → cl s = fi s) N ycl (fun s h => absurd h (Nat.not_lt_zero _)) ?_ ?_
    · intro n cl h'
      exact br_t (nI_le (Nat.le_refl _) (by omega)) (nm_r (nI_1 r) (hJ fi cl h h'))
    · intro n i cl hi h' ih
      refine br_f (nI_ge hi (by omega)) ?_
      rw [nI_clamp (n := i) (by omega)]
      refine ⟨vp_in_nI (by omega) (by decide), vp_in_nI (by omega) (by decide), nm_e (nm_r (nI_1 i) (ih _ fun s hs => ?_))⟩
      by_cases e : s = i
      · rw [e, pk_us]
      · rw [pk_un e]; exact h' s (by omega)
  · intro n i fi hi h ih
    refine br_f (nI_ge hi (by omega)) ?_
    rw [nI_clamp (n := i) (by omega)]
    refine ⟨vp_in_nI (by omega) (by decide), nm_e (nm_r (Int32.sub_eq_add_neg _ _) (by_m85 hb hN hL hi hC hD hS pk_us (fun fi' h1 h2 => ih fi' fun s hs => ?_)))⟩
    by_cases e : s = i
    · rw [e]; exact h1
    · obtain ⟨f, q, q2⟩ := h s (by omega)
      exact ⟨f, by rw [h2 s e, pk_un e]; exact q, q2⟩
theorem by_m45 {post : Int32 → SY → Prop} {J35 : Int32 → Int32 → Int32 → Int32 → Int32 → Int32 → Int32 → Int32 → (Nat → Int32) → (Nat → Int32) → (Nat → Int32) → (Nat → Int32) → (Nat → Int32) → (Nat → Int32) → (Nat → Int32) → (Nat → Int32) → (Nat → Int32) → (Nat → Int32) → (Nat → Int32) → (Nat → Int32) → (Nat → Int32) → (Nat → Int32) → Prop}
    {r : Nat} (hT : by_T N L T mv yA yB yC) (hN : N ≤ 12) (hL : L ≤ 3) (hv : mv ≤ 32) (hC : by_C N c ycl)
    (hJ : ∀ cl fi ok se de st, (∀ s, s < N → by_Fi N T c fi s) → (∀ s, s < N → cl s = fi s) → J35 (nI (r + 1)) (nI N) (nI L) ymx ymq ymi (nI mv) yff yA yB yC ykd ylf yfl yrt cl fi ok se de st ytr) : ∃ n, wY_minimise_45 post J35 (nI r) n 0 (nI N) (nI L) ymx ymq ymi (nI mv) yff yA yB yC ykd ylf yfl yrt ycl yfi yok yse yde yst ytr := by
  refine loop_0 (fun n i (s : (Nat → Int32) × (Nat → Int32) × (Nat → Int32) × (Nat → Int32)) => wY_minimise_45 post J35 (nI r) n (nI i) (nI N) (nI L) ymx ymq ymi (nI mv) yff yA yB yC ykd ylf yfl yrt ycl yfi s.1 s.2.1 s.2.2.1 s.2.2.2 ytr) (fun i s => ∀ t, t < i → by_Dd N T c s.2.2.1 t ∧ by_Ds N T c s.2.2.2 t) N (yok, yse, yde, yst) (fun s h => absurd h (Nat.not_lt_zero _)) ?_ ?_
  · rintro n ⟨ok, se, de, st⟩ h
    dsimp only at h ⊢
    exact br_t (nI_le (Nat.le_refl _) (by omega)) (by_m66 hT.2.2 hN hL hC (fun s hs => (h s hs).1) (fun s hs => (h s hs).2) (fun fi cl h1 h2 => hJ cl fi ok se de st h1 h2))
  · rintro n i ⟨ok, se, de, st⟩ hi h ih
    dsimp only at h ⊢
    refine br_f (nI_ge hi (by omega)) (by_desc hT hN hL hv hi hC (fun ok' se' de' st' h1 h2 h3 h4 => nm_r (nI_1 i) (ih (ok', se', de', st') fun t ht => ?_)))
    dsimp only
    by_cases e : t = i
    · subst e
      exact ⟨h1, h3⟩
    · obtain ⟨q1, q2⟩ := h t (by omega)
      refine ⟨fun a k ha hk => ?_, ?_⟩
      · rw [h2 _ (by omega)]
        exact q1 a k ha hk
      · unfold by_Ds
        rw [h4 t e]
        exact q2
theorem bb_cn_cg {p q : Nat → Bool} : ∀ n, (∀ i, i < n → p i = q i) → bb_cn p n = bb_cn q n
  | 0, _ => rfl
  | n + 1, h => by
    show bb_cn p n + (if p n = true then 1 else 0) = bb_cn q n + (if q n = true then 1 else 0)
    rw [bb_cn_cg n (fun i hi => h i (by omega)), h n (by omega)]
theorem by_min {post : Int32 → SY → Prop} {l : Nat → Nat} (hT : by_T N L T mv yA yB yC) (h2 : 2 ≤ N) (hN : N ≤ 12) (hL : L ≤ 3) (hv : mv ≤ 32) (hl : bb_Ld N T l)
    (hp : ∀ cl fi ok se de st, (∀ v, v < N → cl v = nI (l v)) → post (nI (bb_cn (bb_ldr l) N)) ((nI N), (nI L), ymx, ymq, 1, (nI mv), 0, yA, yB, yC, ykd, ylf, yfl, yrt, cl, fi, ok, se, de, st, ytr)) : wpY_minimise post ((nI N), (nI L), ymx, ymq, 0, (nI mv), yff, yA, yB, yC, ykd, ylf, yfl, yrt, ycl, yfi, yok, yse, yde, yst, ytr) := by
  have hb' : ∀ a s t, T a s t → s < N ∧ t < N := fun a s t m => (hT.2.2 a s t m).2
  unfold wpY_minimise
  dsimp only
  refine br_t rfl ?_
  refine loop_0 (fun n i (cl : Nat → Int32) => wY_minimise_12 post (nI N) (nI L) ymx ymq 0 (nI mv) yff n (nI i) yA yB yC ykd ylf yfl yrt cl yfi yok yse yde yst ytr) (fun i cl => ∀ s, s < i → cl s = 0) N ycl (fun s h => absurd h (Nat.not_lt_zero _)) ?_ ?_
  · intro n cl h
    refine br_t (nI_le (Nat.le_refl _) (by omega)) ?_
    refine loop_0 (fun n i (s : (Nat → Int32) × (Nat → Int32) × (Nat → Int32) × (Nat → Int32) × (Nat → Int32) × (Nat → Int32)) => wY_minimise_35 post n (nI i) (nI N) (nI L) ymx ymq 0 (nI mv) yff yA yB yC ykd ylf yfl yrt s.1 s.2.1 s.2.2.1 s.2.2.2.1 s.2.2.2.2.1 s.2.2.2.2.2 ytr) (fun i s => ∃ c, (∀ v, v < N → s.1 v = nI (c v)) ∧ bb_RI N T i c) N (cl, yfi, yok, yse, yde, yst) ?_ ?_ ?_
    · exact ⟨fun _ => 0, h, bb_RI_0 (by omega) (fun _ _ => rfl)⟩
    · rintro n ⟨cl, fi, ok, se, de, st⟩ ⟨c, hc, hr⟩
      dsimp only at hc ⊢
      refine br_t (nI_le (Nat.le_refl _) (by omega)) ?_
      have hC : by_C N c cl := fun v hv => ⟨hc v hv, by have := (hr.1 v hv).1; omega⟩
      have hsp : bb_Sp N T c := ⟨hr.1, bb_RI_N hb' hr⟩
      have he : ∀ s, s < N → c s = l s := fun s hs => bb_sp_ld hsp hl hs
      unfold wpY_blockCount
      dsimp only
      refine br_f (by decide) (by_bc14 hN hC ?_)
      have e2 : bb_cn (bb_ldr c) N = bb_cn (bb_ldr l) N := by
        refine bb_cn_cg N fun i hi => ?_
        unfold bb_ldr
        rw [he i hi]
      rw [e2]
      exact hp cl fi ok se de st (fun v hv => by rw [hc v hv, he v hv])
    · rintro n i ⟨cl, fi, ok, se, de, st⟩ hi ⟨c, hc, hr⟩ ih
      dsimp only at hc ⊢
      have hC : by_C N c cl := fun v hv => ⟨hc v hv, by have := (hr.1 v hv).1; omega⟩
      refine br_f (nI_ge hi (by omega)) (by_m45 hT hN hL hv hC (fun cl' fi' ok' se' de' st' h1 h2 => ih (cl', fi', ok', se', de', st') ⟨fun v => (fi' v).toNatClampNeg, fun v hv => ?_, bb_RI_s hb' hr ?_⟩))
      · obtain ⟨f, e, h3, _⟩ := h1 v hv
        dsimp only
        rw [h2 v hv, e, nI_clamp (by omega)]
      · intro v hv
        obtain ⟨f, e, h3, h4, h5⟩ := h1 v hv
        dsimp only
        rw [e, nI_clamp (by omega)]
        exact ⟨h3, h4, h5⟩
  · intro n i cl hi h ih
    refine br_f (nI_ge hi (by omega)) ?_
    rw [nI_clamp (n := i) (by omega)]
    refine ⟨vp_in_nI (by omega) (by decide), nm_e (nm_r (nI_1 i) (ih _ fun s hs => ?_))⟩
    by_cases e : s = i
    · rw [e, pk_us]
    · rw [pk_un e]; exact h s (by omega)
end
