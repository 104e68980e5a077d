section
variable {T : Nat → Nat → Nat → Prop} {N L : Nat} {xml xql xmt xmi xbT xft : Int32} {xtg xbs xfo : Nat → Int32}
theorem bx_bw {post : Int32 → Prop} {s k m : Nat} (hm : m ≤ 12) (hs : s < 32) (hk : k < m) (hb : bb_BS xbs k s) (hu : ∀ i, i < m → bb_BS xbs i s → i = k) (hp : post (nI k)) : wpX_blockWith post ((nI N), (nI L), xml, xql, xmt, xmi, nI m, xft, xtg, xbs, xfo) (nI s) := by
  unfold wpX_blockWith
  dsimp only
  refine loop_0 (fun n i (r : Int32) => wX_blockWith_4 post (nI s) (nI N) (nI L) xml xql xmt xmi (nI m) xft xtg xbs xfo n r (nI i)) (fun i r => k < i → r = nI k) m 0 ?_ ?_ ?_
  · intro h
    omega
  · intro n r h
    rw [h hk]
    exact br_t (nI_le (Nat.le_refl _) (by omega)) hp
  · intro n i r hi h ih
    refine br_f (nI_ge hi (by omega)) ⟨vp_in_nI (by omega) (by decide), ?_⟩
    rw [nI_clamp (by omega)]
    refine bx_con hs (fun q => ?_) (fun q => ?_)
    · refine br_f (by decide) (nm_r (nI_1 i) (ih _ fun _ => ?_))
      rw [hu i hi q]
    · refine br_t rfl (nm_r (nI_1 i) (ih _ fun z => h ?_))
      have : i ≠ k := fun e => q (by rw [e]; exact hb)
      omega
theorem bb_bs_cut {g : Nat → Int32} {m k : Nat} {U : Int32} (hk : k < m) : bb_BS (upd (upd g k (g k &&& U)) m (g k &&& (U ^^^ (-1)))) = bb_cutB m k (bb_BS g) (fun s => bt U s = true) := by
  funext i s
  unfold bb_cutB bb_BS
  by_cases e : i = m
  · subst e
    rw [pk_us, if_pos rfl]
    exact propext (bb_diffS _ _ _)
  · rw [pk_un e, if_neg e]
    by_cases e2 : i = k
    · subst e2
      rw [pk_us, if_pos rfl]
      exact propext (bb_andS _ _ _)
    · rw [pk_un e2, if_neg e2]
theorem bx_cut {post : Int32 → St2 → Prop} {k m : Nat} {U : Int32} (hm : m ≤ 12) (hk : k < m)
    (h0 : ((∀ s, bb_BS xbs k s → bt U s = true) ∨ (∀ s, bb_BS xbs k s → ¬ bt U s = true)) → post 0 ((nI N), (nI L), xml, xql, xmt, xmi, nI m, xft, xtg, xbs, xfo))
    (hr : (∃ s, bb_BS xbs k s ∧ bt U s = true) → (∃ s, bb_BS xbs k s ∧ ¬ bt U s = true) → m < 12)
    (h1 : (∃ s, bb_BS xbs k s ∧ bt U s = true) → (∃ s, bb_BS xbs k s ∧ ¬ bt U s = true) → post 1 ((nI N), (nI L), xml, xql, xmt, xmi, nI (m + 1), xft, xtg, upd (upd xbs k (xbs k &&& U)) m (xbs k &&& (U ^^^ (-1))), xfo)) : wpX_cutBlock post ((nI N), (nI L), xml, xql, xmt, xmi, nI m, xft, xtg, xbs, xfo) (nI k) U := by
  unfold wpX_cutBlock
  dsimp only
  rw [nI_clamp (by omega), nI_clamp (by omega)]
  refine ⟨vp_in_nI (by omega) (by decide), nm_e ⟨vp_in_nI (by omega) (by decide), nm_e (br_c (fun z => h0 (Or.inr fun s b u => ?_)) (fun z => br_c (fun z2 => h0 (Or.inl fun s b => ?_)) (fun z2 => ?_)))⟩⟩
  · exact (bb_z _).mp z s ((bb_andS _ _ _).mpr ⟨b, u⟩)
  · exact Classical.byContradiction fun u => (bb_z _).mp z2 s ((bb_diffS _ _ _).mpr ⟨b, u⟩)
  · have e1 : ∃ s, bb_BS xbs k s ∧ bt U s = true := by
      obtain ⟨s, q⟩ := (bb_nz _).mp z
      exact ⟨s, (bb_andS _ _ _).mp q⟩
    have e2 : ∃ s, bb_BS xbs k s ∧ ¬ bt U s = true := by
      obtain ⟨s, q⟩ := (bb_nz _).mp z2
      exact ⟨s, (bb_diffS _ _ _).mp q⟩
    refine ⟨vp_in_nI (by omega) (by decide), nm_e ⟨vp_in_nI (hr e1 e2) (by decide), nm_e (nm_r (nI_1 m) (h1 e1 e2))⟩⟩
def bx_PC (N : Nat) (T : Nat → Nat → Nat → Prop) (m : Nat) (g : Nat → Int32) : Prop := bb_Par N m (bb_BS g) ∧ bb_Co N T m (bb_BS g)
theorem bx_cutS {post : Int32 → St2 → Prop} {k m : Nat} {U : Int32} (hN : N ≤ 12) (hP : bx_PC N T m xbs) (hk : k < m)
    (hU : ∀ R, bb_Eqv N R → bb_Stb T R → ∀ s t, R s t → bb_BS xbs k s → bt U s = true → bt U t = true)
    (h0 : (∀ s t, bb_BS xbs k s → bb_BS xbs k t → bt U s = true → bt U t = true) → post 0 ((nI N), (nI L), xml, xql, xmt, xmi, nI m, xft, xtg, xbs, xfo))
    (h1 : ∀ g', bx_PC N T (m + 1) g' → post 1 ((nI N), (nI L), xml, xql, xmt, xmi, nI (m + 1), xft, xtg, g', xfo)) : wpX_cutBlock post ((nI N), (nI L), xml, xql, xmt, xmi, nI m, xft, xtg, xbs, xfo) (nI k) U := by
  have hm := bb_par_le hP.1
  refine bx_cut (by omega) hk (fun h => h0 ?_) (fun e1 e2 => ?_) (fun e1 e2 => h1 _ ⟨?_, ?_⟩)
  · intro s t bs' bt' u
    rcases h with h | h
    · exact h t bt'
    · exact absurd u (h s bs')
  · have := bb_par_le (bb_par_cut hP.1 hk e1 e2)
    omega
  · rw [bb_bs_cut hk]
    exact bb_par_cut hP.1 hk e1 e2
  · rw [bb_bs_cut hk]
    exact bb_co_cut hP.2 hk hU
theorem bx_cbd {post : Int32 → St2 → Prop} {k m : Nat} (hT : bx_T N L T xtg) (hN : N ≤ 12) (hL : L ≤ 3) (hP : bx_PC N T m xbs) (hk : k < m)
    (h0 : (∀ s t, bb_BS xbs k s → bb_BS xbs k t → bb_Div T (bb_BS xbs k) s → bb_Div T (bb_BS xbs k) t) → post 0 ((nI N), (nI L), xml, xql, xmt, xmi, nI m, xft, xtg, xbs, xfo))
    (h1 : ∀ g', bx_PC N T (m + 1) g' → post 1 ((nI N), (nI L), xml, xql, xmt, xmi, nI (m + 1), xft, xtg, g', xfo)) : wpX_cutByDivergence post ((nI N), (nI L), xml, xql, xmt, xmi, nI m, xft, xtg, xbs, xfo) (nI k) := by
  have hm := bb_par_le hP.1
  have hT' : ∀ a s t, T a s t → s < N ∧ t < N := fun a s t m => (hT.1 a s t m).2
  unfold wpX_cutByDivergence
  dsimp only
  rw [nI_clamp (by omega)]
  refine ⟨vp_in_nI (by omega) (by decide), bx_div hT hN hL (fun s q => hP.1.2.1 k s hk q) (fun r hr => ?_)⟩
  refine bx_cutS hN hP hk ?_ (fun h => ⟨rfl, h0 fun s t a b d => ?_⟩) (fun g' hg => ⟨rfl, h1 g' hg⟩)
  · intro R hE hS s t q b u
    rw [hr] at u ⊢
    exact bb_cutD hT' hE hS (fun x y q2 b2 => hP.2 R hE hS k x y hk q2 b2) u q
  · exact (hr t).mp (h s t a b ((hr s).mpr d))
def bx_FU (T : Nat → Nat → Nat → Prop) (g : Nat → Int32) (k a c : Nat) : Prop :=
  ∀ s t, bb_BS g k s → bb_BS g k t → bb_Unt T (bb_BS g k) a (bb_BS g c) s → bb_Unt T (bb_BS g k) a (bb_BS g c) t
theorem bx_cbm37 {post : Int32 → St2 → Prop} {J7 J18 : Int32 → Int32 → Int32 → Int32 → Int32 → Int32 → Int32 → Int32 → Int32 → (Nat → Int32) → (Nat → Int32) → (Nat → Int32) → Prop} {k m a c : Nat} (hT : bx_T N L T xtg) (hN : N ≤ 12) (hL : L ≤ 3) (hP : bx_PC N T m xbs) (hk : k < m) (ha : a ≤ L) (hc : c < m) (hac : a = 0 → c ≠ k)
    (h0 : bx_FU T xbs k a c → J18 (nI (c + 1)) (nI N) (nI L) xml xql xmt xmi (nI m) xft xtg xbs xfo)
    (h1 : ∀ g', bx_PC N T (m + 1) g' → post 1 ((nI N), (nI L), xml, xql, xmt, xmi, nI (m + 1), xft, xtg, g', xfo)) : wX_cutByMoves_37 post J7 J18 (nI k) (nI m) (nI a) (nI c) (nI N) (nI L) xml xql xmt xmi (nI m) xft xtg xbs xfo := by
  have hm := bb_par_le hP.1
  have hT' : ∀ a s t, T a s t → s < N ∧ t < N := fun a s t m => (hT.1 a s t m).2
  unfold wX_cutByMoves_37
  rw [nI_clamp (by omega), nI_clamp (by omega)]
  refine ⟨vp_in_nI (by omega) (by decide), vp_in_nI (by omega) (by decide), bx_unt hT hN hL ha (fun r hr => ?_)⟩
  have hr' : ∀ s, bb_BS xbs k s → (bt r s = true ↔ bb_Unt T (bb_BS xbs k) a (bb_BS xbs c) s) := by
    intro s b
    rw [hr]
    refine ⟨fun z => z.elim id (fun z => ?_), Or.inl⟩
    exact absurd (hP.1.2.2.1 c k s hc hk z.2 b) (hac z.1)
  refine bx_cutS hN hP hk ?_ (fun h => br_t rfl (nm_r (nI_1 c) (h0 fun s t x y d => ?_))) (fun g' hg => br_f (by decide) (h1 g' hg))
  · intro R hE hS s t q b u
    have b' := hP.2 R hE hS k s t hk q b
    rw [hr' s b] at u
    rw [hr' t b']
    refine bb_cutU hT' hE hS (fun x y q2 b2 => hP.2 R hE hS k x y hk q2 b2) (fun x y q2 b2 => hP.2 R hE hS c x y hc q2 b2) ?_ u t q
    intro e x b1 b2
    exact hac e (hP.1.2.2.1 c k x hc hk b2 b1)
  · exact (hr' t y).mp (h s t x y ((hr' s x).mpr d))
theorem bx_cbm18 {post : Int32 → St2 → Prop} {J7 : Int32 → Int32 → Int32 → Int32 → Int32 → Int32 → Int32 → Int32 → Int32 → (Nat → Int32) → (Nat → Int32) → (Nat → Int32) → Prop} {k m a : Nat} (hT : bx_T N L T xtg) (hN : N ≤ 12) (hL : L ≤ 3) (hP : bx_PC N T m xbs) (hk : k < m) (ha : a ≤ L)
    (h0 : (∀ c, c < m → (a = 0 → c ≠ k) → bx_FU T xbs k a c) → J7 (nI (a + 1)) (nI N) (nI L) xml xql xmt xmi (nI m) xft xtg xbs xfo)
    (h1 : ∀ g', bx_PC N T (m + 1) g' → post 1 ((nI N), (nI L), xml, xql, xmt, xmi, nI (m + 1), xft, xtg, g', xfo)) : ∃ n, wX_cutByMoves_18 post J7 (nI k) (nI m) (nI a) n 0 (nI N) (nI L) xml xql xmt xmi (nI m) xft xtg xbs xfo := by
  have hm := bb_par_le hP.1
  refine loop_0 (fun n i (_ : Unit) => wX_cutByMoves_18 post J7 (nI k) (nI m) (nI a) n (nI i) (nI N) (nI L) xml xql xmt xmi (nI m) xft xtg xbs xfo) (fun i _ => ∀ c, c < i → (a = 0 → c ≠ k) → bx_FU T xbs k a c) m () ?_ ?_ ?_
  · intro c h
    omega
  · intro n _ h
    exact br_t (nI_le (Nat.le_refl _) (by omega)) (nm_r (nI_1 a) (h0 h))
  · intro n i _ hi h ih
    refine br_f (nI_ge hi (by omega)) ?_
    have go : (a = 0 → i ≠ k) → wX_cutByMoves_37 post J7 (wX_cutByMoves_18 post J7 (nI k) (nI m) (nI a) n) (nI k) (nI m) (nI a) (nI i) (nI N) (nI L) xml xql xmt xmi (nI m) xft xtg xbs xfo := by
      intro hac
      refine bx_cbm37 hT hN hL hP hk ha hi hac (fun f => ih () fun c hc hc2 => ?_) h1
      by_cases e : c = i
      · rw [e]; exact f
      · exact h c (by omega) hc2
    refine pk_eq a 0 (fun e => pk_eq i k (fun e2 => nm_r (nI_1 i) (ih () fun c hc hc2 => ?_)) (fun e2 => go fun _ => e2)) (fun e => go fun z => absurd z e)
    have := hc2 e
    exact h c (by omega) hc2
theorem bx_cbm {post : Int32 → St2 → Prop} {k m : Nat} (hT : bx_T N L T xtg) (hN : N ≤ 12) (hL : L ≤ 3) (hP : bx_PC N T m xbs) (hk : k < m)
    (h0 : (∀ a c, c < m → (a = 0 → c ≠ k) → bx_FU T xbs k a c) → post 0 ((nI N), (nI L), xml, xql, xmt, xmi, nI m, xft, xtg, xbs, xfo))
    (h1 : ∀ g', bx_PC N T (m + 1) g' → post 1 ((nI N), (nI L), xml, xql, xmt, xmi, nI (m + 1), xft, xtg, g', xfo)) : wpX_cutByMoves post ((nI N), (nI L), xml, xql, xmt, xmi, nI m, xft, xtg, xbs, xfo) (nI k) := by
  have hm := bb_par_le hP.1
  unfold wpX_cutByMoves
  dsimp only
  refine loop_0 (fun n i (_ : Unit) => wX_cutByMoves_7 post (nI k) (nI m) n (nI i) (nI N) (nI L) xml xql xmt xmi (nI m) xft xtg xbs xfo) (fun i _ => ∀ a c, a < i → c < m → (a = 0 → c ≠ k) → bx_FU T xbs k a c) (L + 1) () ?_ ?_ ?_
  · intro a c h
    omega
  · intro n _ h
    refine br_t (nI_lt (by omega) (by omega)) (h0 fun a c hc hac => ?_)
    by_cases ha : a < L + 1
    · exact h a c ha hc hac
    · intro s t _ _ d
      refine (d (fun _ => False) ?_ ?_).elim
      · intro v x _ q _
        have := (hT.1 _ _ _ q).1
        omega
      · intro v w _ _ z
        exact z
  · intro n i _ hi h ih
    refine br_f (nI_nlt (by omega) (by omega)) (bx_cbm18 hT hN hL hP hk (by omega) (fun f => ih () fun a c ha hc hac => ?_) h1)
    by_cases e : a = i
    · subst e
      exact f c hc hac
    · exact h a c (by omega) hc hac
theorem bx_fb41 {post : St2 → Prop} {J19 : Int32 → Int32 → Int32 → Int32 → Int32 → Int32 → Int32 → Int32 → Int32 → Int32 → (Nat → Int32) → (Nat → Int32) → (Nat → Int32) → Prop} {r b : Nat} (hT : bx_T N L T xtg) (hN : N ≤ 12) (hL : L ≤ 3) (hP : bx_PC N T b xbs)
    (h0 : (∀ k, k < b → bb_Fix T b (bb_BS xbs) k) → J19 0 (nI (r + 1)) (nI N) (nI L) xml xql xmt xmi (nI b) xft xtg xbs xfo)
    (h1 : ∀ m g', b < m → bx_PC N T m g' → J19 1 (nI (r + 1)) (nI N) (nI L) xml xql xmt xmi (nI m) xft xtg g' xfo) : ∃ n, wX_findBlocks_41 post J19 (nI r) (nI b) n 0 0 (nI N) (nI L) xml xql xmt xmi (nI b) xft xtg xbs xfo := by
  have hb := bb_par_le hP.1
  refine loop_0 (fun n i (s : Int32 × Nat × (Nat → Int32)) => wX_findBlocks_41 post J19 (nI r) (nI b) n s.1 (nI i) (nI N) (nI L) xml xql xmt xmi (nI s.2.1) xft xtg s.2.2 xfo)
    (fun i s => (s.1 = 0 ∧ s.2.1 = b ∧ s.2.2 = xbs ∧ ∀ k, k < i → bb_Fix T b (bb_BS xbs) k) ∨ (s.1 = 1 ∧ b < s.2.1 ∧ bx_PC N T s.2.1 s.2.2)) b (0, b, xbs) ?_ ?_ ?_
  · exact Or.inl ⟨rfl, rfl, rfl, fun k h => absurd h (Nat.not_lt_zero _)⟩
  · rintro n ⟨f, m, g⟩ h
    dsimp only at h ⊢
    refine br_t (nI_le (Nat.le_refl _) (by omega)) (nm_r (nI_1 r) ?_)
    rcases h with ⟨e1, e2, e3, h⟩ | ⟨e1, h, hg⟩
    · subst e1 e2 e3
      exact h0 h
    · subst e1
      exact h1 m g h hg
  · rintro n i ⟨f, m, g⟩ hi h ih
    dsimp only at h ⊢
    refine br_f (nI_ge hi (by omega)) ?_
    have hPg : bx_PC N T m g ∧ b ≤ m := by
      rcases h with ⟨e1, e2, e3, h⟩ | ⟨e1, h, hg⟩
      · subst e2 e3
        exact ⟨hP, Nat.le_refl _⟩
      · exact ⟨hg, by omega⟩
    obtain ⟨hPg, hbm⟩ := hPg
    refine bx_cbd hT hN hL hPg (by omega) (fun f1 => br_t rfl ?_) (fun g' hg => br_f (by decide) (nm_r (nI_1 i) (ih (1, m + 1, g') (Or.inr ⟨rfl, by dsimp only; omega, hg⟩))))
    refine bx_cbm hT hN hL hPg (by omega) (fun f2 => br_t rfl (nm_r (nI_1 i) (ih (f, m, g) ?_))) (fun g' hg => br_f (by decide) (nm_r (nI_1 i) (ih (1, m + 1, g') (Or.inr ⟨rfl, by dsimp only; omega, hg⟩))))
    rcases h with ⟨e1, e2, e3, h⟩ | ⟨e1, h, hg⟩
    · subst e2 e3
      refine Or.inl ⟨e1, rfl, rfl, fun k hk => ?_⟩
      by_cases e : k = i
      · subst e
        exact ⟨f1, f2⟩
      · exact h k (by omega)
    · exact Or.inr ⟨e1, h, hg⟩
theorem bx_fb {post : St2 → Prop} (hT : bx_T N L T xtg) (h2 : 2 ≤ N) (hN : N ≤ 12) (hL : L ≤ 3) (hp : ∀ m g, bx_PC N T m g → (∀ k, k < m → bb_Fix T m (bb_BS g) k) → post ((nI N), (nI L), xml, xql, xmt, xmi, nI m, xft, xtg, g, xfo)) : wpX_findBlocks post ((nI N), (nI L), xml, xql, xmt, xmi, xbT, xft, xtg, xbs, xfo) := by
  unfold wpX_findBlocks wpX_allStates
  dsimp only
  refine nm_e ?_
  refine loop_0 (fun n i (s : Int32 × Nat × (Nat → Int32)) => wX_findBlocks_19 post n s.1 (nI i) (nI N) (nI L) xml xql xmt xmi (nI s.2.1) xft xtg s.2.2 xfo)
    (fun i s => bx_PC N T s.2.1 s.2.2 ∧ ((s.1 = 0 ∧ ∀ k, k < s.2.1 → bb_Fix T s.2.1 (bb_BS s.2.2) k) ∨ (s.1 = 1 ∧ i + 1 ≤ s.2.1))) N (1, 1, upd xbs 0 (((1 : Int32) <<< ((nI N) &&& 31)) - 1)) ?_ ?_ ?_
  · have key : ∀ s, bb_BS (upd xbs 0 (((1 : Int32) <<< ((nI N) &&& 31)) - 1)) 0 s ↔ s < N := by
      intro s
      unfold bb_BS
      rw [pk_us]
      exact bb_allS (by omega) s
    refine ⟨⟨⟨?_, ?_, ?_, ?_⟩, ?_⟩, Or.inr ⟨rfl, Nat.le_refl _⟩⟩
    · intro i hi
      have e : i = 0 := Nat.lt_one_iff.mp hi
      subst e
      exact ⟨0, (key 0).mpr (by omega)⟩
    · intro i s hi q
      have e : i = 0 := Nat.lt_one_iff.mp hi
      subst e
      exact (key s).mp q
    · intro i j s hi hj _ _
      have e : i = 0 := Nat.lt_one_iff.mp hi
      have e2 : j = 0 := Nat.lt_one_iff.mp hj
      rw [e, e2]
    · intro s hs
      exact ⟨0, Nat.zero_lt_one, (key s).mpr hs⟩
    · intro R hE _ i s t hi q b
      have e : i = 0 := Nat.lt_one_iff.mp hi
      subst e
      exact (key t).mpr (hE.2.2.2 _ _ q).2
  · rintro n ⟨f, m, g⟩ ⟨hP, h⟩
    dsimp only at hP h ⊢
    refine br_t (nI_le (Nat.le_refl _) (by omega)) (hp m g hP ?_)
    rcases h with ⟨_, h⟩ | ⟨_, h⟩
    · exact h
    · have := bb_par_le hP.1
      omega
  · rintro n i ⟨f, m, g⟩ hi ⟨hP, h⟩ ih
    dsimp only at hP h ⊢
    refine br_f (nI_ge hi (by omega)) ?_
    rcases h with ⟨e, h⟩ | ⟨e, h⟩
    · exact br_t e (hp m g hP h)
    · subst e
      refine br_f (by decide) (bx_fb41 hT hN hL hP (fun f => ih (0, m, g) ⟨hP, Or.inl ⟨rfl, f⟩⟩) (fun m' g' hm hg => ih (1, m', g') ⟨hg, Or.inr ⟨rfl, ?_⟩⟩))
      dsimp only
      omega
theorem bx_ob {post : St2 → Prop} {m : Nat} {c : Nat → Nat} (hN : N ≤ 12) (hc : ∀ s, s < N → c s ≤ s ∧ c (c s) = c s) (h0 : bb_OI N c m xbs 0 0) (hp : ∀ g o, bb_OI N c m g N o → post ((nI N), (nI L), xml, xql, xmt, xmi, nI m, xft, xtg, g, xfo)) : wpX_orderBlocksByLeastState post ((nI N), (nI L), xml, xql, xmt, xmi, nI m, xft, xtg, xbs, xfo) := by
  have hm := bb_par_le h0.1
  unfold wpX_orderBlocksByLeastState
  dsimp only
  refine loop_0 (fun n i (s : Nat × (Nat → Int32)) => wX_orderBlocksByLeastState_4 post (nI N) (nI L) xml xql xmt xmi (nI m) xft n (nI s.1) (nI i) xtg s.2 xfo) (fun i s => bb_OI N c m s.2 i s.1) N (0, xbs) h0 ?_ ?_
  · rintro n ⟨o, g⟩ h
    exact br_t (nI_le (Nat.le_refl _) (by omega)) (hp g o h)
  · rintro n i ⟨o, g⟩ hi h ih
    dsimp only at h ⊢
    refine br_f (nI_ge hi (by omega)) ?_
    obtain ⟨k, hk, hb⟩ := h.1.2.2.2 i hi
    have ho := h.2.2.2.1
    refine bx_bw (k := k) (by omega) (by omega) hk hb (fun j hj q => h.1.2.2.1 j k i hj hk q hb) ?_
    refine pk_lt k o (fun z => nm_r (nI_1 i) (ih (o, g) (bb_OI_a hc h hi hk hb z))) (fun z => ?_)
    rw [nI_clamp (by omega), nI_clamp (by omega)]
    refine ⟨vp_in_nI (by omega) (by decide), nm_e ⟨vp_in_nI (by omega) (by decide), vp_in_nI (by omega) (by decide), nm_e ⟨vp_in_nI (by omega) (by decide), nm_e (nm_r (nI_1 o) (nm_r (nI_1 i) (ih (o + 1, upd (upd g k (g o)) o (g k)) (bb_OI_b hc h hi hk hb z ?_))))⟩⟩⟩
    intro j
    dsimp only
    by_cases e : j = o
    · rw [if_pos e, e, pk_us]
    · rw [if_neg e, pk_un e]
      by_cases e2 : j = k
      · rw [if_pos e2, e2, pk_us]
      · rw [if_neg e2, pk_un e2]
theorem bx_min {post : Int32 → St2 → Prop} {c : Nat → Nat} (hT : bx_T N L T xtg) (h2 : 2 ≤ N) (hN : N ≤ 12) (hL : L ≤ 3) (hl : bb_Ld N T c)
    (hp : ∀ g, (∀ s, s < N → c s ≤ s ∧ c (c s) = c s) → (∀ i s, i < bb_cn (bb_ldr c) N → (bt (g i) s = true ↔ s < N ∧ bb_nb c s = i)) → post (nI (bb_cn (bb_ldr c) N)) ((nI N), (nI L), xml, xql, xmt, 1, nI (bb_cn (bb_ldr c) N), xft, xtg, g, xfo)) : wpX_minimise post ((nI N), (nI L), xml, xql, xmt, 0, xbT, xft, xtg, xbs, xfo) := by
  have hT' : ∀ a s t, T a s t → s < N ∧ t < N := fun a s t m => (hT.1 a s t m).2
  unfold wpX_minimise
  dsimp only
  refine br_t rfl (bx_fb hT h2 hN hL (fun m g hP hF => ?_))
  have hb := bb_is_bis hP.1 hT' hP.2 hF
  have hE := bb_pr_eqv hP.1
  have hsp : bb_Sp N T c := bb_ld_sp hl (fun s hs => (hb s s).mp (hE.1 s hs)) (fun s t q => (hb t s).mp (hE.2.1 _ _ ((hb s t).mpr q))) (fun s t u q q2 => (hb s u).mp (hE.2.2.1 _ _ _ ((hb s t).mpr q) ((hb t u).mpr q2)))
  refine bx_ob hN hsp.1 (bb_OI_0 hP.1 (fun x y => (hb x y).trans (hsp.2 x y).symm)) (fun g' o h => ?_)
  obtain ⟨e, h'⟩ := bb_OI_N hsp.1 h
  subst e
  exact hp g' hsp.1 h'
end
