section
variable {T : Nat → Nat → Nat → Prop} {N L : Nat} {xml xql xmt xmi xbT xft : Int32} {xtg xbs xfo : Nat → Int32}
def bb_Q (T : Nat → Nat → Nat → Prop) (B : Nat → Nat → Prop) (k a c : Nat) : Prop :=
  (a = 0 ∧ k = c ∧ ∃ s, bb_Div T (B k) s) ∨ (¬ (a = 0 ∧ k = c) ∧ ∃ s t, B k s ∧ T a s t ∧ B c t)
theorem bx_bm28 {post : Int32 → Prop} {k a c m : Nat} (hT : bx_T N L T xtg) (hN : N ≤ 12) (hL : L ≤ 3) (hm : m ≤ 12) (hk : k < m) (hc : c < m) (ha : a ≤ L) (hn : ¬ (a = 0 ∧ k = c))
    (h1 : bb_Q T (bb_BS xbs) k a c → post 1) (h0 : ¬ bb_Q T (bb_BS xbs) k a c → post 0) : wX_blockMoves_28 post (nI k) (nI a) (nI c) (nI N) (nI L) xml xql xmt xmi xbT xft xtg xbs xfo := by
  unfold wX_blockMoves_28
  rw [nI_clamp (by omega), nI_clamp (by omega)]
  refine ⟨vp_in_nI (by omega) (by decide), bx_smi hT hN hL ha (fun r hr => ⟨vp_in_nI (by omega) (by decide), br_c (fun z => h0 fun q => ?_) (fun z => h1 ?_)⟩)⟩
  · rcases q with q | ⟨_, s, t, b, m', b'⟩
    · exact hn ⟨q.1, q.2.1⟩
    · exact (bb_z _).mp z s ((bb_andS _ _ _).mpr ⟨(hr s).mpr ⟨t, m', b'⟩, b⟩)
  · obtain ⟨s, q⟩ := (bb_nz _).mp z
    rw [bb_andS, hr] at q
    obtain ⟨⟨t, m', b'⟩, b⟩ := q
    exact Or.inr ⟨hn, s, t, b, m', b'⟩
theorem bx_bm {post : Int32 → Prop} {k a c m : Nat} (hT : bx_T N L T xtg) (hN : N ≤ 12) (hL : L ≤ 3) (hm : m ≤ 12) (hk : k < m) (hc : c < m) (ha : a ≤ L) (hB : ∀ s, bb_BS xbs k s → s < N)
    (h1 : bb_Q T (bb_BS xbs) k a c → post 1) (h0 : ¬ bb_Q T (bb_BS xbs) k a c → post 0) : wpX_blockMoves post ((nI N), (nI L), xml, xql, xmt, xmi, xbT, xft, xtg, xbs, xfo) (nI k) (nI a) (nI c) := by
  unfold wpX_blockMoves
  dsimp only
  refine pk_eq a 0 (fun e => pk_eq k c (fun e2 => ?_) (fun e2 => bx_bm28 hT hN hL hm hk hc ha (fun z => e2 z.2) h1 h0)) (fun e => bx_bm28 hT hN hL hm hk hc ha (fun z => e z.1) h1 h0)
  rw [nI_clamp (by omega)]
  refine ⟨vp_in_nI (by omega) (by decide), bx_div hT hN hL hB (fun r hr => br_c (fun z => h0 fun q => ?_) (fun z => h1 ?_))⟩
  · rcases q with ⟨_, _, s, d⟩ | q
    · exact (bb_z _).mp z s ((hr s).mpr d)
    · exact q.1 ⟨e, e2⟩
  · obtain ⟨s, q⟩ := (bb_nz _).mp z
    exact Or.inl ⟨e, e2, s, (hr s).mp q⟩
noncomputable def bb_ind (P : Prop) : Nat := @ite Nat P (Classical.propDecidable P) 1 0
theorem bb_ind_t {P : Prop} (h : P) : bb_ind P = 1 := @if_pos P (Classical.propDecidable P) h Nat 1 0
theorem bb_ind_f {P : Prop} (h : ¬ P) : bb_ind P = 0 := @if_neg P (Classical.propDecidable P) h Nat 1 0
theorem bx_qc35 {post : Int32 → Prop} {J14 J24 : Int32 → Int32 → Prop} {k a m z : Nat} (hT : bx_T N L T xtg) (hN : N ≤ 12) (hL : L ≤ 3) (hm : m ≤ 12) (hk : k < m) (ha : a ≤ L) (hB : ∀ k s, k < m → bb_BS xbs k s → s < N)
    (hJ : J24 (nI (z + bb_sum (fun c => bb_ind (bb_Q T (bb_BS xbs) k a c)) m)) (nI (a + 1))) : ∃ n, wX_quotientMoveCount_35 post J14 J24 (nI k) (nI a) (nI N) (nI L) xml xql xmt xmi (nI m) xft xtg xbs xfo n (nI z) 0 := by
  refine loop_0 (fun n i (s : Nat) => wX_quotientMoveCount_35 post J14 J24 (nI k) (nI a) (nI N) (nI L) xml xql xmt xmi (nI m) xft xtg xbs xfo n (nI s) (nI i)) (fun i s => s = z + bb_sum (fun c => bb_ind (bb_Q T (bb_BS xbs) k a c)) i) m z rfl ?_ ?_
  · intro n s h
    subst h
    exact br_t (nI_le (Nat.le_refl _) (by omega)) (nm_r (nI_1 a) hJ)
  · intro n i s hi h ih
    refine br_f (nI_ge hi (by omega)) (bx_bm hT hN hL hm hk hi ha (fun s => hB k s hk) (fun q => br_f (by decide) (nm_r (nI_1 s) (nm_r (nI_1 i) (ih (s + 1) ?_)))) (fun q => br_t rfl (nm_r (nI_1 i) (ih s ?_))))
    · show s + 1 = z + (bb_sum _ i + bb_ind _)
      rw [bb_ind_t q]
      omega
    · show s = z + (bb_sum _ i + bb_ind _)
      rw [bb_ind_f q]
      omega
theorem bx_qc24 {post : Int32 → Prop} {J14 : Int32 → Int32 → Prop} {k m z : Nat} (hT : bx_T N L T xtg) (hN : N ≤ 12) (hL : L ≤ 3) (hm : m ≤ 12) (hk : k < m) (hB : ∀ k s, k < m → bb_BS xbs k s → s < N)
    (hJ : J14 (nI (z + bb_sum (fun a => bb_sum (fun c => bb_ind (bb_Q T (bb_BS xbs) k a c)) m) (L + 1))) (nI (k + 1))) : ∃ n, wX_quotientMoveCount_24 post J14 (nI k) (nI N) (nI L) xml xql xmt xmi (nI m) xft xtg xbs xfo n (nI z) 0 := by
  refine loop_0 (fun n i (s : Nat) => wX_quotientMoveCount_24 post J14 (nI k) (nI N) (nI L) xml xql xmt xmi (nI m) xft xtg xbs xfo n (nI s) (nI i)) (fun i s => s = z + bb_sum (fun a => bb_sum (fun c => bb_ind (bb_Q T (bb_BS xbs) k a c)) m) i) (L + 1) z rfl ?_ ?_
  · intro n s h
    subst h
    exact br_t (nI_lt (by omega) (by omega)) (nm_r (nI_1 k) hJ)
  · intro n i s hi h ih
    refine br_f (nI_nlt (by omega) (by omega)) (bx_qc35 hT hN hL hm hk (by omega) hB (ih _ ?_))
    show _ = z + (bb_sum _ i + _)
    dsimp only
    omega
theorem bx_qc {post : Int32 → Prop} {m : Nat} (hT : bx_T N L T xtg) (hN : N ≤ 12) (hL : L ≤ 3) (hm : m ≤ 12) (hB : ∀ k s, k < m → bb_BS xbs k s → s < N)
    (hp : post (nI (bb_sum (fun k => bb_sum (fun a => bb_sum (fun c => bb_ind (bb_Q T (bb_BS xbs) k a c)) m) (L + 1)) m))) : wpX_quotientMoveCount post ((nI N), (nI L), xml, xql, xmt, 1, nI m, xft, xtg, xbs, xfo) := by
  unfold wpX_quotientMoveCount
  dsimp only
  refine br_f (by decide) ?_
  refine loop_0 (fun n i (s : Nat) => wX_quotientMoveCount_14 post (nI N) (nI L) xml xql xmt 1 (nI m) xft xtg xbs xfo n (nI s) (nI i)) (fun i s => s = bb_sum (fun k => bb_sum (fun a => bb_sum (fun c => bb_ind (bb_Q T (bb_BS xbs) k a c)) m) (L + 1)) i) m 0 rfl ?_ ?_
  · intro n s h
    subst h
    exact br_t (nI_le (Nat.le_refl _) (by omega)) hp
  · intro n i s hi h ih
    refine br_f (nI_ge hi (by omega)) (bx_qc24 hT hN hL hm hi hB (ih _ ?_))
    show _ = bb_sum _ i + _
    dsimp only
    omega
end
