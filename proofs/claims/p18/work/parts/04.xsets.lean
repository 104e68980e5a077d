section
variable {T : Nat → Nat → Nat → Prop} {N L : Nat} {xml xql xmt xmi xbT xft : Int32} {xtg xbs xfo : Nat → Int32}
theorem bb_cs (p : Int32) (n : Nat) : (∃ s, s < n ∧ p = nI s) ∨ (∀ s, s < n → p ≠ nI s) := by
  by_cases h : ∃ s, s < n ∧ p = nI s
  · exact Or.inl h
  · exact Or.inr fun s hs e => h ⟨s, hs, e⟩
theorem bb_ou {p : Int32} {n : Nat} (hn : n < 2 ^ 31) (h : ∀ s, s < n → p ≠ nI s) : p < 0 ∨ (¬ p < 0 ∧ nI n ≤ p) := by
  rcases pk_ix p hn with q | q | ⟨j, hj, e⟩
  · exact Or.inl q
  · exact Or.inr ⟨Int32.not_lt.mpr (Int32.le_trans (nI_pos' hn) q), q⟩
  · exact absurd e (h j hj)
theorem bb_ouL {p : Int32} {n : Nat} (hn : n + 1 < 2 ^ 31) (h : ∀ s, s < n + 1 → p ≠ nI s) : p < 0 ∨ (¬ p < 0 ∧ nI n < p) := by
  rcases bb_ou hn h with q | ⟨q, q2⟩
  · exact Or.inl q
  · exact Or.inr ⟨q, Int32.lt_of_lt_of_le (nI_lt (Nat.lt_succ_self n) hn) q2⟩
theorem bx_st_i {post : Int32 → Prop} {s : Nat} (hN : N ≤ 12) (hs : s < N) (h : post 1) : wpX_isState post ((nI N), (nI L), xml, xql, xmt, xmi, xbT, xft, xtg, xbs, xfo) (nI s) :=
  br_f (nI_pos (by omega)) (br_f (nI_ge hs (by omega)) h)
theorem bx_st_o {post : Int32 → Prop} {p : Int32} (hN : N ≤ 12) (hs : ∀ s, s < N → p ≠ nI s) (h : post 0) : wpX_isState post ((nI N), (nI L), xml, xql, xmt, xmi, xbT, xft, xtg, xbs, xfo) p := by
  rcases bb_ou (by omega) hs with q | ⟨q, q2⟩
  · exact br_t q h
  · exact br_f q (br_t q2 h)
theorem bx_lb_i {post : Int32 → Prop} {s : Nat} (hL : L ≤ 3) (hs : s < L + 1) (h : post 1) : wpX_isLabel post ((nI N), (nI L), xml, xql, xmt, xmi, xbT, xft, xtg, xbs, xfo) (nI s) :=
  br_f (nI_pos (by omega)) (br_f (nI_nlt (by omega) (by omega)) h)
theorem bx_lb_o {post : Int32 → Prop} {p : Int32} (hL : L ≤ 3) (hs : ∀ s, s < L + 1 → p ≠ nI s) (h : post 0) : wpX_isLabel post ((nI N), (nI L), xml, xql, xmt, xmi, xbT, xft, xtg, xbs, xfo) p := by
  rcases bb_ouL (by omega) hs with q | ⟨q, q2⟩
  · exact br_t q h
  · exact br_f q (br_t q2 h)
theorem bx_fm_i {post : Int32 → Prop} {s m : Nat} (hN : m ≤ 32) (hs : s < m) (h : post 1) : wpX_isFormula post ((nI N), (nI L), xml, xql, xmt, xmi, xbT, nI m, xtg, xbs, xfo) (nI s) :=
  br_f (nI_pos (by omega)) (br_f (nI_ge hs (by omega)) h)
theorem bx_fm_o {post : Int32 → Prop} {p : Int32} {m : Nat} (hN : m ≤ 32) (hs : ∀ s, s < m → p ≠ nI s) (h : post 0) : wpX_isFormula post ((nI N), (nI L), xml, xql, xmt, xmi, xbT, nI m, xtg, xbs, xfo) p := by
  rcases bb_ou (by omega) hs with q | ⟨q, q2⟩
  · exact br_t q h
  · exact br_f q (br_t q2 h)
theorem bb_row (a s : Nat) : nI a * 12 + nI s = nI (a * 12 + s) := by
  show nI a * nI 12 + nI s = _
  rw [pk_mul, nI_add]
theorem bx_con {post : Int32 → Prop} {x : Int32} {s : Nat} (hs : s < 32) (h1 : bt x s = true → post 1) (h0 : ¬ bt x s = true → post 0) : wpX_contains post () x (nI s) :=
  ek_if (bb_con x hs) h0 (fun z => h1 (Classical.byContradiction z))
def bx_T (N L : Nat) (T : Nat → Nat → Nat → Prop) (tg : Nat → Int32) : Prop :=
  (∀ a s t, T a s t → a ≤ L ∧ s < N ∧ t < N) ∧ ∀ a s t, a ≤ L → s < N → (bt (tg (a * 12 + s)) t = true ↔ T a s t)
theorem bx_mit {post : Int32 → Prop} {a s t : Nat} (hT : bx_T N L T xtg) (hN : N ≤ 12) (hL : L ≤ 3) (ha : a ≤ L) (hs : s < N) (ht : t < N) (h1 : T a s t → post 1) (h0 : ¬ T a s t → post 0) : wpX_moveIsThere post ((nI N), (nI L), xml, xql, xmt, xmi, xbT, xft, xtg, xbs, xfo) (nI s) (nI a) (nI t) := by
  unfold wpX_moveIsThere wpX_row
  dsimp only
  rw [bb_row]
  refine ⟨vp_in_nI (by omega) (by decide), nm_r (congrArg xtg (nI_clamp (by omega))) ?_⟩
  exact bx_con (by omega) (fun q => ⟨rfl, h1 ((hT.2 a s t ha hs).mp q)⟩) (fun q => ⟨rfl, h0 fun z => q ((hT.2 a s t ha hs).mpr z)⟩)
theorem bx_smi {post : Int32 → Prop} {a : Nat} {x : Int32} (hT : bx_T N L T xtg) (hN : N ≤ 12) (hL : L ≤ 3) (ha : a ≤ L) (hp : ∀ r, (∀ s, bt r s = true ↔ ∃ t, T a s t ∧ bt x t = true) → post r) : wpX_statesMovingInto post ((nI N), (nI L), xml, xql, xmt, xmi, xbT, xft, xtg, xbs, xfo) (nI a) x := by
  unfold wpX_statesMovingInto
  dsimp only
  refine loop_0 (fun n i (r : Int32) => wX_statesMovingInto_5 post (nI a) x (nI N) (nI L) xml xql xmt xmi xbT xft xtg xbs xfo n r (nI i)) (fun i r => ∀ s, bt r s = true ↔ s < i ∧ ∃ t, T a s t ∧ bt x t = true) N 0 ?_ ?_ ?_
  · intro s
    rw [b_0]
    exact ⟨fun q => absurd q (by decide), fun q => absurd q.1 (Nat.not_lt_zero _)⟩
  · intro n r h
    refine br_t (nI_le (Nat.le_refl _) (by omega)) (hp r fun s => ?_)
    rw [h s]
    exact ⟨fun q => q.2, fun q => ⟨by obtain ⟨t, m, _⟩ := q; exact (hT.1 _ _ _ m).2.1, q⟩⟩
  · intro n i r hi h ih
    refine br_f (nI_ge hi (by omega)) ?_
    unfold wpX_row
    dsimp only
    rw [bb_row, nI_clamp (by omega)]
    refine ⟨vp_in_nI (by omega) (by decide), br_c (fun z => nm_r (nI_1 i) (ih r ?_)) (fun z => nm_e (nm_r (nI_1 i) (ih _ ?_)))⟩
    · intro s
      rw [h s]
      refine ⟨fun q => ⟨by omega, q.2⟩, fun q => ⟨?_, q.2⟩⟩
      by_cases e : s = i
      · obtain ⟨t, m, b⟩ := q.2
        subst e
        exact absurd ((bb_andS _ _ t).mpr ⟨(hT.2 a s t ha hi).mpr m, b⟩) ((bb_z _).mp z t)
      · omega
    · intro s
      rw [bb_ins _ (by omega), h s]
      constructor
      · rintro (q | e)
        · exact ⟨by omega, q.2⟩
        · subst e
          obtain ⟨t, b⟩ := (bb_nz _).mp z
          rw [bb_andS] at b
          exact ⟨by omega, t, (hT.2 a s t ha hi).mp b.1, b.2⟩
      · intro q
        by_cases e : s = i
        · exact Or.inr e
        · exact Or.inl ⟨by omega, q.2⟩
theorem bx_div {post : Int32 → Prop} {f : Int32} (hT : bx_T N L T xtg) (hN : N ≤ 12) (hL : L ≤ 3) (hF : ∀ s, bt f s = true → s < N) (hp : ∀ r, (∀ s, bt r s = true ↔ bb_Div T (fun s => bt f s = true) s) → post r) : wpX_divergentStates post ((nI N), (nI L), xml, xql, xmt, xmi, xbT, xft, xtg, xbs, xfo) f := by
  unfold wpX_divergentStates
  dsimp only
  refine loop_0 (fun n i (r : Int32) => wX_divergentStates_4 post (nI N) (nI L) xml xql xmt xmi xbT xft xtg xbs xfo n r (nI i)) (fun i r => bb_ID N T (fun s => bt f s = true) i (bt r)) N f (bb_ID_0 (fun s => Iff.rfl) hF) ?_ ?_
  · intro n r h
    exact br_t (nI_le (Nat.le_refl _) (by omega)) (hp r (bb_ID_N h))
  · intro n i r hi h ih
    refine br_f (nI_ge hi (by omega)) (bx_smi (a := 0) hT hN hL (Nat.zero_le _) (fun q hq => nm_e (nm_r (nI_1 i) (ih _ ?_))))
    exact bb_ID_s h (fun s => by rw [bb_andS, hq s])
theorem bx_unt {post : Int32 → Prop} {f g : Int32} {a : Nat} (hT : bx_T N L T xtg) (hN : N ≤ 12) (hL : L ≤ 3) (ha : a ≤ L)
    (hp : ∀ r, (∀ s, bt r s = true ↔ bb_Unt T (fun s => bt f s = true) a (fun s => bt g s = true) s ∨ (a = 0 ∧ bt g s = true)) → post r) : wpX_untilStates post ((nI N), (nI L), xml, xql, xmt, xmi, xbT, xft, xtg, xbs, xfo) f (nI a) g := by
  have hT' : ∀ a s t, T a s t → s < N ∧ t < N := fun a s t m => (hT.1 a s t m).2
  unfold wpX_untilStates
  dsimp only
  refine bx_smi hT hN hL ha (fun q hq => nm_e ?_)
  refine loop_0 (fun n i (r : Int32) => wX_untilStates_13 post f (nI a) g (nI N) (nI L) xml xql xmt xmi xbT xft xtg xbs xfo n r (nI i)) (fun i r => bb_IU N T (fun s => bt f s = true) a (fun s => bt g s = true) i (bt r)) N (f &&& q) (bb_IU_0 (fun s => by rw [bb_andS, hq s])) ?_ ?_
  · intro n r h
    have hr := bb_IU_N hT' h
    refine br_t (nI_le (Nat.le_refl _) (by omega)) (pk_eq a 0 (fun e => hp _ fun s => ?_) (fun e => hp _ fun s => ?_))
    · rw [bb_orS, hr s]
      exact ⟨fun z => z.elim Or.inl (fun z => Or.inr ⟨e, z⟩), fun z => z.elim Or.inl (fun z => Or.inr z.2)⟩
    · rw [hr s]
      exact ⟨Or.inl, fun z => z.elim id (fun z => absurd z.1 e)⟩
  · intro n i r hi h ih
    refine br_f (nI_ge hi (by omega)) (bx_smi (a := 0) hT hN hL (Nat.zero_le _) (fun q hq => nm_e (nm_r (nI_1 i) (ih _ ?_))))
    exact bb_IU_s hT' h (fun s => by rw [bb_orS, bb_andS, hq s])
end
