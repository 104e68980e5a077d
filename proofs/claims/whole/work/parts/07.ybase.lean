section
variable {T : Nat → Nat → Nat → Prop} {N L mv : Nat} {ymx ymq ymi yff : Int32} {yA yB yC ykd ylf yfl yrt ycl yfi yok yse yde yst ytr : Nat → Int32}
theorem by_ns_i {post : Int32 → Prop} {s : Nat} (hN : N ≤ 12) (hs : s < N) (h : post 0) : wpY_noState post ((nI N), (nI L), ymx, ymq, ymi, (nI mv), yff, yA, yB, yC, ykd, ylf, yfl, yrt, ycl, yfi, yok, yse, yde, yst, ytr) (nI s) :=
  br_f (nI_pos (by omega)) (br_t (nI_lt hs (by omega)) h)
theorem by_ns_o {post : Int32 → Prop} {p : Int32} (hN : N ≤ 12) (hs : ∀ s, s < N → p ≠ nI s) (h : post 1) : wpY_noState post ((nI N), (nI L), ymx, ymq, ymi, (nI mv), yff, yA, yB, yC, ykd, ylf, yfl, yrt, ycl, yfi, yok, yse, yde, yst, ytr) p := by
  rcases bb_ou (by omega) hs with q | ⟨q, q2⟩
  · exact br_t q h
  · exact br_f q (br_f (Int32.not_lt.mpr q2) h)
theorem by_nf_i {post : Int32 → Prop} {s m : Nat} (hN : m ≤ 32) (hs : s < m) (h : post 0) : wpY_noFormula post ((nI N), (nI L), ymx, ymq, ymi, (nI mv), nI m, yA, yB, yC, ykd, ylf, yfl, yrt, ycl, yfi, yok, yse, yde, yst, ytr) (nI s) :=
  br_f (nI_pos (by omega)) (br_t (nI_lt hs (by omega)) h)
theorem by_nf_o {post : Int32 → Prop} {p : Int32} {m : Nat} (hN : m ≤ 32) (hs : ∀ s, s < m → p ≠ nI s) (h : post 1) : wpY_noFormula post ((nI N), (nI L), ymx, ymq, ymi, (nI mv), nI m, yA, yB, yC, ykd, ylf, yfl, yrt, ycl, yfi, yok, yse, yde, yst, ytr) p := by
  rcases bb_ou (by omega) hs with q | ⟨q, q2⟩
  · exact br_t q h
  · exact br_f q (br_f (Int32.not_lt.mpr q2) h)
theorem by_bm_i {post : Int32 → Prop} {s a t : Nat} (hN : N ≤ 12) (hL : L ≤ 3) (hs : s < N) (ha : a < L + 1) (ht : t < N) (h : post 0) : wpY_badMove post ((nI N), (nI L), ymx, ymq, ymi, (nI mv), yff, yA, yB, yC, ykd, ylf, yfl, yrt, ycl, yfi, yok, yse, yde, yst, ytr) (nI s) (nI a) (nI t) := by
  unfold wpY_badMove
  dsimp only
  refine by_ns_i hN hs (br_t rfl (by_ns_i hN ht (br_t rfl (br_f (nI_pos (by omega)) (br_t (nI_le (by omega) (by omega)) h)))))
theorem by_bm_o {post : Int32 → Prop} {p q r : Int32} (hN : N ≤ 12) (hL : L ≤ 3) (h0 : (∀ s, s < N → p ≠ nI s) ∨ (∀ s, s < L + 1 → q ≠ nI s) ∨ (∀ s, s < N → r ≠ nI s)) (h : post 1) : wpY_badMove post ((nI N), (nI L), ymx, ymq, ymi, (nI mv), yff, yA, yB, yC, ykd, ylf, yfl, yrt, ycl, yfi, yok, yse, yde, yst, ytr) p q r := by
  unfold wpY_badMove
  dsimp only
  rcases bb_cs p N with ⟨s, hs, e⟩ | hs
  · subst e
    refine by_ns_i hN hs (br_t rfl ?_)
    rcases bb_cs r N with ⟨t, ht, e⟩ | ht
    · subst e
      refine by_ns_i hN ht (br_t rfl ?_)
      rcases h0 with h0 | h0 | h0
      · exact absurd rfl (h0 s hs)
      · rcases bb_ouL (by omega) h0 with z | ⟨z, z2⟩
        · exact br_t z h
        · exact br_f z (br_f (Int32.not_le.mpr z2) h)
      · exact absurd rfl (h0 t ht)
    · exact by_ns_o hN ht (br_f (by decide) h)
  · exact by_ns_o hN hs (br_f (by decide) h)
def by_T (N L : Nat) (T : Nat → Nat → Nat → Prop) (mv : Nat) (A B C : Nat → Int32) : Prop :=
  (∀ m, m < mv → ∃ s a t, A m = nI s ∧ B m = nI a ∧ C m = nI t ∧ T a s t) ∧ (∀ a s t, T a s t → ∃ m, m < mv ∧ A m = nI s ∧ B m = nI a ∧ C m = nI t) ∧ (∀ a s t, T a s t → a ≤ L ∧ s < N ∧ t < N)
theorem by_find {post : Int32 → Prop} {s a t : Nat} (hT : by_T N L T mv yA yB yC) (hv : mv ≤ 32) (h1 : ∀ m, m < mv → yA m = nI s → yB m = nI a → yC m = nI t → post (nI m)) (h0 : ¬ T a s t → post (-1)) : wpY_find post ((nI N), (nI L), ymx, ymq, ymi, (nI mv), yff, yA, yB, yC, ykd, ylf, yfl, yrt, ycl, yfi, yok, yse, yde, yst, ytr) (nI s) (nI a) (nI t) := by
  unfold wpY_find
  dsimp only
  refine loop_0 (fun n i (_ : Unit) => wY_find_3 post (nI s) (nI a) (nI t) (nI N) (nI L) ymx ymq ymi (nI mv) yff yA yB yC ykd ylf yfl yrt ycl yfi yok yse yde yst ytr n (nI i)) (fun i _ => ∀ j, j < i → ¬ (yA j = nI s ∧ yB j = nI a ∧ yC j = nI t)) mv () (fun j h => absurd h (Nat.not_lt_zero _)) ?_ ?_
  · intro n _ h
    refine br_t (nI_le (Nat.le_refl _) (by omega)) (h0 fun q => ?_)
    obtain ⟨m, hm, e⟩ := hT.2.1 _ _ _ q
    exact h m hm e
  · intro n i _ hi h ih
    refine br_f (nI_ge hi (by omega)) ?_
    rw [nI_clamp (by omega)]
    have nx : ¬ (yA i = nI s ∧ yB i = nI a ∧ yC i = nI t) → wY_find_3 post (nI s) (nI a) (nI t) (nI N) (nI L) ymx ymq ymi (nI mv) yff yA yB yC ykd ylf yfl yrt ycl yfi yok yse yde yst ytr n (nI (i + 1)) := by
      intro z
      refine ih () fun j hj => ?_
      by_cases e : j = i
      · rw [e]; exact z
      · exact h j (by omega)
    have hv' := vp_in_nI (n := i) (N := 32) (by omega) (by decide)
    exact ⟨hv', br_c (fun z1 => ⟨hv', br_c (fun z2 => ⟨hv', br_c (fun z3 => h1 i hi z1 z2 z3) (fun z3 => nm_r (nI_1 i) (nx fun q => z3 q.2.2))⟩) (fun z2 => nm_r (nI_1 i) (nx fun q => z2 q.2.1))⟩) (fun z1 => nm_r (nI_1 i) (nx fun q => z1 q.1))⟩
def bb_p (a : Nat → Int32) (v : Nat) : Bool := !decide (a v = 0)
theorem bb_p_t {a : Nat → Int32} {v : Nat} : bb_p a v = true ↔ ¬ a v = 0 := by
  unfold bb_p
  by_cases h : a v = 0
  · rw [decide_eq_true h]
    exact ⟨fun z => absurd z (by decide), fun z => absurd h z⟩
  · rw [decide_eq_false h]
    exact ⟨fun _ => h, fun _ => rfl⟩
def bb_z1 (x : Int32) (P : Prop) : Prop := (x = 1 ∧ P) ∨ (x = 0 ∧ ¬ P)
theorem bb_z1_t {x : Int32} {P : Prop} (h : bb_z1 x P) : ¬ x = 0 ↔ P := by
  rcases h with ⟨e, p⟩ | ⟨e, p⟩
  · subst e
    exact ⟨fun _ => p, fun _ => by decide⟩
  · subst e
    exact ⟨fun z => absurd rfl z, fun z => absurd z p⟩
theorem bb_z1_f {x : Int32} {P : Prop} (h : bb_z1 x P) : x = 0 ↔ ¬ P := by
  rcases h with ⟨e, p⟩ | ⟨e, p⟩
  · subst e
    exact ⟨fun z => absurd z (by decide), fun z => absurd p z⟩
  · subst e
    exact ⟨fun _ => p, fun _ => rfl⟩
theorem bb_z1_e {x y : Int32} {P Q : Prop} (h : bb_z1 x P) (h' : bb_z1 y Q) : x = y ↔ (P ↔ Q) := by
  rcases h with ⟨e, p⟩ | ⟨e, p⟩ <;> rcases h' with ⟨e', q⟩ | ⟨e', q⟩ <;> subst e e'
  · exact ⟨fun _ => ⟨fun _ => q, fun _ => p⟩, fun _ => rfl⟩
  · exact ⟨fun z => absurd z (by decide), fun z => absurd (z.mp p) q⟩
  · exact ⟨fun z => absurd z (by decide), fun z => absurd (z.mpr q) p⟩
  · exact ⟨fun _ => ⟨fun z => absurd z p, fun z => absurd z q⟩, fun _ => rfl⟩
theorem bb_z1_c {x : Int32} {P Q : Prop} (h : bb_z1 x P) (e : P ↔ Q) : bb_z1 x Q := by
  rcases h with ⟨e', p⟩ | ⟨e', p⟩
  · exact Or.inl ⟨e', e.mp p⟩
  · exact Or.inr ⟨e', fun z => p (e.mpr z)⟩
theorem bb_n1 : vp_nar .boolean 1 = 1 := rfl
theorem bb_n0 : vp_nar .boolean 0 = 0 := rfl
theorem bb_z1_n {x : Int32} {P : Prop} (h : bb_z1 x P) : vp_nar .boolean x = x := by
  rcases h with ⟨e, _⟩ | ⟨e, _⟩
  · rw [e]; exact bb_n1
  · rw [e]; exact bb_n0
end
