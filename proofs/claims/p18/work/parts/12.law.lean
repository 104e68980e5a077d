section
variable {T : Nat → Nat → Nat → Prop} {N L fm Q Ln st i : Nat} {xs : Nat → Int32} {xml xql xmt xmi xbT xft : Int32} {xtg xbs xfo : Nat → Int32} {c : Nat → Nat} {post : Int32 → Prop} {kc ks : Nat} {ref lo hi : Int64} {x5 : Int32}
  {J88 : Int64 → Int64 → Int64 → Int32 → Int32 → Int32 → Int32 → Int32 → Int32 → Int32 → Int32 → Int32 → Int32 → Int32 → (Nat → Int32) → (Nat → Int32) → (Nat → Int32) → Prop}
def bq_Mn (N L Q : Nat) (T : Nat → Nat → Nat → Prop) (c : Nat → Nat) (fm : Nat) (ref lo hi : Int64) (tg bs fo : Nat → Int32) : Prop :=
  bx_T N L T tg ∧ fm ≤ Q ∧ bq_Mi N T c fm bs fo ∧ bq_R N ref c ∧ bq_Tg N c fm fo lo hi
def bq_Inv (N L Q : Nat) (ref lo hi : Int64) (mn dt mi bT ft : Int32) (tg bs fo : Nat → Int32) : Prop :=
  ∃ T, (mn = 0 ∧ mi = 0 ∧ ft = nI 0 ∧ bx_T N L T tg ∧ (dt = 0 → ∃ c, bb_Sp N T c ∧ bq_R N ref c)) ∨
    (mn = 1 ∧ mi = 1 ∧ dt = 0 ∧ ∃ c fm, ft = nI fm ∧ bT = nI (bb_cn (bb_ldr c) N) ∧ bq_Mn N L Q T c fm ref lo hi tg bs fo)
def bq_HJ (N L Q i : Nat) (xml : Int32) (J88 : Int64 → Int64 → Int64 → Int32 → Int32 → Int32 → Int32 → Int32 → Int32 → Int32 → Int32 → Int32 → Int32 → Int32 → (Nat → Int32) → (Nat → Int32) → (Nat → Int32) → Prop) : Prop :=
  ∀ ref lo hi mn dt mt mi bT ft tg bs fo, bq_Inv N L Q ref lo hi mn dt mi bT ft tg bs fo → J88 ref lo hi mn dt (nI (i + 1)) (nI N) (nI L) xml (nI Q) mt mi bT ft tg bs fo
theorem bq_643 (hN : N ≤ 12) (hQ : Q ≤ 32) (hJ : bq_HJ N L Q i xml J88) (hM : bq_Mn N L Q T c fm ref lo hi xtg xbs xfo) :
    wL_law_643 post Ln xs J88 (nI N) (nI L) (nI Q) x5 ref lo hi 1 0 (nI i) kc ks (nI N) (nI L) xml (nI Q) xmt 1 (nI (bb_cn (bb_ldr c) N)) (nI fm) xtg xbs xfo := by
  have h := hM.2.1
  refine bq_agree hN (by omega) hM.2.2.1 hM.2.2.2.1 hM.2.2.2.2 (br_f (by decide) (nm_r (nI_1 i) (hJ _ _ _ _ _ _ _ _ _ _ _ _ ⟨T, Or.inr ⟨rfl, rfl, rfl, c, fm, rfl, rfl, hM⟩⟩)))
theorem bq_p2 (k : Nat) : nI k + 2 = nI (k + 2) := nI_add k 2
theorem bq_p3 (k : Nat) : nI k + 3 = nI (k + 3) := nI_add k 3
theorem bq_418 {k m kk a : Nat} (hLn : Ln ≤ 260) (hN : N ≤ 12) (hL : L ≤ 3) (hQ : Q ≤ 32) (hk : k < 2 ^ 20) (hm : 0 < m) (hm2 : m ≤ 32) (hJ : bq_HJ N L Q i xml J88) (hM : bq_Mn N L Q T c fm ref lo hi xtg xbs xfo)
    (hV : ∀ l r, l < m → r < m → bb_V fm L (nI kk) (nI l) (nI a) (nI r)) : wL_law_418 post Ln xs J88 (nI N) (nI L) (nI Q) x5 ref lo hi 1 0 (nI i) (nI k) (nI a) (nI kk) (nI m) kc ks (nI N) (nI L) xml (nI Q) xmt 1 (nI (bb_cn (bb_ldr c) N)) (nI fm) xtg xbs xfo := by
  unfold wL_law_418
  rw [nI_1, bq_p2]
  refine bq_pick hLn (by omega) hm (by omega) (fun l hl => bq_pick hLn (by omega) hm (by omega) (fun r hr => bq_make hM.1 hN hL hQ hM.2.1 hM.2.2.1 (hV l r hl hr) (fun _ fm' fo' h1 h2 h3 h4 => bq_643 hN hQ hJ ⟨hM.1, h2, h4, hM.2.2.2.1, ?_⟩)))
  intro f hf
  rcases hM.2.2.2.2 f hf with q | ⟨q1, k, q2, q3, q4⟩
  · exact Or.inl q
  · refine Or.inr ⟨by omega, k, q2, q3, ?_⟩
    rw [h3 f q1]; exact q4
theorem bq_405 {k kk a : Nat} (hLn : Ln ≤ 260) (hN : N ≤ 12) (hL : L ≤ 3) (hQ : Q ≤ 32) (hk : k < 2 ^ 20) (ha : a < L + 1) (h5 : kk < 5) (h0 : fm = 0 → kk = 0) (hJ : bq_HJ N L Q i xml J88) (hM : bq_Mn N L Q T c fm ref lo hi xtg xbs xfo) :
    wL_law_405 post Ln xs J88 (nI N) (nI L) (nI Q) x5 ref lo hi 1 0 (nI i) (nI k) (nI a) (nI fm) (nI kk) kc ks (nI N) (nI L) xml (nI Q) xmt 1 (nI (bb_cn (bb_ldr c) N)) (nI fm) xtg xbs xfo := by
  have hfm := hM.2.1
  refine pk_lt 0 fm (fun z => bq_418 hLn hN hL hQ hk z (by omega) hJ hM (fun l r hl hr => ⟨kk, h5, rfl, fun _ => ⟨l, hl, rfl⟩, fun _ => ⟨r, hr, rfl⟩, fun _ => ⟨a, ha, rfl⟩⟩)) (fun z => bq_418 (m := 1) hLn hN hL hQ hk (by omega) (by omega) hJ hM (fun l r hl hr => ?_))
  have e := h0 (by omega)
  exact ⟨kk, h5, rfl, fun z => absurd e z, fun z => by omega, fun z => by omega⟩
theorem bq_345 {k o x y a : Nat} (hLn : Ln ≤ 260) (hN : N ≤ 12) (hL : L ≤ 3) (hQ : Q ≤ 32) (hk : k < 2 ^ 20) (ho : o < 16) (hx : x < N) (hy : y < N) (ha : a < L + 1) (hJ : bq_HJ N L Q i xml J88) (hM : bq_Mn N L Q T c fm ref lo hi xtg xbs xfo) :
    wL_law_345 post Ln xs J88 (nI N) (nI L) (nI Q) x5 ref lo hi 1 0 (nI i) (nI k) (nI o) (nI x) (nI y) (nI a) kc ks (nI N) (nI L) xml (nI Q) xmt 1 (nI (bb_cn (bb_ldr c) N)) (nI fm) xtg xbs xfo := by
  have hfm := hM.2.1
  have hR := hM.2.2.2.1
  have cx := (hR x hx).2
  have cy := (hR y hy).2
  have s643 := bq_643 (post := post) (Ln := Ln) (xs := xs) (x5 := x5) (xmt := xmt) (kc := kc) (ks := ks) hN hQ hJ hM
  have s405 : ∀ kk, kk < 5 → (fm = 0 → kk = 0) → wL_law_405 post Ln xs J88 (nI N) (nI L) (nI Q) x5 ref lo hi 1 0 (nI i) (nI k) (nI a) (nI fm) (nI kk) kc ks (nI N) (nI L) xml (nI Q) xmt 1 (nI (bb_cn (bb_ldr c) N)) (nI fm) xtg xbs xfo := fun kk h5 h0 => bq_405 hLn hN hL hQ hk ha h5 h0 hJ hM
  have s369 : wL_law_369 post Ln xs J88 (nI N) (nI L) (nI Q) x5 ref lo hi 1 0 (nI i) (nI k) (nI a) (nI fm) kc ks (nI N) (nI L) xml (nI Q) xmt 1 (nI (bb_cn (bb_ldr c) N)) (nI fm) xtg xbs xfo := s405 0 (by omega) (fun _ => rfl)
  unfold wL_law_345 wpX_formulaCount
  dsimp only
  refine pk_le 8 o (fun z8 => pk_le 13 o (fun z13 => pk_eq o 13 (fun _ => ?_) (fun _ => pk_eq o 14 (fun _ => ?_) (fun _ => ?_))) (fun z13 => ?_)) (fun z8 => pk_le fm 0 (fun z => s369) (fun z => pk_eq o 0 (fun _ => s369) (fun _ => pk_le 3 o (fun _ => pk_eq o 3 (fun _ => s405 2 (by omega) (fun e => by omega)) (fun _ => pk_le 7 o (fun _ => s405 4 (by omega) (fun e => by omega)) (fun _ => s405 3 (by omega) (fun e => by omega)))) (fun _ => s405 1 (by omega) (fun e => by omega)))))
  · exact br_f (by decide : ¬ (1 : Int32) = 0) (br_f (by decide : ¬ (1 : Int32) = 0) s643)
  · exact br_f (by decide) s643
  · refine br_f (by decide) (nm_r (nI_1 i) (hJ _ _ _ _ _ _ _ _ _ _ _ _ ⟨T, Or.inl ⟨rfl, rfl, rfl, hM.1, fun _ => ⟨c, hM.2.2.1.1, hR⟩⟩⟩))
  · refine bq_tell hN hQ hfm hM.2.2.1 hx hy (fun e => bq_cls hR hx (bq_cls hR hy (br_t (by rw [e]) (br_t rfl (br_t rfl s643))))) (fun e q => bq_cls hR hx (bq_cls hR hy (br_f (fun z => e ((nI_eq (by omega) (by omega)).mp z)) (br_t (nI_le q (by omega)) s643)))) (fun e q fo' h1 h2 h3 => bq_cls hR hx (bq_cls hR hy (br_f (fun z => e ((nI_eq (by omega) (by omega)).mp z)) (br_f (nI_ge q (by omega)) (br_t rfl (br_t (nI_1 fm).symm (bq_cls hR hx ⟨by decide, ?_⟩)))))))
    have er : nI fm - nI fm / 16 * 16 = nI (fm % 16) := pk_rem (d := 16) (by omega) (by omega) (by omega)
    have ad := bq_Tg_add hN hM.2.2.2.2 (by omega) cx h1 h2
    rw [er, nI_1 (c x)]
    exact nm_e (pk_le 16 fm (fun z => nm_e (bq_643 hN hQ hJ ⟨hM.1, by omega, h3, hR, ad.2 z⟩)) (fun z => nm_e (bq_643 hN hQ hJ ⟨hM.1, by omega, h3, hR, ad.1 z⟩)))
theorem bq_Tg0 {fo : Nat → Int32} : bq_Tg N c 0 fo 0 0 := by
  intro f hf
  refine Or.inl ?_
  unfold bq_tg
  have e : (if f < 16 then (0 : Int64) else 0) = 0 := by split <;> rfl
  rw [e]
  exact bq_cl0 (by omega)
theorem bq_308 {k o x y a : Nat} {x15 : Int32} (hLn : Ln ≤ 260) (hN : N ≤ 12) (hL : L ≤ 3) (hQ : Q ≤ 32) (hk : k < 2 ^ 20) (ho : o < 16) (hx : x < N) (hy : y < N) (ha : a < L + 1) (hJ : bq_HJ N L Q i xml J88) (hT : bx_T N L T xtg) (hM : bq_Mi N T c 0 xbs xfo) (hR : bq_R N ref c) :
    wL_law_308 post Ln xs J88 (nI N) (nI L) (nI Q) x5 ref (nI i) x15 (nI k) (nI o) (nI x) (nI y) (nI a) kc ks (nI N) (nI L) xml (nI Q) xmt 1 (nI (bb_cn (bb_ldr c) N)) (nI 0) xtg xbs xfo := by
  have hMn : bq_Mn N L Q T c 0 ref 0 0 xtg xbs xfo := ⟨hT, Nat.zero_le _, hM, hR, bq_Tg0⟩
  exact bq_agree hN (by omega) hM hR bq_Tg0 (br_f (by decide) (br_c (fun _ => nm_r (nI_1 i) (hJ _ _ _ _ _ _ _ _ _ _ _ _ ⟨T, Or.inr ⟨rfl, rfl, rfl, c, 0, rfl, rfl, hMn⟩⟩)) (fun _ => bq_345 hLn hN hL hQ hk ho hx hy ha hJ hMn)))
theorem bq_288 {k o x y a : Nat} {x13 x15 : Int32} (hLn : Ln ≤ 260) (h2 : 2 ≤ N) (hN : N ≤ 12) (hL : L ≤ 3) (hQ : Q ≤ 32) (hk : k < 2 ^ 20) (ho : o < 16) (hx : x < N) (hy : y < N) (ha : a < L + 1) (hJ : bq_HJ N L Q i xml J88) (hT : bx_T N L T xtg) (hd : x13 = 0 → ∃ c, bb_Sp N T c ∧ bq_R N ref c) :
    wL_law_288 post Ln xs J88 (nI N) (nI L) (nI Q) x5 ref x13 (nI i) x15 (nI k) (nI o) (nI x) (nI y) (nI a) kc ks (nI N) (nI L) xml (nI Q) xmt 0 xbT (nI 0) xtg xbs xfo := by
  have hb : ∀ a s t, T a s t → s < N ∧ t < N := fun a s t m => (hT.1 a s t m).2
  obtain ⟨c, hS⟩ := bb_sp_ex hb (by omega)
  have mv : ∀ c2 p, bb_Sp N T c2 → bq_R N p c2 → bq_R N p c := by
    intro c2 p hS2 hR s hs
    rw [← bb_sp_ld hS2 (bb_sp_to hS) hs]
    exact hR s hs
  refine bx_min hT h2 hN hL (bb_sp_to hS) (fun g hc hg => ?_)
  have hMi : ∀ fo, bq_Mi N T c 0 g fo := fun fo => ⟨hS, hg, fun f hf => absurd hf (Nat.not_lt_zero _)⟩
  refine br_c (fun z => ?_) (fun _ => bq_coa hT h2 hN hL (fun p c2 hS2 hR => bq_308 hLn hN hL hQ hk ho hx hy ha hJ hT (hMi _) (mv c2 p hS2 hR)))
  obtain ⟨c2, hS2, hR⟩ := hd z
  exact bq_308 hLn hN hL hQ hk ho hx hy ha hJ hT (hMi _) (mv c2 ref hS2 hR)
theorem bq_250 {k o x y a : Nat} {mn dt x15 : Int32} (hLn : Ln ≤ 260) (h2 : 2 ≤ N) (hN : N ≤ 12) (hL : L ≤ 3) (hQ : Q ≤ 32) (hk : k < 2 ^ 20) (ho : o < 16) (hx : x < N) (hy : y < N) (ha : a < L + 1) (hJ : bq_HJ N L Q i xml J88) (hI : bq_Inv N L Q ref lo hi mn dt xmi xbT xft xtg xbs xfo) :
    wL_law_250 post Ln xs J88 (nI N) (nI L) (nI Q) x5 ref lo hi mn dt (nI i) x15 (nI k) (nI o) (nI x) (nI y) (nI a) kc ks (nI N) (nI L) xml (nI Q) xmt xmi xbT xft xtg xbs xfo := by
  obtain ⟨T, ⟨e1, e2, e3, hT, hd⟩ | ⟨e1, e2, e3, c, fm, e4, e5, hM⟩⟩ := hI
  · subst e1 e2 e3
    have s288 := bq_288 (post := post) (x15 := x15) (x5 := x5) (xs := xs) (kc := kc) (ks := ks) (xmt := xmt) (xbT := xbT) (xbs := xbs) (xfo := xfo) hLn h2 hN hL hQ hk ho hx hy ha hJ hT hd
    refine br_t rfl (br_c (fun _ => br_c (fun _ => s288) (fun _ => bq_edit hT hN hL ho hx ha hy (fun T' tg' mt' h' => nm_r (nI_1 i) (hJ _ _ _ _ _ _ _ _ _ _ _ _ ⟨T', Or.inl ⟨rfl, rfl, rfl, h', fun z => absurd z (by decide)⟩⟩)))) (fun _ => s288))
  · subst e1 e2 e3 e4 e5
    exact br_f (by decide) (bq_345 hLn hN hL hQ hk ho hx hy ha hJ hM)
theorem bq_220 {k o x y a : Nat} {mn dt x15 : Int32} (hLn : Ln ≤ 260) (h2 : 2 ≤ N) (hN : N ≤ 12) (hL : L ≤ 3) (hQ : Q ≤ 32) (hk : k < 2 ^ 20) (ho : o < 16) (hx : x < N) (hy : y < N) (ha : a < L + 1) (hJ : bq_HJ N L Q i xml J88) (hI : bq_Inv N L Q ref lo hi mn dt xmi xbT xft xtg xbs xfo) :
    wL_law_220 post Ln xs J88 (nI N) (nI L) (nI Q) x5 ref lo hi mn dt (nI i) x15 (nI k) (nI o) (nI x) (nI y) (nI a) kc ks (nI N) (nI L) xml (nI Q) xmt xmi xbT xft xtg xbs xfo := by
  have s250 := bq_250 (post := post) (x15 := x15) (x5 := x5) (xs := xs) (kc := kc) (ks := ks) (xmt := xmt) hLn h2 hN hL hQ hk ho hx hy ha hJ hI
  refine br_c (fun _ => s250) (fun z => br_c (fun _ => s250) (fun _ => br_c (fun _ => s250) (fun _ => ?_)))
  obtain ⟨T, ⟨e1, e2, e3, hT, hd⟩ | ⟨e1, e2, e3, c, fm, e4, e5, hM⟩⟩ := hI
  · exact absurd e1 z
  · subst e1 e2 e3 e4 e5
    exact br_f (by decide) (bq_250 hLn h2 hN hL hQ hk ho hx hy ha hJ ⟨T, Or.inl ⟨rfl, rfl, rfl, hM.1, fun _ => ⟨c, hM.2.2.1.1, hM.2.2.2.1⟩⟩⟩)
theorem bq_191 {k o x y : Nat} {mn dt x15 : Int32} (hLn : Ln ≤ 260) (h2 : 2 ≤ N) (hN : N ≤ 12) (hL : L ≤ 3) (hQ : Q ≤ 32) (hk : k < 2 ^ 20) (ho : o < 16) (hx : x < N) (hy : y < N) (hJ : bq_HJ N L Q i xml J88) (hI : bq_Inv N L Q ref lo hi mn dt xmi xbT xft xtg xbs xfo) :
    wL_law_191 post Ln xs J88 (nI N) (nI L) (nI Q) x5 ref lo hi mn dt (nI i) x15 (nI k) (nI o) (nI x) (nI y) kc ks (nI N) (nI L) xml (nI Q) xmt xmi xbT xft xtg xbs xfo := by
  have e : 2 * nI L + 2 = nI (2 * L + 2) := by
    show nI 2 * nI L + nI 2 = _
    rw [pk_mul, nI_add]
  unfold wL_law_191
  rw [bq_p3, e]
  exact bq_pick hLn (by omega) (by omega) (by omega) (fun j hj => pk_lt L j (fun z => bq_220 (a := 0) hLn h2 hN hL hQ hk ho hx hy (by omega) hJ hI) (fun z => bq_220 hLn h2 hN hL hQ hk ho hx hy (by omega) hJ hI))
theorem bq_111 {mn dt x15 : Int32} (hLn : Ln ≤ 260) (h2 : 2 ≤ N) (hN : N ≤ 12) (hL : L ≤ 3) (hQ : Q ≤ 32) (hlt : i < st + N * N) (hst : st ≤ 64) (h15 : (x15 = 0) ∨ (x15 = 1 ∧ st ≤ i)) (hJ : bq_HJ N L Q i xml J88) (hI : bq_Inv N L Q ref lo hi mn dt xmi xbT xft xtg xbs xfo) :
    wL_law_111 post Ln xs J88 (nI N) (nI L) (nI Q) (nI st) ref lo hi mn dt (nI i) x15 kc ks (nI N) (nI L) xml (nI Q) xmt xmi xbT xft xtg xbs xfo := by
  have hNN : N * N ≤ 144 := Nat.mul_le_mul hN hN
  have e4 : 4 + 4 * nI i = nI (4 + 4 * i) := by
    show nI 4 + nI 4 * nI i = _
    rw [pk_mul, nI_add]
  refine nm_r e4 ?_
  rcases h15 with e | ⟨e, hsi⟩
  · subst e
    refine br_t rfl (bq_pick (m := 16) hLn (by omega) (by omega) (by omega) (fun o ho => ?_))
    refine br_t rfl ?_
    rw [nI_1]
    refine bq_pick hLn (by omega) (by omega) (by omega) (fun x hx => ?_)
    refine br_t rfl ?_
    rw [bq_p2]
    exact bq_pick hLn (by omega) (by omega) (by omega) (fun y hy => bq_191 hLn h2 hN hL hQ (by omega) ho hx hy hJ hI)
  · subst e
    have ex : (nI i - nI st) / nI N = nI ((i - st) / N) := by
      rw [pk_sub hsi, pk_div (by omega) (by omega) (by omega)]
    have ey : (nI i - nI st) - (nI i - nI st) / nI N * nI N = nI ((i - st) % N) := by
      rw [pk_sub hsi, pk_rem (by omega) (by omega) (by omega)]
    have hx : (i - st) / N < N := Nat.div_lt_of_lt_mul (by omega)
    have hy : (i - st) % N < N := Nat.mod_lt _ (by omega)
    have n0 : ¬ nI N = 0 := nI_ne0 (by omega) (by omega)
    refine br_f (by decide) (br_f (by decide) ⟨n0, br_f (by decide) ⟨n0, ?_⟩⟩)
    rw [ey, ex]
    exact bq_191 (o := 8) hLn h2 hN hL hQ (by omega) (by omega) hx hy hJ hI
end
theorem bq_68 {post : Int32 → Prop} {Ln : Nat} {xs : Nat → Int32} {N L Q st kc ks : Nat} {xml : Int32} (hLn : Ln ≤ 260) (h2 : 2 ≤ N) (hN : N ≤ 12) (hL : L ≤ 3) (hQ : Q ≤ 32) (hst : st ≤ 64) (hp : post 1) :
    wL_law_68 post Ln xs (nI N) (nI L) (nI Q) (nI st) kc ks (nI N) (nI L) xml (nI Q) 0 0 0 0 (fun _ => 0) (fun _ => 0) (fun _ => 0) := by
  have hNN : N * N ≤ 144 := Nat.mul_le_mul hN hN
  have e0 : nI st + nI N * nI N = nI (st + N * N) := by rw [pk_mul, nI_add]
  refine loop_0 (fun n i (s : (Int64 × Int64 × Int64 × Int32 × Int32) × (Int32 × Int32 × Int32 × Int32) × ((Nat → Int32) × (Nat → Int32) × (Nat → Int32))) => wL_law_88 post Ln xs (nI N) (nI L) (nI Q) (nI st) kc ks n s.1.1 s.1.2.1 s.1.2.2.1 s.1.2.2.2.1 s.1.2.2.2.2 (nI i) (nI N) (nI L) xml (nI Q) s.2.1.1 s.2.1.2.1 s.2.1.2.2.1 s.2.1.2.2.2 s.2.2.1 s.2.2.2.1 s.2.2.2.2)
    (fun i s => bq_Inv N L Q s.1.1 s.1.2.1 s.1.2.2.1 s.1.2.2.2.1 s.1.2.2.2.2 s.2.1.2.1 s.2.1.2.2.1 s.2.1.2.2.2 s.2.2.1 s.2.2.2.1 s.2.2.2.2) (st + N * N) ((0, 0, 0, 0, 1), (0, 0, 0, 0), (fun _ => 0, fun _ => 0, fun _ => 0)) ?_ ?_ ?_
  · refine ⟨fun _ _ _ => False, Or.inl ⟨rfl, rfl, rfl, ⟨fun _ _ _ z => z.elim, fun a s t _ _ => ?_⟩, fun z => absurd z (by decide)⟩⟩
    rw [b_0]
    exact ⟨fun z => absurd z (by decide), fun z => z.elim⟩
  · rintro n ⟨⟨ref, lo, hi, mn, dt⟩, ⟨mt, mi, bT, ft⟩, tg, bs, fo⟩ _
    refine br_t ?_ hp
    rw [e0]
    exact nI_le (Nat.le_refl _) (by omega)
  · rintro n i ⟨⟨ref, lo, hi, mn, dt⟩, ⟨mt, mi, bT, ft⟩, tg, bs, fo⟩ hlt hI ih
    dsimp only at hI ⊢
    have hJ : bq_HJ N L Q i xml (wL_law_88 post Ln xs (nI N) (nI L) (nI Q) (nI st) kc ks n) := fun ref lo hi mn dt mt mi bT ft tg bs fo h => ih ((ref, lo, hi, mn, dt), (mt, mi, bT, ft), tg, bs, fo) h
    refine br_f ?_ (pk_lt i st (fun z => bq_111 hLn h2 hN hL hQ hlt hst (Or.inl rfl) hJ hI) (fun z => bq_111 hLn h2 hN hL hQ hlt hst (Or.inr ⟨rfl, z⟩) hJ hI))
    rw [e0]
    exact nI_ge hlt (by omega)
theorem bq_clamp {post : Int32 → Prop} {n lo hi : Nat} (h1 : lo ≤ n) (h2 : n ≤ hi) (hh : hi < 2 ^ 31) (hp : post (nI n)) : wpX_clamp post () (nI n) (nI lo) (nI hi) :=
  br_t (nI_le h1 (by omega)) (br_t (nI_le h2 hh) hp)
theorem i_vc (xs : Nat → Int32) (L : Nat) (hL : L ≤ 260) : wpL_law (fun r => r = 1) L xs := by
  unfold wpL_law
  have s2 : ∀ j, 2 + nI j = nI (2 + j) := fun j => nI_add 2 j
  have s1 : ∀ j, 1 + nI j = nI (1 + j) := fun j => nI_add 1 j
  have s32 : ∀ j, j < 25 → 32 - nI j = nI (32 - j) := fun j hj => pk_sub (a := 32) (by omega)
  refine bq_pick (k := 0) (m := 11) hL (by omega) (by omega) (by omega) (fun j0 h0 => nm_r (s2 j0) ?_)
  refine bq_pick (k := 1) (m := 3) hL (by omega) (by omega) (by omega) (fun j1 h1 => nm_r (s1 j1) ?_)
  refine bq_pick (k := 3) (m := 25) hL (by omega) (by omega) (by omega) (fun j3 h3 => nm_r (s32 j3 h3) ?_)
  refine bq_pick (k := 2) (m := 25) hL (by omega) (by omega) (by omega) (fun j2 h2 => ?_)
  rw [s32 j2 h2]
  refine ⟨3, 92, by omega, by omega, ?_⟩
  refine ⟨by omega, by omega, by omega, by omega, by omega, by omega, ?_⟩
  refine bq_clamp (lo := 2) (hi := 12) (by omega) (by omega) (by omega) (bq_clamp (lo := 1) (hi := 3) (by omega) (by omega) (by omega) (bq_clamp (lo := 8) (hi := 32) (by omega) (by omega) (by omega) (bq_clamp (lo := 8) (hi := 32) (by omega) (by omega) (by omega) ?_)))
  refine pk_le L 4 (fun z => bq_68 (st := 0) hL (by omega) (by omega) (by omega) (by omega) (by omega) rfl) (fun z => ⟨by decide, ?_⟩)
  have e : (Int32.ofNat L - 1) / 4 = nI ((L - 1) / 4) := by
    show (nI L - nI 1) / nI 4 = _
    rw [pk_sub (by omega), pk_div (by omega) (by omega) (by omega)]
  rw [e]
  exact bq_68 hL (by omega) (by omega) (by omega) (by omega) (by omega) rfl
