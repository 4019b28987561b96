section MGF
/-! F: near, drop, refusals -/
theorem mg_ix (x : Int32) (n : Nat) : x < 0 ∨ (∃ j, n ≤ j ∧ j < 2 ^ 31 ∧ x = nI j) ∨ ∃ j, j < n ∧ x = nI j := by
  by_cases h : x < 0
  · exact Or.inl h
  · obtain ⟨j, hj, e⟩ := nI_of h
    by_cases hn : j < n
    · exact Or.inr (Or.inr ⟨j, hn, e⟩)
    · exact Or.inr (Or.inl ⟨j, by omega, hj, e⟩)
theorem mg_nrl {P K G : Nat} (hP : P ≤ 24) (hK : 1 ≤ K ∧ K ≤ 4) (hG : G < K) {px py mx my mc : Nat → Int32} (hB : mg_B px py mx my mc) (gr sx sy : Nat → Int32) : ∀ (d j n : Nat), j + d = P →
    ∃ r : Nat,
      (∀ post : Int32 → Prop, post (nI r) → wX_near_14 post (nI G) (nI P) (nI K) px py gr sx sy mx my mc (d + 1) (nI n) (nI j)) ∧
      (∀ post : Int32 → Prop, post (nI r) → wY_near_18 post (nI G) (nI P) (nI K) px py gr sx sy mx my mc (d + 1) (nI n) (nI j)) := by
  intro d
  induction d with
  | zero =>
    intro j n hj
    have hk : nI P ≤ nI j := nI_le (by omega) (by omega)
    exact ⟨n, fun post hp => br_t hk hp, fun post hp => br_t hk hp⟩
  | succ d ih =>
    intro j n hj
    have hk : ¬ nI P ≤ nI j := nI_ge (by omega) (by omega)
    obtain ⟨q, hq, hm, nX, nY⟩ := mg_ne (nI P) hK gr sx sy hB (i := j) (by omega)
    have hj24 : j < 24 := by omega
    have hG4 : G < 4 := by omega
    have hq4 : q < 4 := by omega
    have c := (mg_cmp (mg_At hB j hG4 hq4).2 (mg_At hB j hq4 hG4).2).2
    have hl := hm G hG
    by_cases hc : mg_A px py mx my mc j G q ≤ mg_A px py mx my mc j q G
    · have he : mg_A px py mx my mc j G q = mg_A px py mx my mc j q G := by
        rw [Int64.le_iff_toInt_le] at hc
        exact Int64.toInt_inj.1 (by omega)
      obtain ⟨r, h1, h2⟩ := ih (j + 1) (n + 1) (by omega)
      exact ⟨r, fun post hp => br_f hk (nX _ (mg_xC hj24 hG4 hq4 (br_t (c.mpr he) (nm_r (nI_1 n) (nm_r (nI_1 j) (h1 post hp)))))),
        fun post hp => br_f hk (nY _ (mg_yC hB hj24 hq4 hG4 (fun _ => br_t rfl (nm_r (nI_1 n) (nm_r (nI_1 j) (h2 post hp)))) (fun z => absurd hc z)))⟩
    · have he : ¬ mg_A px py mx my mc j G q = mg_A px py mx my mc j q G := by
        intro z
        rw [z] at hc
        exact hc (Int64.le_iff_toInt_le.mpr (Int.le_refl _))
      obtain ⟨r, h1, h2⟩ := ih (j + 1) n (by omega)
      exact ⟨r, fun post hp => br_f hk (nX _ (mg_xC hj24 hG4 hq4 (br_f (fun z => he (c.mp z)) (nm_r (nI_1 j) (h1 post hp))))),
        fun post hp => br_f hk (nY _ (mg_yC hB hj24 hq4 hG4 (fun z => absurd z hc) (fun _ => br_f (by decide) (nm_r (nI_1 j) (h2 post hp)))))⟩
theorem mg_ub {f : Nat → Int32} (h : ∀ i, -50 ≤ (f i).toInt ∧ (f i).toInt ≤ 50) (j : Nat) {x : Int32} (hx : -50 ≤ x.toInt ∧ x.toInt ≤ 50) : ∀ i, -50 ≤ (upd f j x i).toInt ∧ (upd f j x i).toInt ≤ 50 := by
  intro i
  by_cases e : i = j
  · subst e; rw [mg_us]; exact hx
  · rw [mg_un e]; exact h i
theorem mg_dl {P K : Nat} (hP : P ≤ 23) (hK : 1 ≤ K ∧ K ≤ 4) (gr mx my mc : Nat → Int32) {sx sy : Nat → Int32} (hsx : ∀ i, -50 ≤ (sx i).toInt ∧ (sx i).toInt ≤ 50) (hsy : ∀ i, -50 ≤ (sy i).toInt ∧ (sy i).toInt ≤ 50) :
    ∀ (d j : Nat) (px py : Nat → Int32), j + d = P → (∀ i, -50 ≤ (px i).toInt ∧ (px i).toInt ≤ 50) → (∀ i, -50 ≤ (py i).toInt ∧ (py i).toInt ≤ 50) →
    ∃ px' py' gr' mx' my' mc' : Nat → Int32, mg_Inv P K px' py' gr' sx sy mx' my' mc' ∧
      (∀ post : Int32 → SX → Prop, post (nI P) (nI P, nI K, px', py', gr', sx, sy, mx', my', mc') → wX_drop_14 post (nI (P + 1)) (nI K) (d + 1) (nI (j + 1)) px py gr sx sy mx my mc) ∧
      (∀ post : Int32 → SY → Prop, post (nI P) (nI P, nI K, px', py', gr', sx, sy, mx', my', mc') → wY_drop_26 post (nI P) (nI K) (d + 1) (nI j) px py gr sx sy mx my mc) := by
  intro d
  induction d with
  | zero =>
    intro j px py hj hx hy
    have hk : nI (P + 1) ≤ nI (j + 1) := nI_le (by omega) (by omega)
    have hk' : nI P ≤ nI j := nI_le (by omega) (by omega)
    obtain ⟨gr', mx', my', mc', hI, h1, h2⟩ := mg_ro (by omega : P ≤ 24) hK hx hy hsx hsy gr mx my mc
    exact ⟨px, py, gr', mx', my', mc', hI, fun post hp => br_t hk (nm_r (nI_pred P) (h1 _ hp)), fun post hp => br_t hk' (h2 _ hp)⟩
  | succ d ih =>
    intro j px py hj hx hy
    have hk : ¬ nI (P + 1) ≤ nI (j + 1) := nI_ge (by omega) (by omega)
    have hk' : ¬ nI P ≤ nI j := nI_ge (by omega) (by omega)
    have v0 : vp_in (nI j) 24 := vp_in_nI (by omega) (by decide)
    have v1 : vp_in (nI (j + 1)) 24 := vp_in_nI (by omega) (by decide)
    have e0 : (nI j).toNatClampNeg = j := nI_clamp (by omega)
    have e1 : (nI (j + 1)).toNatClampNeg = j + 1 := nI_clamp (by omega)
    have w0 : vp_in (nI (j + 1) - 1) 24 := by rw [nI_pred]; exact v0
    have w1 : vp_in (nI j + 1) 24 := by rw [nI_1]; exact v1
    obtain ⟨px', py', gr', mx', my', mc', hI, h1, h2⟩ := ih (j + 1) (upd px j (px (j + 1))) (upd py j (py (j + 1))) (by omega) (mg_ub hx j (hx (j + 1))) (mg_ub hy j (hy (j + 1)))
    exact ⟨px', py', gr', mx', my', mc', hI,
      fun post hp => br_f hk ⟨v1, w0, nm_r (by rw [nI_pred, e0, e1]) ⟨v1, w0, nm_r (by rw [nI_pred, e0, e1]) (nm_r (nI_1 (j + 1)) (h1 post hp))⟩⟩,
      fun post hp => br_f hk' ⟨w1, v0, nm_r (by rw [nI_1, e0, e1]) ⟨w1, v0, nm_r (by rw [nI_1, e0, e1]) (nm_r (nI_1 j) (h2 post hp))⟩⟩⟩
/-- a coordinate, or not -/
def mg_ok (v : Int32) : Prop := ¬ v < -50 ∧ ¬ 50 < v
theorem mg_okb {v : Int32} (h : mg_ok v) : -50 ≤ v.toInt ∧ v.toInt ≤ 50 := by
  obtain ⟨a, b⟩ := h
  rw [Int32.lt_iff_toInt_lt] at a b
  have e1 : (-50 : Int32).toInt = -50 := by decide
  have e2 : (50 : Int32).toInt = 50 := by decide
  rw [e1] at a
  rw [e2] at b
  omega
theorem mg_oX {v : Int32} (h : mg_ok v) {post : Int32 → Prop} (hp : post 1) : wpX_isCoordinate post v := br_f h.1 (br_f h.2 hp)
theorem mg_oY {v : Int32} (h : mg_ok v) {post : Int32 → Prop} (hp : post 0) : wpY_bad post v := br_f h.1 (br_t (Int32.not_lt.mp h.2) hp)
theorem mg_bX {v : Int32} (h : ¬ mg_ok v) {post : Int32 → Prop} (hp : post 0) : wpX_isCoordinate post v := by
  refine br_c (fun _ => hp) (fun h1 => br_c (fun _ => hp) (fun h2 => absurd ⟨h1, h2⟩ h))
theorem mg_bY {v : Int32} (h : ¬ mg_ok v) {post : Int32 → Prop} (hp : post 1) : wpY_bad post v := by
  refine br_c (fun _ => hp) (fun h1 => br_c (fun h2 => absurd ⟨h1, Int32.not_lt.mpr h2⟩ h) (fun _ => hp))
theorem mg_pX1 {P N : Nat} {k : Int32} {px py gr sx sy mx my mc : Nat → Int32} (hP : P ≤ 24) (hN : N < P) {post : Int32 → Prop} (hp : post 1) : wpX_isPoint post (nI P, k, px, py, gr, sx, sy, mx, my, mc) (nI N) :=
  br_f (nI_pos (by omega)) (br_f (nI_ge hN (by omega)) hp)
theorem mg_pX0 {P N : Nat} {k : Int32} {px py gr sx sy mx my mc : Nat → Int32} (hN : P ≤ N) (hN' : N < 2 ^ 31) {post : Int32 → Prop} (hp : post 0) : wpX_isPoint post (nI P, k, px, py, gr, sx, sy, mx, my, mc) (nI N) :=
  br_f (nI_pos hN') (br_t (nI_le hN hN') hp)
theorem mg_pXm {p k : Int32} {px py gr sx sy mx my mc : Nat → Int32} {v : Int32} (hv : v < 0) {post : Int32 → Prop} (hp : post 0) : wpX_isPoint post (p, k, px, py, gr, sx, sy, mx, my, mc) v :=
  br_t hv hp
theorem mg_gX1 {K N : Nat} {p : Int32} {px py gr sx sy mx my mc : Nat → Int32} (hK : K ≤ 4) (hN : N < K) {post : Int32 → Prop} (hp : post 1) : wpX_isGroup post (p, nI K, px, py, gr, sx, sy, mx, my, mc) (nI N) :=
  br_f (nI_pos (by omega)) (br_f (nI_ge hN (by omega)) hp)
theorem mg_gX0 {K N : Nat} {p : Int32} {px py gr sx sy mx my mc : Nat → Int32} (hN : K ≤ N) (hN' : N < 2 ^ 31) {post : Int32 → Prop} (hp : post 0) : wpX_isGroup post (p, nI K, px, py, gr, sx, sy, mx, my, mc) (nI N) :=
  br_f (nI_pos hN') (br_t (nI_le hN hN') hp)
theorem mg_gXm {p k : Int32} {px py gr sx sy mx my mc : Nat → Int32} {v : Int32} (hv : v < 0) {post : Int32 → Prop} (hp : post 0) : wpX_isGroup post (p, k, px, py, gr, sx, sy, mx, my, mc) v :=
  br_t hv hp
/-- no point is in a group that is not below K -/
theorem mg_none {P K G : Nat} {gr : Nat → Int32} (hP : P ≤ 24) (hK : K ≤ 4) (hg : ∀ i, i < 24 → gr i = -1 ∨ ∃ q, q < K ∧ gr i = nI q) (hG : K ≤ G) (hG' : G < 2 ^ 31) : ∀ i, i < P → ¬ gr i = nI G := by
  intro i hi e
  rcases hg i (by omega) with h | ⟨q, hq, h⟩
  · have z := nI_pos (n := G) hG'
    rw [← e, h] at z
    exact z (by decide)
  · rw [h] at e
    have := (nI_eq (by omega) hG').mp e
    omega
end MGF
