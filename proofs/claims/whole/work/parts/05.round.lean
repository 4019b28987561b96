section MGE
/-! E: a round, and rounds until nothing moves -/
theorem mg_Bu {px py mx my mc : Nat → Int32} (hB : mg_B px py mx my mc) (j : Nat) {s t c : Int32} (hs : -1200 ≤ s.toInt ∧ s.toInt ≤ 1200) (ht : -1200 ≤ t.toInt ∧ t.toInt ≤ 1200)
    (hc : 1 ≤ c.toInt ∧ c.toInt ≤ 24) : mg_B px py (upd mx j s) (upd my j t) (upd mc j c) := by
  obtain ⟨hx, hy, h1, h2, h3⟩ := hB
  refine ⟨hx, hy, ?_, ?_, ?_⟩
  · intro g hg
    by_cases e : g = j
    · subst e; rw [mg_us]; exact hs
    · rw [mg_un e]; exact h1 g hg
  · intro g hg
    by_cases e : g = j
    · subst e; rw [mg_us]; exact ht
    · rw [mg_un e]; exact h2 g hg
  · intro g hg
    by_cases e : g = j
    · subst e; rw [mg_us]; exact hc
    · rw [mg_un e]; exact h3 g hg
theorem mg_ml {P K : Nat} (hP : P ≤ 24) (hK : K ≤ 4) {px py : Nat → Int32} (gr sx sy : Nat → Int32) : ∀ (d j : Nat) (mx my mc : Nat → Int32), j + d = K → mg_B px py mx my mc →
    ∃ mx' my' mc' : Nat → Int32, mg_B px py mx' my' mc' ∧
      (∀ post : SX → Prop, post (nI P, nI K, px, py, gr, sx, sy, mx', my', mc') → wX_moveMiddles_2 post (nI P) (nI K) (d + 1) (nI j) px py gr sx sy mx my mc) ∧
      (∀ (post : Int32 → SY → Prop) (m : Int32), post m (nI P, nI K, px, py, gr, sx, sy, mx', my', mc') → wY_round_46 post m (nI P) (nI K) (d + 1) (nI j) px py gr sx sy mx my mc) := by
  intro d
  induction d with
  | zero =>
    intro j mx my mc hj hB
    have hk : nI K ≤ nI j := nI_le (by omega) (by omega)
    exact ⟨mx, my, mc, hB, fun post hp => br_t hk hp, fun post m hp => br_t hk hp⟩
  | succ d ih =>
    intro j mx my mc hj hB
    have hk : ¬ nI K ≤ nI j := nI_ge (by omega) (by omega)
    have v4 : vp_in (nI j) 4 := vp_in_nI (by omega) (by decide)
    have e : (nI j).toNatClampNeg = j := nI_clamp (by omega)
    have h0 : ¬ nI j < 0 := nI_pos (by omega)
    obtain ⟨n, hn, _, cX, cY⟩ := mg_cnt (nI K) hP px py gr sx sy mx my mc (nI j)
    by_cases n0 : n = 0
    · subst n0
      have hz : nI 0 ≤ 0 := nI_le (a := 0) (b := 0) (by decide) (by decide)
      obtain ⟨mx', my', mc', h1, h2, h3⟩ := ih (j + 1) mx my mc (by omega) hB
      exact ⟨mx', my', mc', h1, fun post hp => br_f hk (cX _ (br_t hz (nm_r (nI_1 j) (h2 post hp)))),
        fun post m hp => br_f hk (cY h0 _ (br_t hz (nm_r (nI_1 j) (h3 post m hp))))⟩
    · have hz : ¬ nI n ≤ 0 := nI_nle (by omega) (by omega)
      obtain ⟨s, hs, _, sX, sY⟩ := mg_sum (nI K) hP gr sx sy mx my mc hB.1 hB.2.1 (nI j) 0
      obtain ⟨t, ht, _, tX, tY⟩ := mg_sum (nI K) hP gr sx sy (upd mx j s) my mc hB.1 hB.2.1 (nI j) 1
      obtain ⟨mx', my', mc', h1, h2, h3⟩ := ih (j + 1) (upd mx j s) (upd my j t) (upd mc j (nI n)) (by omega)
        (mg_Bu hB j (hs (Or.inl rfl)) (ht (Or.inr rfl)) (by rw [nI_toInt (by omega)]; omega))
      exact ⟨mx', my', mc', h1,
        fun post hp => br_f hk (cX _ (br_f hz (sX _ ⟨v4, nm_r (by rw [e]) (tX _ ⟨v4, nm_r (by rw [e]) ⟨v4, nm_r (by rw [e]) (nm_r (nI_1 j) (h2 post hp))⟩⟩)⟩))),
        fun post m hp => br_f hk (cY h0 _ (br_f hz (cY h0 _ (sY h0 _ ⟨v4, nm_r (by rw [e]) (tY h0 _ ⟨v4, nm_r (by rw [e]) ⟨v4, nm_r (by rw [e]) (nm_r (nI_1 j) (h3 post m hp))⟩⟩)⟩))))⟩
theorem mg_rl {P K : Nat} (hP : P ≤ 24) (hK : 1 ≤ K ∧ K ≤ 4) {px py mx my mc : Nat → Int32} (hB : mg_B px py mx my mc) (sx sy : Nat → Int32) : ∀ (d j m : Nat) (gr : Nat → Int32), j + d = P → m ≤ j →
    (∀ i, i < 24 → gr i = -1 ∨ ∃ q, q < K ∧ gr i = nI q) →
    ∃ (r : Nat) (gr' mx' my' mc' : Nat → Int32), r ≤ P ∧ mg_B px py mx' my' mc' ∧ (∀ i, i < 24 → gr' i = -1 ∨ ∃ q, q < K ∧ gr' i = nI q) ∧
      (∀ post : Int32 → SX → Prop, post (nI r) (nI P, nI K, px, py, gr', sx, sy, mx', my', mc') → wX_makeRound_4 post (nI P) (nI K) (d + 1) (nI m) (nI j) px py gr sx sy mx my mc) ∧
      (∀ post : Int32 → SY → Prop, post (nI r) (nI P, nI K, px, py, gr', sx, sy, mx', my', mc') → wY_round_4 post (nI P) (nI K) (d + 1) (nI m) (nI j) px py gr sx sy mx my mc) := by
  intro d
  induction d with
  | zero =>
    intro j m gr hj hm hg
    have hk : nI P ≤ nI j := nI_le (by omega) (by omega)
    obtain ⟨mx', my', mc', h1, h2, h3⟩ := mg_ml hP hK.2 gr sx sy K 0 mx my mc (by omega) hB
    exact ⟨m, gr, mx', my', mc', by omega, h1, hg, fun post hp => br_t hk ⟨_, h2 _ hp⟩, fun post hp => br_t hk ⟨_, h3 _ _ hp⟩⟩
  | succ d ih =>
    intro j m gr hj hm hg
    have hk : ¬ nI P ≤ nI j := nI_ge (by omega) (by omega)
    have vi : vp_in (nI j) 24 := vp_in_nI (by omega) (by decide)
    have e : (nI j).toNatClampNeg = j := nI_clamp (by omega)
    obtain ⟨q, hq, _, nX, nY⟩ := mg_ne (nI P) hK gr sx sy hB (i := j) (by omega)
    by_cases hc : gr j = nI q
    · have hc' : gr (nI j).toNatClampNeg = nI q := by rw [e]; exact hc
      have eu : upd gr (nI j).toNatClampNeg (nI q) = gr := by
        rw [e]
        funext i
        by_cases z : i = j
        · subst z; rw [mg_us, hc]
        · rw [mg_un z]
      obtain ⟨r, gr', mx', my', mc', h1, h2, h3, h4, h5⟩ := ih (j + 1) m gr (by omega) (by omega) hg
      exact ⟨r, gr', mx', my', mc', h1, h2, h3, fun post hp => br_f hk (nX _ ⟨vi, br_t hc' (nm_r (nI_1 j) (h4 post hp))⟩),
        fun post hp => br_f hk (nY _ ⟨vi, br_t hc'.symm ⟨vi, nm_r eu (nm_r (nI_1 j) (h5 post hp))⟩⟩)⟩
    · have hc' : ¬ gr (nI j).toNatClampNeg = nI q := by rw [e]; exact hc
      obtain ⟨r, gr', mx', my', mc', h1, h2, h3, h4, h5⟩ := ih (j + 1) (m + 1) (upd gr j (nI q)) (by omega) (by omega) (by
        intro i hi
        by_cases z : i = j
        · subst z; rw [mg_us]; exact Or.inr ⟨q, hq, rfl⟩
        · rw [mg_un z]; exact hg i hi)
      exact ⟨r, gr', mx', my', mc', h1, h2, h3, fun post hp => br_f hk (nX _ ⟨vi, br_f hc' ⟨vi, nm_r (by rw [e]) (nm_r (nI_1 m) (nm_r (nI_1 j) (h4 post hp)))⟩⟩),
        fun post hp => br_f hk (nY _ ⟨vi, br_f (fun z => hc' z.symm) (nm_r (nI_1 m) ⟨vi, nm_r (by rw [e]) (nm_r (nI_1 j) (h5 post hp))⟩)⟩)⟩
theorem mg_rd {P K : Nat} {px py gr sx sy mx my mc : Nat → Int32} (hI : mg_Inv P K px py gr sx sy mx my mc) :
    ∃ (r : Nat) (gr' mx' my' mc' : Nat → Int32), r ≤ 24 ∧ mg_Inv P K px py gr' sx sy mx' my' mc' ∧
      (∀ post : Int32 → SX → Prop, post (nI r) (nI P, nI K, px, py, gr', sx, sy, mx', my', mc') → wpX_makeRound post (nI P, nI K, px, py, gr, sx, sy, mx, my, mc)) ∧
      (∀ post : Int32 → SY → Prop, post (nI r) (nI P, nI K, px, py, gr', sx, sy, mx', my', mc') → wpY_round post (nI P, nI K, px, py, gr, sx, sy, mx, my, mc)) := by
  obtain ⟨hP, hK1, hK4, hB, hsx, hsy, hg⟩ := hI
  obtain ⟨r, gr', mx', my', mc', h1, h2, h3, h4, h5⟩ := mg_rl hP ⟨hK1, hK4⟩ hB sx sy P 0 0 gr (by omega) (by omega) hg
  exact ⟨r, gr', mx', my', mc', by omega, ⟨hP, hK1, hK4, h2, hsx, hsy, h3⟩, fun post hp => ⟨_, h4 post hp⟩, fun post hp => ⟨_, h5 post hp⟩⟩
theorem mg_se {P K : Nat} {px py sx sy : Nat → Int32} : ∀ (d j m : Nat) (gr mx my mc : Nat → Int32), j + d = 40 → 0 < m → m < 2 ^ 31 → mg_Inv P K px py gr sx sy mx my mc →
    ∃ (r : Nat) (gr' mx' my' mc' : Nat → Int32), mg_Inv P K px py gr' sx sy mx' my' mc' ∧
      (∀ post : Int32 → SX → Prop, post (nI r) (nI P, nI K, px, py, gr', sx, sy, mx', my', mc') → wX_settle_6 post (d + 1) (nI (j + 1)) (nI P) (nI K) px py gr sx sy mx my mc) ∧
      (∀ post : Int32 → SY → Prop, post (nI r) (nI P, nI K, px, py, gr', sx, sy, mx', my', mc') → wY_settle_8 post (d + 1) (nI j) (nI m) (nI P) (nI K) px py gr sx sy mx my mc) := by
  intro d
  induction d with
  | zero =>
    intro j m gr mx my mc hj hm hm' hI
    have e : j = 40 := by omega
    subst e
    have hk : (40 : Int32) < nI (40 + 1) := nI_lt (a := 40) (by omega) (by omega)
    have hk' : (40 : Int32) ≤ nI 40 := nI_le (a := 40) (by omega) (by omega)
    exact ⟨40, gr, mx, my, mc, hI, fun post hp => br_t hk hp, fun post hp => br_f (nI_nle hm hm') (br_t hk' hp)⟩
  | succ d ih =>
    intro j m gr mx my mc hj hm hm' hI
    have hk : ¬ (40 : Int32) < nI (j + 1) := nI_nlt (a := 40) (by omega) (by omega)
    have hk' : ¬ (40 : Int32) ≤ nI j := nI_ge (b := 40) (by omega) (by omega)
    obtain ⟨r, gr', mx', my', mc', h1, h2, rX, rY⟩ := mg_rd hI
    by_cases r0 : r = 0
    · subst r0
      have hz : nI 0 ≤ 0 := nI_le (a := 0) (b := 0) (by decide) (by decide)
      exact ⟨j + 1, gr', mx', my', mc', h2, fun post hp => br_f hk (rX _ (br_t nI_0 hp)),
        fun post hp => br_f (nI_nle hm hm') (br_f hk' (rY _ (nm_r (nI_1 j) (br_t hz hp))))⟩
    · obtain ⟨s, gs, ms, ns, cs, h3, h4, h5⟩ := ih (j + 1) r gr' mx' my' mc' (by omega) (by omega) (by omega) h2
      exact ⟨s, gs, ms, ns, cs, h3, fun post hp => br_f hk (rX _ (br_f (nI_ne0 (by omega) (by omega)) (nm_r (nI_1 (j + 1)) (h4 post hp)))),
        fun post hp => br_f (nI_nle hm hm') (br_f hk' (rY _ (nm_r (nI_1 j) (h5 post hp))))⟩
end MGE
