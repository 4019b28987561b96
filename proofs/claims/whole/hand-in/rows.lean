section
section MGA
/-! A: numbers -/
theorem mg_us {f : Nat → Int32} {k : Nat} {x : Int32} : upd f k x k = x := if_pos rfl
theorem mg_un {f : Nat → Int32} {k j : Nat} {x : Int32} (h : j ≠ k) : upd f k x j = f j := if_neg h
theorem mg_add {a b : Int32} (h1 : -2147483648 ≤ a.toInt + b.toInt) (h2 : a.toInt + b.toInt < 2147483648) : (a + b).toInt = a.toInt + b.toInt := by
  rw [Int32.toInt_add]; exact Int.bmod_eq_of_le (by omega) (by omega)
theorem mg_lmul {a b : Int64} (h1 : -9223372036854775808 ≤ a.toInt * b.toInt) (h2 : a.toInt * b.toInt < 9223372036854775808) : (a * b).toInt = a.toInt * b.toInt := by
  rw [Int64.toInt_mul]; exact Int.bmod_eq_of_le (by omega) (by omega)
theorem mg_ladd {a b : Int64} (h1 : -9223372036854775808 ≤ a.toInt + b.toInt) (h2 : a.toInt + b.toInt < 9223372036854775808) : (a + b).toInt = a.toInt + b.toInt := by
  rw [Int64.toInt_add]; exact Int.bmod_eq_of_le (by omega) (by omega)
theorem mg_lsub {a b : Int64} (h1 : -9223372036854775808 ≤ a.toInt - b.toInt) (h2 : a.toInt - b.toInt < 9223372036854775808) : (a - b).toInt = a.toInt - b.toInt := by
  rw [Int64.toInt_sub]; exact Int.bmod_eq_of_le (by omega) (by omega)
theorem mg_mulb {x y a b : Int} (hx0 : 0 ≤ x) (hx : x ≤ a) (hy0 : 0 ≤ y) (hy : y ≤ b) : 0 ≤ x * y ∧ x * y ≤ a * b :=
  ⟨Int.mul_nonneg hx0 hy0, Int.mul_le_mul hx hy hy0 (Int.le_trans hx0 hx)⟩
theorem mg_sq {x b : Int} (h1 : -b ≤ x) (h2 : x ≤ b) : 0 ≤ x * x ∧ x * x ≤ b * b := by
  have h := Int.mul_nonneg (show 0 ≤ b - x by omega) (show 0 ≤ b + x by omega)
  have e : (b - x) * (b + x) = b * b - x * x := by grind
  rw [e] at h
  refine ⟨?_, by omega⟩
  by_cases hx : 0 ≤ x
  · exact Int.mul_nonneg hx hx
  · exact Int.mul_nonneg_of_nonpos_of_nonpos (by omega) (by omega)
theorem mg_mula {x y a b : Int} (hx : -a ≤ x) (hx' : x ≤ a) (hy0 : 0 ≤ y) (hy : y ≤ b) : -(a * b) ≤ x * y ∧ x * y ≤ a * b := by
  have ha : 0 ≤ a := by omega
  have h1 := Int.mul_nonneg (show 0 ≤ a - x by omega) hy0
  have h2 := Int.mul_nonneg (show 0 ≤ a + x by omega) hy0
  have h3 := Int.mul_nonneg ha (show 0 ≤ b - y by omega)
  have e1 : (a - x) * y = a * y - x * y := by grind
  have e2 : (a + x) * y = a * y + x * y := by grind
  have e3 : a * (b - y) = a * b - a * y := by grind
  rw [e1] at h1; rw [e2] at h2; rw [e3] at h3
  constructor <;> omega
theorem mg_mul {a b : Int32} (h1 : -2147483648 ≤ a.toInt * b.toInt) (h2 : a.toInt * b.toInt < 2147483648) : (a * b).toInt = a.toInt * b.toInt := by
  rw [Int32.toInt_mul]; exact Int.bmod_eq_of_le (by omega) (by omega)
theorem mg_sub {a b : Int32} (h1 : -2147483648 ≤ a.toInt - b.toInt) (h2 : a.toInt - b.toInt < 2147483648) : (a - b).toInt = a.toInt - b.toInt := by
  rw [Int32.toInt_sub]; exact Int.bmod_eq_of_le (by omega) (by omega)
/-- a difference of one coordinate: in long as in int -/
theorem mg_d {x c s : Int32} (hx : -50 ≤ x.toInt ∧ x.toInt ≤ 50) (hc : 1 ≤ c.toInt ∧ c.toInt ≤ 24) (hs : -1200 ≤ s.toInt ∧ s.toInt ≤ 1200) :
    (x * c - s).toInt64 = x.toInt64 * c.toInt64 - s.toInt64 ∧ -2400 ≤ (x.toInt64 * c.toInt64 - s.toInt64).toInt ∧ (x.toInt64 * c.toInt64 - s.toInt64).toInt ≤ 2400 := by
  have hb := mg_mula (a := 50) (b := 24) hx.1 hx.2 (show 0 ≤ c.toInt by omega) hc.2
  have h1 : (x.toInt64 * c.toInt64).toInt = x.toInt * c.toInt := by
    rw [mg_lmul (by rw [Int32.toInt_toInt64, Int32.toInt_toInt64]; omega) (by rw [Int32.toInt_toInt64, Int32.toInt_toInt64]; omega), Int32.toInt_toInt64, Int32.toInt_toInt64]
  have h2 : (x.toInt64 * c.toInt64 - s.toInt64).toInt = x.toInt * c.toInt - s.toInt := by
    rw [mg_lsub (by rw [h1, Int32.toInt_toInt64]; omega) (by rw [h1, Int32.toInt_toInt64]; omega), h1, Int32.toInt_toInt64]
  have h3 : (x * c).toInt = x.toInt * c.toInt := mg_mul (by omega) (by omega)
  have h4 : (x * c - s).toInt = x.toInt * c.toInt - s.toInt := by
    rw [mg_sub (by rw [h3]; omega) (by rw [h3]; omega), h3]
  exact ⟨Int64.toInt_inj.1 (by rw [Int32.toInt_toInt64, h4, h2]), by omega, by omega⟩
theorem mg_cmp {a b : Int64} (ha : 0 ≤ a.toInt ∧ a.toInt ≤ 6635520000) (hb : 0 ≤ b.toInt ∧ b.toInt ≤ 6635520000) : (0 ≤ a - b ↔ b ≤ a) ∧ (a - b = 0 ↔ a = b) := by
  have h : (a - b).toInt = a.toInt - b.toInt := mg_lsub (by omega) (by omega)
  have h0 : (0 : Int64).toInt = 0 := by decide
  refine ⟨?_, ?_⟩
  · rw [Int64.le_iff_toInt_le, Int64.le_iff_toInt_le, h, h0]; omega
  · rw [← Int64.toInt_inj, ← Int64.toInt_inj, h, h0]; omega
theorem mg_tr {fj fq fg a b e : Int} (ha : 0 ≤ a) (hb : 0 < b) (he : 0 ≤ e) (h1 : fj * b ≤ fq * a) (h2 : fq * e ≤ fg * b) : fj * e ≤ fg * a := by
  have h3 := Int.mul_le_mul_of_nonneg_right h1 he
  have h4 := Int.mul_le_mul_of_nonneg_right h2 ha
  have e1 : fj * b * e = fj * e * b := by grind
  have e2 : fq * a * e = fq * e * a := by grind
  have e3 : fg * b * a = fg * a * b := by grind
  refine Int.le_of_mul_le_mul_right (a := b) ?_ hb
  omega
/-- bounds of points and middles -/
def mg_B (px py mx my mc : Nat → Int32) : Prop :=
  (∀ i, -50 ≤ (px i).toInt ∧ (px i).toInt ≤ 50) ∧ (∀ i, -50 ≤ (py i).toInt ∧ (py i).toInt ≤ 50) ∧
  (∀ g, g < 4 → -1200 ≤ (mx g).toInt ∧ (mx g).toInt ≤ 1200) ∧ (∀ g, g < 4 → -1200 ≤ (my g).toInt ∧ (my g).toInt ≤ 1200) ∧
  (∀ g, g < 4 → 1 ≤ (mc g).toInt ∧ (mc g).toInt ≤ 24)
/-- the scaled distance of point i from the middle of g -/
def mg_F (px py mx my mc : Nat → Int32) (i g : Nat) : Int64 :=
  ((px i).toInt64 * (mc g).toInt64 - (mx g).toInt64) * ((px i).toInt64 * (mc g).toInt64 - (mx g).toInt64) +
  ((py i).toInt64 * (mc g).toInt64 - (my g).toInt64) * ((py i).toInt64 * (mc g).toInt64 - (my g).toInt64)
/-- the same, times the other count squared -/
def mg_A (px py mx my mc : Nat → Int32) (i g h : Nat) : Int64 :=
  mg_F px py mx my mc i g * (mc h).toInt64 * (mc h).toInt64
theorem mg_Ft {px py mx my mc : Nat → Int32} (hB : mg_B px py mx my mc) (i : Nat) {g : Nat} (hg : g < 4) :
    0 ≤ (mg_F px py mx my mc i g).toInt ∧ (mg_F px py mx my mc i g).toInt ≤ 11520000 := by
  obtain ⟨hx, hy, hmx, hmy, hmc⟩ := hB
  have dx := (mg_d (hx i) (hmc g hg) (hmx g hg)).2
  have dy := (mg_d (hy i) (hmc g hg) (hmy g hg)).2
  unfold mg_F
  generalize (px i).toInt64 * (mc g).toInt64 - (mx g).toInt64 = a at dx ⊢
  generalize (py i).toInt64 * (mc g).toInt64 - (my g).toInt64 = b at dy ⊢
  have sa := mg_sq (b := 2400) dx.1 dx.2
  have sb := mg_sq (b := 2400) dy.1 dy.2
  have ea : (a * a).toInt = a.toInt * a.toInt := mg_lmul (by omega) (by omega)
  have eb : (b * b).toInt = b.toInt * b.toInt := mg_lmul (by omega) (by omega)
  have es : (a * a + b * b).toInt = a.toInt * a.toInt + b.toInt * b.toInt := by
    rw [mg_ladd (by rw [ea, eb]; omega) (by rw [ea, eb]; omega), ea, eb]
  rw [es]; omega
theorem mg_At {px py mx my mc : Nat → Int32} (hB : mg_B px py mx my mc) (i : Nat) {g h : Nat} (hg : g < 4) (hh : h < 4) :
    (mg_A px py mx my mc i g h).toInt = (mg_F px py mx my mc i g).toInt * ((mc h).toInt * (mc h).toInt) ∧
    0 ≤ (mg_A px py mx my mc i g h).toInt ∧ (mg_A px py mx my mc i g h).toInt ≤ 6635520000 := by
  have hF := mg_Ft hB i hg
  have hc := hB.2.2.2.2 h hh
  unfold mg_A
  generalize mg_F px py mx my mc i g = a at hF ⊢
  generalize mc h = c at hc ⊢
  have b1 := mg_mulb (b := 24) hF.1 hF.2 (show 0 ≤ c.toInt by omega) hc.2
  have e1 : (a * c.toInt64).toInt = a.toInt * c.toInt := by
    rw [mg_lmul (by rw [Int32.toInt_toInt64]; omega) (by rw [Int32.toInt_toInt64]; omega), Int32.toInt_toInt64]
  have b2 := mg_mulb (b := 24) b1.1 b1.2 (show 0 ≤ c.toInt by omega) hc.2
  have e2 : (a * c.toInt64 * c.toInt64).toInt = a.toInt * c.toInt * c.toInt := by
    rw [mg_lmul (by rw [e1, Int32.toInt_toInt64]; omega) (by rw [e1, Int32.toInt_toInt64]; omega), e1, Int32.toInt_toInt64]
  rw [e2]
  exact ⟨by rw [Int.mul_assoc], by omega, by omega⟩
/-- nearer than the nearest so far is nearer than all so far -/
theorem mg_At3 {px py mx my mc : Nat → Int32} (hB : mg_B px py mx my mc) (i : Nat) {j q g : Nat} (hj : j < 4) (hq : q < 4) (hg : g < 4)
    (h1 : (mg_A px py mx my mc i j q).toInt ≤ (mg_A px py mx my mc i q j).toInt) (h2 : (mg_A px py mx my mc i q g).toInt ≤ (mg_A px py mx my mc i g q).toInt) :
    (mg_A px py mx my mc i j g).toInt ≤ (mg_A px py mx my mc i g j).toInt := by
  rw [(mg_At hB i hj hq).1, (mg_At hB i hq hj).1] at h1
  rw [(mg_At hB i hq hg).1, (mg_At hB i hg hq).1] at h2
  rw [(mg_At hB i hj hg).1, (mg_At hB i hg hj).1]
  have cj := hB.2.2.2.2 j hj
  have cq := hB.2.2.2.2 q hq
  have cg := hB.2.2.2.2 g hg
  exact mg_tr (Int.mul_nonneg (by omega) (by omega)) (Int.mul_pos (by omega) (by omega)) (Int.mul_nonneg (by omega) (by omega)) h1 h2
end MGA
end
section
section MGB
/-! B: going back to the seeds -/
theorem mg_so46 (p k : Int32) (px py sx sy mx my mc : Nat → Int32) : ∀ (d j : Nat) (gr : Nat → Int32), j + d = 24 → (∀ i, i < j → gr i = -1) →
    ∃ gr' : Nat → Int32, (∀ i, i < 24 → gr' i = -1) ∧
      (∀ post : SX → Prop, post (p, k, px, py, gr', sx, sy, mx, my, mc) → wX_startOver_46 post p k (d + 1) (nI j) px py gr sx sy mx my mc) ∧
      (∀ post : SY → Prop, post (p, k, px, py, gr', sx, sy, mx, my, mc) → wY_reset_46 post p k (d + 1) (nI j) px py gr sx sy mx my mc) := by
  intro d
  induction d with
  | zero =>
    intro j gr hj h
    have h24 : (24 : Int32) ≤ nI j := nI_le (a := 24) (by omega) (by omega)
    exact ⟨gr, fun i hi => h i (by omega), fun post hp => br_t h24 hp, fun post hp => br_t h24 hp⟩
  | succ d ih =>
    intro j gr hj h
    have h24 : ¬ (24 : Int32) ≤ nI j := nI_ge (b := 24) (by omega) (by decide)
    have hi : vp_in (nI j) 24 := vp_in_nI (by omega) (by decide)
    have e : (nI j).toNatClampNeg = j := nI_clamp (by omega)
    obtain ⟨gr', h1, h2, h3⟩ := ih (j + 1) (upd gr j (-1)) (by omega) (by
      intro i hi
      by_cases e : i = j
      · subst e; exact mg_us
      · rw [mg_un e]; exact h i (by omega))
    refine ⟨gr', h1, fun post hp => br_f h24 ⟨hi, nm_r (by rw [e]) (nm_r (nI_1 j) (h2 post hp))⟩, fun post hp => br_f h24 ⟨hi, nm_r (by rw [e]) (nm_r (nI_1 j) (h3 post hp))⟩⟩
theorem mg_so2 (p k : Int32) (px py gr sx sy : Nat → Int32) : ∀ (d j : Nat) (mx my mc : Nat → Int32), j + d = 4 → (∀ i, i < j → mx i = sx i ∧ my i = sy i ∧ mc i = 1) →
    ∃ gr' mx' my' mc' : Nat → Int32, (∀ i, i < 24 → gr' i = -1) ∧ (∀ i, i < 4 → mx' i = sx i ∧ my' i = sy i ∧ mc' i = 1) ∧
      (∀ post : SX → Prop, post (p, k, px, py, gr', sx, sy, mx', my', mc') → wX_startOver_2 post p k (d + 1) (nI j) px py gr sx sy mx my mc) ∧
      (∀ post : SY → Prop, post (p, k, px, py, gr', sx, sy, mx', my', mc') → wY_reset_2 post p k (d + 1) (nI j) px py gr sx sy mx my mc) := by
  intro d
  induction d with
  | zero =>
    intro j mx my mc hj h
    have h4 : (4 : Int32) ≤ nI j := nI_le (a := 4) (by omega) (by omega)
    obtain ⟨gr', h1, h2, h3⟩ := mg_so46 p k px py sx sy mx my mc 24 0 gr rfl (fun i hi => absurd hi (Nat.not_lt_zero i))
    exact ⟨gr', mx, my, mc, h1, fun i hi => h i (by omega), fun post hp => br_t h4 ⟨25, h2 post hp⟩, fun post hp => br_t h4 ⟨25, h3 post hp⟩⟩
  | succ d ih =>
    intro j mx my mc hj h
    have h4 : ¬ (4 : Int32) ≤ nI j := nI_ge (b := 4) (by omega) (by decide)
    have hi : vp_in (nI j) 4 := vp_in_nI (by omega) (by decide)
    have e : (nI j).toNatClampNeg = j := nI_clamp (by omega)
    obtain ⟨gr', mx', my', mc', h0, h1, h2, h3⟩ := ih (j + 1) (upd mx j (sx j)) (upd my j (sy j)) (upd mc j 1) (by omega) (by
      intro i hi
      by_cases e : i = j
      · subst e; exact ⟨mg_us, mg_us, mg_us⟩
      · rw [mg_un e, mg_un e, mg_un e]; exact h i (by omega))
    refine ⟨gr', mx', my', mc', h0, h1, fun post hp => br_f h4 ⟨hi, hi, nm_r (by rw [e]) ⟨hi, hi, nm_r (by rw [e]) ⟨hi, nm_r (by rw [e]) (nm_r (nI_1 j) (h2 post hp))⟩⟩⟩, fun post hp => br_f h4 ⟨hi, hi, nm_r (by rw [e]) ⟨hi, hi, nm_r (by rw [e]) ⟨hi, nm_r (by rw [e]) (nm_r (nI_1 j) (h3 post hp))⟩⟩⟩⟩
/-- what both states keep to -/
def mg_Inv (P K : Nat) (px py gr sx sy mx my mc : Nat → Int32) : Prop :=
  P ≤ 24 ∧ 1 ≤ K ∧ K ≤ 4 ∧ mg_B px py mx my mc ∧ (∀ i, -50 ≤ (sx i).toInt ∧ (sx i).toInt ≤ 50) ∧ (∀ i, -50 ≤ (sy i).toInt ∧ (sy i).toInt ≤ 50) ∧
  (∀ i, i < 24 → gr i = -1 ∨ ∃ q, q < K ∧ gr i = nI q)
theorem mg_ro {P K : Nat} {px py sx sy : Nat → Int32} (hP : P ≤ 24) (hK : 1 ≤ K ∧ K ≤ 4) (hx : ∀ i, -50 ≤ (px i).toInt ∧ (px i).toInt ≤ 50) (hy : ∀ i, -50 ≤ (py i).toInt ∧ (py i).toInt ≤ 50)
    (hsx : ∀ i, -50 ≤ (sx i).toInt ∧ (sx i).toInt ≤ 50) (hsy : ∀ i, -50 ≤ (sy i).toInt ∧ (sy i).toInt ≤ 50) (gr mx my mc : Nat → Int32) :
    ∃ gr' mx' my' mc' : Nat → Int32, mg_Inv P K px py gr' sx sy mx' my' mc' ∧
      (∀ post : SX → Prop, post (nI P, nI K, px, py, gr', sx, sy, mx', my', mc') → wpX_startOver post (nI P, nI K, px, py, gr, sx, sy, mx, my, mc)) ∧
      (∀ post : SY → Prop, post (nI P, nI K, px, py, gr', sx, sy, mx', my', mc') → wpY_reset post (nI P, nI K, px, py, gr, sx, sy, mx, my, mc)) := by
  obtain ⟨gr', mx', my', mc', h0, h1, h2, h3⟩ := mg_so2 (nI P) (nI K) px py gr sx sy 4 0 mx my mc rfl (fun i hi => absurd hi (Nat.not_lt_zero i))
  have one : (1 : Int32).toInt = 1 := by decide
  refine ⟨gr', mx', my', mc', ⟨hP, hK.1, hK.2, ⟨hx, hy, ?_, ?_, ?_⟩, hsx, hsy, fun i hi => Or.inl (h0 i hi)⟩, fun post hp => ⟨5, h2 post hp⟩, fun post hp => ⟨5, h3 post hp⟩⟩
  · intro g hg
    rw [(h1 g hg).1]
    have := hsx g
    omega
  · intro g hg
    rw [(h1 g hg).2.1]
    have := hsy g
    omega
  · intro g hg
    rw [(h1 g hg).2.2, one]
    omega
end MGB
end
section
section MGC
/-! C: distances, and the nearest middle -/
theorem mg_xF {p k : Int32} {px py gr sx sy mx my mc : Nat → Int32} {i g : Nat} (hi : i < 24) (hg : g < 4) {post : Int64 → Prop} (hp : post (mg_F px py mx my mc i g)) :
    wpX_scaledDistance post (p, k, px, py, gr, sx, sy, mx, my, mc) (nI i) (nI g) := by
  have vi : vp_in (nI i) 24 := vp_in_nI hi (by decide)
  have vg : vp_in (nI g) 4 := vp_in_nI hg (by decide)
  unfold wpX_scaledDistance
  dsimp only
  rw [nI_clamp (n := i) (by omega), nI_clamp (n := g) (by omega)]
  exact ⟨vg, nm_e ⟨vi, vg, nm_e ⟨vi, vg, nm_e hp⟩⟩⟩
theorem mg_yF {p k : Int32} {px py gr sx sy mx my mc : Nat → Int32} (hB : mg_B px py mx my mc) {i g : Nat} (hi : i < 24) (hg : g < 4) {post : Int64 → Prop} (hp : post (mg_F px py mx my mc i g)) :
    wpY_far post (p, k, px, py, gr, sx, sy, mx, my, mc) (nI i) (nI g) := by
  have vi : vp_in (nI i) 24 := vp_in_nI hi (by decide)
  have vg : vp_in (nI g) 4 := vp_in_nI hg (by decide)
  unfold wpY_far
  dsimp only
  rw [nI_clamp (n := i) (by omega), nI_clamp (n := g) (by omega)]
  exact ⟨vi, vg, vg, nm_r (mg_d (hB.1 i) (hB.2.2.2.2 g hg) (hB.2.2.1 g hg)).1 ⟨vi, vg, vg, nm_r (mg_d (hB.2.1 i) (hB.2.2.2.2 g hg) (hB.2.2.2.1 g hg)).1 hp⟩⟩
theorem mg_xC {p k : Int32} {px py gr sx sy mx my mc : Nat → Int32} {i g h : Nat} (hi : i < 24) (hg : g < 4) (hh : h < 4) {post : Int64 → Prop}
    (hp : post (mg_A px py mx my mc i g h - mg_A px py mx my mc i h g)) :
    wpX_compareDistances post (p, k, px, py, gr, sx, sy, mx, my, mc) (nI i) (nI g) (nI h) := by
  have vg : vp_in (nI g) 4 := vp_in_nI hg (by decide)
  have vh : vp_in (nI h) 4 := vp_in_nI hh (by decide)
  have eg : (nI g).toNatClampNeg = g := nI_clamp (by omega)
  have eh : (nI h).toNatClampNeg = h := nI_clamp (by omega)
  unfold wpX_compareDistances
  dsimp only
  rw [eg, eh]
  exact ⟨vg, nm_e ⟨vh, nm_e (mg_xF hi hg (nm_e (mg_xF hi hh (nm_e hp))))⟩⟩
theorem mg_yC {p k : Int32} {px py gr sx sy mx my mc : Nat → Int32} (hB : mg_B px py mx my mc) {i g h : Nat} (hi : i < 24) (hg : g < 4) (hh : h < 4) {post : Int32 → Prop}
    (h0 : mg_A px py mx my mc i h g ≤ mg_A px py mx my mc i g h → post 0) (h1 : ¬ mg_A px py mx my mc i h g ≤ mg_A px py mx my mc i g h → post 1) :
    wpY_nearer post (p, k, px, py, gr, sx, sy, mx, my, mc) (nI i) (nI g) (nI h) := by
  have vg : vp_in (nI g) 4 := vp_in_nI hg (by decide)
  have vh : vp_in (nI h) 4 := vp_in_nI hh (by decide)
  have eg : (nI g).toNatClampNeg = g := nI_clamp (by omega)
  have eh : (nI h).toNatClampNeg = h := nI_clamp (by omega)
  unfold wpY_nearer
  dsimp only
  rw [eg, eh]
  exact mg_yF hB hi hg ⟨vh, vh, mg_yF hB hi hh ⟨vg, vg, br_c h0 h1⟩⟩
theorem mg_nl (p : Int32) {K : Nat} (hK : K ≤ 4) {px py mx my mc : Nat → Int32} (gr sx sy : Nat → Int32) (hB : mg_B px py mx my mc) {i : Nat} (hi : i < 24) :
    ∀ (d j q : Nat), j + d = K → q < j → (∀ g, g < j → (mg_A px py mx my mc i q g).toInt ≤ (mg_A px py mx my mc i g q).toInt) →
    ∃ r : Nat, r < K ∧ (∀ g, g < K → (mg_A px py mx my mc i r g).toInt ≤ (mg_A px py mx my mc i g r).toInt) ∧
      (∀ post : Int32 → Prop, post (nI r) → wX_nearestGroup_4 post (nI i) p (nI K) px py gr sx sy mx my mc (d + 1) (nI q) (nI j)) ∧
      (∀ post : Int32 → Prop, post (nI r) → wY_nearest_4 post (nI i) p (nI K) px py gr sx sy mx my mc (d + 1) (nI q) (nI j)) := by
  intro d
  induction d with
  | zero =>
    intro j q hj hq h
    have hk : nI K ≤ nI j := nI_le (by omega) (by omega)
    exact ⟨q, by omega, fun g hg => h g (by omega), fun post hp => br_t hk hp, fun post hp => br_t hk hp⟩
  | succ d ih =>
    intro j q hj hq h
    have hk : ¬ nI K ≤ nI j := nI_ge (by omega) (by omega)
    have hj4 : j < 4 := by omega
    have hq4 : q < 4 := by omega
    have c := (mg_cmp (mg_At hB i hj4 hq4).2 (mg_At hB i hq4 hj4).2).1
    by_cases hc : mg_A px py mx my mc i q j ≤ mg_A px py mx my mc i j q
    · obtain ⟨r, h1, h2, h3, h4⟩ := ih (j + 1) q (by omega) (by omega) (by
        intro g hg
        by_cases e : g = j
        · subst e; exact Int64.le_iff_toInt_le.mp hc
        · exact h g (by omega))
      exact ⟨r, h1, h2, fun post hp => br_f hk (mg_xC hi hj4 hq4 (br_t (c.mpr hc) (nm_r (nI_1 j) (h3 post hp)))),
        fun post hp => br_f hk (mg_yC hB hi hj4 hq4 (fun _ => br_t rfl (nm_r (nI_1 j) (h4 post hp))) (fun n => absurd hc n))⟩
    · have hl : (mg_A px py mx my mc i j q).toInt ≤ (mg_A px py mx my mc i q j).toInt := by
        rw [Int64.le_iff_toInt_le] at hc; omega
      obtain ⟨r, h1, h2, h3, h4⟩ := ih (j + 1) j (by omega) (by omega) (by
        intro g hg
        by_cases e : g = j
        · subst e; exact Int.le_refl _
        · exact mg_At3 hB i hj4 hq4 (by omega) hl (h g (by omega)))
      exact ⟨r, h1, h2, fun post hp => br_f hk (mg_xC hi hj4 hq4 (br_f (fun z => hc (c.mp z)) (nm_r (nI_1 j) (h3 post hp)))),
        fun post hp => br_f hk (mg_yC hB hi hj4 hq4 (fun n => absurd n hc) (fun _ => br_f (by decide) (nm_r (nI_1 j) (h4 post hp))))⟩
theorem mg_ne (p : Int32) {K : Nat} (hK : 1 ≤ K ∧ K ≤ 4) {px py mx my mc : Nat → Int32} (gr sx sy : Nat → Int32) (hB : mg_B px py mx my mc) {i : Nat} (hi : i < 24) :
    ∃ r : Nat, r < K ∧ (∀ g, g < K → (mg_A px py mx my mc i r g).toInt ≤ (mg_A px py mx my mc i g r).toInt) ∧
      (∀ post : Int32 → Prop, post (nI r) → wpX_nearestGroup post (p, nI K, px, py, gr, sx, sy, mx, my, mc) (nI i)) ∧
      (∀ post : Int32 → Prop, post (nI r) → wpY_nearest post (p, nI K, px, py, gr, sx, sy, mx, my, mc) (nI i)) := by
  obtain ⟨r, h1, h2, h3, h4⟩ := mg_nl p hK.2 gr sx sy hB hi (K - 1) 1 0 (by omega) (by omega) (by
    intro g hg
    have e : g = 0 := by omega
    subst e; exact Int.le_refl _)
  exact ⟨r, h1, h2, fun post hp => ⟨_, h3 post hp⟩, fun post hp => ⟨_, h4 post hp⟩⟩
end MGC
end
section
section MGD
/-! D: members, counted and summed -/
theorem mg_cl (k : Int32) {P : Nat} (hP : P ≤ 24) (px py gr sx sy mx my mc : Nat → Int32) (g : Int32) : ∀ (d j n : Nat), j + d = P → n ≤ j →
    ∃ r : Nat, r ≤ P ∧ ((∀ i, j ≤ i → i < P → ¬ gr i = g) → r = n) ∧
      (∀ post : Int32 → Prop, post (nI r) → wX_countMembers_4 post g (nI P) k px py gr sx sy mx my mc (d + 1) (nI n) (nI j)) ∧
      (¬ g < 0 → ∀ post : Int32 → Prop, post (nI r) → wY_size_4 post g (nI P) k px py gr sx sy mx my mc (d + 1) (nI n) (nI j)) := by
  intro d
  induction d with
  | zero =>
    intro j n hj hn
    have hk : nI P ≤ nI j := nI_le (by omega) (by omega)
    exact ⟨n, by omega, fun _ => rfl, fun post hp => br_t hk hp, fun _ post hp => br_t hk hp⟩
  | succ d ih =>
    intro j n hj hn
    have hk : ¬ nI P ≤ nI j := nI_ge (by omega) (by omega)
    have vi : vp_in (nI j) 24 := vp_in_nI (by omega) (by decide)
    have e : (nI j).toNatClampNeg = j := nI_clamp (by omega)
    by_cases hg : gr j = g
    · have hg' : gr (nI j).toNatClampNeg = g := by rw [e]; exact hg
      obtain ⟨r, h1, h2, h3, h4⟩ := ih (j + 1) (n + 1) (by omega) (by omega)
      exact ⟨r, h1, fun z => absurd hg (z j (by omega) (by omega)),
        fun post hp => br_f hk ⟨vi, br_t hg' (nm_r (nI_1 n) (nm_r (nI_1 j) (h3 post hp)))⟩,
        fun h0 post hp => br_f hk (br_f h0 ⟨vi, br_t hg' (nm_r (nI_1 n) (nm_r (nI_1 j) (h4 h0 post hp)))⟩)⟩
    · have hg' : ¬ gr (nI j).toNatClampNeg = g := by rw [e]; exact hg
      obtain ⟨r, h1, h2, h3, h4⟩ := ih (j + 1) n (by omega) (by omega)
      exact ⟨r, h1, fun z => h2 (fun i hi hi' => z i (by omega) hi'),
        fun post hp => br_f hk ⟨vi, br_f hg' (nm_r (nI_1 j) (h3 post hp))⟩,
        fun h0 post hp => br_f hk (br_f h0 ⟨vi, br_f hg' (nm_r (nI_1 j) (h4 h0 post hp))⟩)⟩
/-- below 0 the reference counts none -/
theorem mg_cn (k : Int32) {P : Nat} (hP : P ≤ 24) (px py gr sx sy mx my mc : Nat → Int32) {g : Int32} (hg : g < 0) {post : Int32 → Prop} (hp : post 0) : ∀ (d j : Nat), j + d = P →
    wY_size_4 post g (nI P) k px py gr sx sy mx my mc (d + 1) 0 (nI j) := by
  intro d
  induction d with
  | zero =>
    intro j hj
    exact br_t (nI_le (by omega) (by omega)) hp
  | succ d ih =>
    intro j hj
    exact br_f (nI_ge (by omega) (by omega)) (br_t hg (nm_r (nI_1 j) (ih (j + 1) (by omega))))
theorem mg_cnt (k : Int32) {P : Nat} (hP : P ≤ 24) (px py gr sx sy mx my mc : Nat → Int32) (g : Int32) :
    ∃ r : Nat, r ≤ P ∧ ((∀ i, i < P → ¬ gr i = g) → r = 0) ∧
      (∀ post : Int32 → Prop, post (nI r) → wpX_countMembers post (nI P, k, px, py, gr, sx, sy, mx, my, mc) g) ∧
      (¬ g < 0 → ∀ post : Int32 → Prop, post (nI r) → wpY_size post (nI P, k, px, py, gr, sx, sy, mx, my, mc) g) := by
  obtain ⟨r, h1, h2, h3, h4⟩ := mg_cl k hP px py gr sx sy mx my mc g P 0 0 (by omega) (by omega)
  exact ⟨r, h1, fun z => h2 (fun i _ hi => z i hi), fun post hp => ⟨_, h3 post hp⟩, fun h0 post hp => ⟨_, h4 h0 post hp⟩⟩
/-- a member's share -/
def mg_sh (w x y : Int32) : Int32 := if w = 0 then x else if w = 1 then y else if w = 2 then x * x + y * y else 0
theorem mg_sh0 {w x y : Int32} (h : w = 0) : mg_sh w x y = x := if_pos h
theorem mg_sh1 {w x y : Int32} (h0 : ¬ w = 0) (h : w = 1) : mg_sh w x y = y := by unfold mg_sh; rw [if_neg h0, if_pos h]
theorem mg_sh2 {w x y : Int32} (h0 : ¬ w = 0) (h1 : ¬ w = 1) (h : w = 2) : mg_sh w x y = x * x + y * y := by unfold mg_sh; rw [if_neg h0, if_neg h1, if_pos h]
theorem mg_sh3 {w x y : Int32} (h0 : ¬ w = 0) (h1 : ¬ w = 1) (h : ¬ w = 2) : mg_sh w x y = 0 := by unfold mg_sh; rw [if_neg h0, if_neg h1, if_neg h]
theorem mg_shX {p k : Int32} {px py gr sx sy mx my mc : Nat → Int32} {i : Nat} (hi : i < 24) (w : Int32) {post : Int32 → Prop} (hp : post (mg_sh w (px i) (py i))) :
    wpX_share post (p, k, px, py, gr, sx, sy, mx, my, mc) (nI i) w := by
  have vi : vp_in (nI i) 24 := vp_in_nI hi (by decide)
  have e : (nI i).toNatClampNeg = i := nI_clamp (by omega)
  unfold wpX_share
  dsimp only
  rw [e]
  refine ⟨vi, nm_e ⟨vi, nm_e ?_⟩⟩
  by_cases w0 : w = 0
  · rw [mg_sh0 w0] at hp
    exact br_f (by rw [w0]; decide) (br_f (by rw [w0]; decide) (br_t w0 hp))
  · by_cases w1 : w = 1
    · rw [mg_sh1 w0 w1] at hp
      exact br_f (by rw [w1]; decide) (br_f (by rw [w1]; decide) (br_f w0 (br_t w1 hp)))
    · by_cases w2 : w = 2
      · rw [mg_sh2 w0 w1 w2] at hp
        exact br_f (by rw [w2]; decide) (br_f (by rw [w2]; decide) (br_f w0 (br_f w1 (br_t w2 hp))))
      · rw [mg_sh3 w0 w1 w2] at hp
        exact br_c (fun _ => hp) (fun _ => br_c (fun _ => hp) (fun _ => br_f w0 (br_f w1 (br_f w2 trivial))))
theorem mg_sl (k : Int32) {P : Nat} (hP : P ≤ 24) {px py : Nat → Int32} (gr sx sy mx my mc : Nat → Int32) (hx : ∀ i, -50 ≤ (px i).toInt ∧ (px i).toInt ≤ 50) (hy : ∀ i, -50 ≤ (py i).toInt ∧ (py i).toInt ≤ 50)
    (g w : Int32) : ∀ (d j : Nat) (s : Int32), j + d = P →
    ∃ r : Int32, (w = 0 ∨ w = 1 → -(50 * (j : Int)) ≤ s.toInt ∧ s.toInt ≤ 50 * (j : Int) → -(50 * (P : Int)) ≤ r.toInt ∧ r.toInt ≤ 50 * (P : Int)) ∧
      ((∀ i, j ≤ i → i < P → ¬ gr i = g) → r = s) ∧
      (∀ post : Int32 → Prop, post r → wX_sumMembers_5 post g w (nI P) k px py gr sx sy mx my mc (d + 1) s (nI j)) ∧
      (¬ g < 0 → ∀ post : Int32 → Prop, post r → wY_sum_5 post g w (nI P) k px py gr sx sy mx my mc (d + 1) s (nI j)) := by
  intro d
  induction d with
  | zero =>
    intro j s hj
    have hk : nI P ≤ nI j := nI_le (by omega) (by omega)
    have e : j = P := by omega
    subst e
    exact ⟨s, fun _ h => h, fun _ => rfl, fun post hp => br_t hk hp, fun _ post hp => br_t hk hp⟩
  | succ d ih =>
    intro j s hj
    have hk : ¬ nI P ≤ nI j := nI_ge (by omega) (by omega)
    have vi : vp_in (nI j) 24 := vp_in_nI (by omega) (by decide)
    have e : (nI j).toNatClampNeg = j := nI_clamp (by omega)
    by_cases hg : gr j = g
    · have hg' : gr (nI j).toNatClampNeg = g := by rw [e]; exact hg
      obtain ⟨r, h1, h2, h3, h4⟩ := ih (j + 1) (s + mg_sh w (px j) (py j)) (by omega)
      refine ⟨r, ?_, fun z => absurd hg (z j (by omega) (by omega)),
        fun post hp => br_f hk ⟨vi, br_t hg' (mg_shX (by omega) w (nm_e (nm_r (nI_1 j) (h3 post hp))))⟩,
        fun h0 post hp => br_f hk (br_f h0 ⟨vi, br_t hg' ?_⟩)⟩
      · intro hw hs
        refine h1 hw ?_
        have hb : -50 ≤ (mg_sh w (px j) (py j)).toInt ∧ (mg_sh w (px j) (py j)).toInt ≤ 50 := by
          rcases hw with w0 | w1
          · rw [mg_sh0 w0]; exact hx j
          · rw [mg_sh1 (by rw [w1]; decide) w1]; exact hy j
        rw [mg_add (by omega) (by omega)]
        omega
      · by_cases w0 : w = 0
        · exact br_t w0 ⟨vi, nm_r (by rw [e, mg_sh0 w0]) (nm_r (nI_1 j) (h4 h0 post hp))⟩
        · by_cases w1 : w = 1
          · exact br_f w0 (br_t w1 ⟨vi, nm_r (by rw [e, mg_sh1 w0 w1]) (nm_r (nI_1 j) (h4 h0 post hp))⟩)
          · by_cases w2 : w = 2
            · exact br_f w0 (br_f w1 (br_t w2 ⟨vi, vi, vi, vi, nm_r (by rw [e, mg_sh2 w0 w1 w2]) (nm_r (nI_1 j) (h4 h0 post hp))⟩))
            · exact br_f w0 (br_f w1 (br_f w2 (nm_r (by rw [mg_sh3 w0 w1 w2]) (nm_r (nI_1 j) (h4 h0 post hp)))))
    · have hg' : ¬ gr (nI j).toNatClampNeg = g := by rw [e]; exact hg
      obtain ⟨r, h1, h2, h3, h4⟩ := ih (j + 1) s (by omega)
      exact ⟨r, fun hw hs => h1 hw (by omega), fun z => h2 (fun i hi hi' => z i (by omega) hi'),
        fun post hp => br_f hk ⟨vi, br_f hg' (nm_r (nI_1 j) (h3 post hp))⟩,
        fun h0 post hp => br_f hk (br_f h0 ⟨vi, br_f hg' (nm_r (nI_1 j) (h4 h0 post hp))⟩)⟩
theorem mg_sn (k : Int32) {P : Nat} (hP : P ≤ 24) (px py gr sx sy mx my mc : Nat → Int32) {g : Int32} (w : Int32) (hg : g < 0) {post : Int32 → Prop} (hp : post 0) : ∀ (d j : Nat), j + d = P →
    wY_sum_5 post g w (nI P) k px py gr sx sy mx my mc (d + 1) 0 (nI j) := by
  intro d
  induction d with
  | zero =>
    intro j hj
    exact br_t (nI_le (by omega) (by omega)) hp
  | succ d ih =>
    intro j hj
    exact br_f (nI_ge (by omega) (by omega)) (br_t hg (nm_r (nI_1 j) (ih (j + 1) (by omega))))
theorem mg_sum (k : Int32) {P : Nat} (hP : P ≤ 24) {px py : Nat → Int32} (gr sx sy mx my mc : Nat → Int32) (hx : ∀ i, -50 ≤ (px i).toInt ∧ (px i).toInt ≤ 50) (hy : ∀ i, -50 ≤ (py i).toInt ∧ (py i).toInt ≤ 50)
    (g w : Int32) :
    ∃ r : Int32, (w = 0 ∨ w = 1 → -1200 ≤ r.toInt ∧ r.toInt ≤ 1200) ∧ ((∀ i, i < P → ¬ gr i = g) → r = 0) ∧
      (∀ post : Int32 → Prop, post r → wpX_sumMembers post (nI P, k, px, py, gr, sx, sy, mx, my, mc) g w) ∧
      (¬ g < 0 → ∀ post : Int32 → Prop, post r → wpY_sum post (nI P, k, px, py, gr, sx, sy, mx, my, mc) g w) := by
  obtain ⟨r, h1, h2, h3, h4⟩ := mg_sl k hP gr sx sy mx my mc hx hy g w P 0 0 (by omega)
  have z0 : (0 : Int32).toInt = 0 := by decide
  refine ⟨r, fun hw => ?_, fun z => h2 (fun i _ hi => z i hi), fun post hp => ⟨_, h3 post hp⟩, fun h0 post hp => ⟨_, h4 h0 post hp⟩⟩
  have := h1 hw (by rw [z0]; omega)
  omega
end MGD
end
section
section MGE
/-! E: a round, and rounds until nothing moves -/
theorem mg_Bu {px py mx my mc : Nat → Int32} (hB : mg_B px py mx my mc) (j : Nat) {s t c : Int32} (hs : -1200 ≤ s.toInt ∧ s.toInt ≤ 1200) (ht : -1200 ≤ t.toInt ∧ t.toInt ≤ 1200)
    (hc : 1 ≤ c.toInt ∧ c.toInt ≤ 24) : mg_B px py (upd mx j s) (upd my j t) (upd mc j c) := by
  obtain ⟨hx, hy, h1, h2, h3⟩ := hB
  refine ⟨hx, hy, ?_, ?_, ?_⟩
  · intro g hg
    by_cases e : g = j
    · subst e; rw [mg_us]; exact hs
    · rw [mg_un e]; exact h1 g hg
  · intro g hg
    by_cases e : g = j
    · subst e; rw [mg_us]; exact ht
    · rw [mg_un e]; exact h2 g hg
  · intro g hg
    by_cases e : g = j
    · subst e; rw [mg_us]; exact hc
    · rw [mg_un e]; exact h3 g hg
theorem mg_ml {P K : Nat} (hP : P ≤ 24) (hK : K ≤ 4) {px py : Nat → Int32} (gr sx sy : Nat → Int32) : ∀ (d j : Nat) (mx my mc : Nat → Int32), j + d = K → mg_B px py mx my mc →
    ∃ mx' my' mc' : Nat → Int32, mg_B px py mx' my' mc' ∧
      (∀ post : SX → Prop, post (nI P, nI K, px, py, gr, sx, sy, mx', my', mc') → wX_moveMiddles_2 post (nI P) (nI K) (d + 1) (nI j) px py gr sx sy mx my mc) ∧
      (∀ (post : Int32 → SY → Prop) (m : Int32), post m (nI P, nI K, px, py, gr, sx, sy, mx', my', mc') → wY_round_46 post m (nI P) (nI K) (d + 1) (nI j) px py gr sx sy mx my mc) := by
  intro d
  induction d with
  | zero =>
    intro j mx my mc hj hB
    have hk : nI K ≤ nI j := nI_le (by omega) (by omega)
    exact ⟨mx, my, mc, hB, fun post hp => br_t hk hp, fun post m hp => br_t hk hp⟩
  | succ d ih =>
    intro j mx my mc hj hB
    have hk : ¬ nI K ≤ nI j := nI_ge (by omega) (by omega)
    have v4 : vp_in (nI j) 4 := vp_in_nI (by omega) (by decide)
    have e : (nI j).toNatClampNeg = j := nI_clamp (by omega)
    have h0 : ¬ nI j < 0 := nI_pos (by omega)
    obtain ⟨n, hn, _, cX, cY⟩ := mg_cnt (nI K) hP px py gr sx sy mx my mc (nI j)
    by_cases n0 : n = 0
    · subst n0
      have hz : nI 0 ≤ 0 := nI_le (a := 0) (b := 0) (by decide) (by decide)
      obtain ⟨mx', my', mc', h1, h2, h3⟩ := ih (j + 1) mx my mc (by omega) hB
      exact ⟨mx', my', mc', h1, fun post hp => br_f hk (cX _ (br_t hz (nm_r (nI_1 j) (h2 post hp)))),
        fun post m hp => br_f hk (cY h0 _ (br_t hz (nm_r (nI_1 j) (h3 post m hp))))⟩
    · have hz : ¬ nI n ≤ 0 := nI_nle (by omega) (by omega)
      obtain ⟨s, hs, _, sX, sY⟩ := mg_sum (nI K) hP gr sx sy mx my mc hB.1 hB.2.1 (nI j) 0
      obtain ⟨t, ht, _, tX, tY⟩ := mg_sum (nI K) hP gr sx sy (upd mx j s) my mc hB.1 hB.2.1 (nI j) 1
      obtain ⟨mx', my', mc', h1, h2, h3⟩ := ih (j + 1) (upd mx j s) (upd my j t) (upd mc j (nI n)) (by omega)
        (mg_Bu hB j (hs (Or.inl rfl)) (ht (Or.inr rfl)) (by rw [nI_toInt (by omega)]; omega))
      exact ⟨mx', my', mc', h1,
        fun post hp => br_f hk (cX _ (br_f hz (sX _ ⟨v4, nm_r (by rw [e]) (tX _ ⟨v4, nm_r (by rw [e]) ⟨v4, nm_r (by rw [e]) (nm_r (nI_1 j) (h2 post hp))⟩⟩)⟩))),
        fun post m hp => br_f hk (cY h0 _ (br_f hz (cY h0 _ (sY h0 _ ⟨v4, nm_r (by rw [e]) (tY h0 _ ⟨v4, nm_r (by rw [e]) ⟨v4, nm_r (by rw [e]) (nm_r (nI_1 j) (h3 post m hp))⟩⟩)⟩))))⟩
theorem mg_rl {P K : Nat} (hP : P ≤ 24) (hK : 1 ≤ K ∧ K ≤ 4) {px py mx my mc : Nat → Int32} (hB : mg_B px py mx my mc) (sx sy : Nat → Int32) : ∀ (d j m : Nat) (gr : Nat → Int32), j + d = P → m ≤ j →
    (∀ i, i < 24 → gr i = -1 ∨ ∃ q, q < K ∧ gr i = nI q) →
    ∃ (r : Nat) (gr' mx' my' mc' : Nat → Int32), r ≤ P ∧ mg_B px py mx' my' mc' ∧ (∀ i, i < 24 → gr' i = -1 ∨ ∃ q, q < K ∧ gr' i = nI q) ∧
      (∀ post : Int32 → SX → Prop, post (nI r) (nI P, nI K, px, py, gr', sx, sy, mx', my', mc') → wX_makeRound_4 post (nI P) (nI K) (d + 1) (nI m) (nI j) px py gr sx sy mx my mc) ∧
      (∀ post : Int32 → SY → Prop, post (nI r) (nI P, nI K, px, py, gr', sx, sy, mx', my', mc') → wY_round_4 post (nI P) (nI K) (d + 1) (nI m) (nI j) px py gr sx sy mx my mc) := by
  intro d
  induction d with
  | zero =>
    intro j m gr hj hm hg
    have hk : nI P ≤ nI j := nI_le (by omega) (by omega)
    obtain ⟨mx', my', mc', h1, h2, h3⟩ := mg_ml hP hK.2 gr sx sy K 0 mx my mc (by omega) hB
    exact ⟨m, gr, mx', my', mc', by omega, h1, hg, fun post hp => br_t hk ⟨_, h2 _ hp⟩, fun post hp => br_t hk ⟨_, h3 _ _ hp⟩⟩
  | succ d ih =>
    intro j m gr hj hm hg
    have hk : ¬ nI P ≤ nI j := nI_ge (by omega) (by omega)
    have vi : vp_in (nI j) 24 := vp_in_nI (by omega) (by decide)
    have e : (nI j).toNatClampNeg = j := nI_clamp (by omega)
    obtain ⟨q, hq, _, nX, nY⟩ := mg_ne (nI P) hK gr sx sy hB (i := j) (by omega)
    by_cases hc : gr j = nI q
    · have hc' : gr (nI j).toNatClampNeg = nI q := by rw [e]; exact hc
      have eu : upd gr (nI j).toNatClampNeg (nI q) = gr := by
        rw [e]
        funext i
        by_cases z : i = j
        · subst z; rw [mg_us, hc]
        · rw [mg_un z]
      obtain ⟨r, gr', mx', my', mc', h1, h2, h3, h4, h5⟩ := ih (j + 1) m gr (by omega) (by omega) hg
      exact ⟨r, gr', mx', my', mc', h1, h2, h3, fun post hp => br_f hk (nX _ ⟨vi, br_t hc' (nm_r (nI_1 j) (h4 post hp))⟩),
        fun post hp => br_f hk (nY _ ⟨vi, br_t hc'.symm ⟨vi, nm_r eu (nm_r (nI_1 j) (h5 post hp))⟩⟩)⟩
    · have hc' : ¬ gr (nI j).toNatClampNeg = nI q := by rw [e]; exact hc
      obtain ⟨r, gr', mx', my', mc', h1, h2, h3, h4, h5⟩ := ih (j + 1) (m + 1) (upd gr j (nI q)) (by omega) (by omega) (by
        intro i hi
        by_cases z : i = j
        · subst z; rw [mg_us]; exact Or.inr ⟨q, hq, rfl⟩
        · rw [mg_un z]; exact hg i hi)
      exact ⟨r, gr', mx', my', mc', h1, h2, h3, fun post hp => br_f hk (nX _ ⟨vi, br_f hc' ⟨vi, nm_r (by rw [e]) (nm_r (nI_1 m) (nm_r (nI_1 j) (h4 post hp)))⟩⟩),
        fun post hp => br_f hk (nY _ ⟨vi, br_f (fun z => hc' z.symm) (nm_r (nI_1 m) ⟨vi, nm_r (by rw [e]) (nm_r (nI_1 j) (h5 post hp))⟩)⟩)⟩
theorem mg_rd {P K : Nat} {px py gr sx sy mx my mc : Nat → Int32} (hI : mg_Inv P K px py gr sx sy mx my mc) :
    ∃ (r : Nat) (gr' mx' my' mc' : Nat → Int32), r ≤ 24 ∧ mg_Inv P K px py gr' sx sy mx' my' mc' ∧
      (∀ post : Int32 → SX → Prop, post (nI r) (nI P, nI K, px, py, gr', sx, sy, mx', my', mc') → wpX_makeRound post (nI P, nI K, px, py, gr, sx, sy, mx, my, mc)) ∧
      (∀ post : Int32 → SY → Prop, post (nI r) (nI P, nI K, px, py, gr', sx, sy, mx', my', mc') → wpY_round post (nI P, nI K, px, py, gr, sx, sy, mx, my, mc)) := by
  obtain ⟨hP, hK1, hK4, hB, hsx, hsy, hg⟩ := hI
  obtain ⟨r, gr', mx', my', mc', h1, h2, h3, h4, h5⟩ := mg_rl hP ⟨hK1, hK4⟩ hB sx sy P 0 0 gr (by omega) (by omega) hg
  exact ⟨r, gr', mx', my', mc', by omega, ⟨hP, hK1, hK4, h2, hsx, hsy, h3⟩, fun post hp => ⟨_, h4 post hp⟩, fun post hp => ⟨_, h5 post hp⟩⟩
theorem mg_se {P K : Nat} {px py sx sy : Nat → Int32} : ∀ (d j m : Nat) (gr mx my mc : Nat → Int32), j + d = 40 → 0 < m → m < 2 ^ 31 → mg_Inv P K px py gr sx sy mx my mc →
    ∃ (r : Nat) (gr' mx' my' mc' : Nat → Int32), mg_Inv P K px py gr' sx sy mx' my' mc' ∧
      (∀ post : Int32 → SX → Prop, post (nI r) (nI P, nI K, px, py, gr', sx, sy, mx', my', mc') → wX_settle_6 post (d + 1) (nI (j + 1)) (nI P) (nI K) px py gr sx sy mx my mc) ∧
      (∀ post : Int32 → SY → Prop, post (nI r) (nI P, nI K, px, py, gr', sx, sy, mx', my', mc') → wY_settle_8 post (d + 1) (nI j) (nI m) (nI P) (nI K) px py gr sx sy mx my mc) := by
  intro d
  induction d with
  | zero =>
    intro j m gr mx my mc hj hm hm' hI
    have e : j = 40 := by omega
    subst e
    have hk : (40 : Int32) < nI (40 + 1) := nI_lt (a := 40) (by omega) (by omega)
    have hk' : (40 : Int32) ≤ nI 40 := nI_le (a := 40) (by omega) (by omega)
    exact ⟨40, gr, mx, my, mc, hI, fun post hp => br_t hk hp, fun post hp => br_f (nI_nle hm hm') (br_t hk' hp)⟩
  | succ d ih =>
    intro j m gr mx my mc hj hm hm' hI
    have hk : ¬ (40 : Int32) < nI (j + 1) := nI_nlt (a := 40) (by omega) (by omega)
    have hk' : ¬ (40 : Int32) ≤ nI j := nI_ge (b := 40) (by omega) (by omega)
    obtain ⟨r, gr', mx', my', mc', h1, h2, rX, rY⟩ := mg_rd hI
    by_cases r0 : r = 0
    · subst r0
      have hz : nI 0 ≤ 0 := nI_le (a := 0) (b := 0) (by decide) (by decide)
      exact ⟨j + 1, gr', mx', my', mc', h2, fun post hp => br_f hk (rX _ (br_t nI_0 hp)),
        fun post hp => br_f (nI_nle hm hm') (br_f hk' (rY _ (nm_r (nI_1 j) (br_t hz hp))))⟩
    · obtain ⟨s, gs, ms, ns, cs, h3, h4, h5⟩ := ih (j + 1) r gr' mx' my' mc' (by omega) (by omega) (by omega) h2
      exact ⟨s, gs, ms, ns, cs, h3, fun post hp => br_f hk (rX _ (br_f (nI_ne0 (by omega) (by omega)) (nm_r (nI_1 (j + 1)) (h4 post hp)))),
        fun post hp => br_f (nI_nle hm hm') (br_f hk' (rY _ (nm_r (nI_1 j) (h5 post hp))))⟩
end MGE
end
section
section MGF
/-! F: near, drop, refusals -/
theorem mg_ix (x : Int32) (n : Nat) : x < 0 ∨ (∃ j, n ≤ j ∧ j < 2 ^ 31 ∧ x = nI j) ∨ ∃ j, j < n ∧ x = nI j := by
  by_cases h : x < 0
  · exact Or.inl h
  · obtain ⟨j, hj, e⟩ := nI_of h
    by_cases hn : j < n
    · exact Or.inr (Or.inr ⟨j, hn, e⟩)
    · exact Or.inr (Or.inl ⟨j, by omega, hj, e⟩)
theorem mg_nrl {P K G : Nat} (hP : P ≤ 24) (hK : 1 ≤ K ∧ K ≤ 4) (hG : G < K) {px py mx my mc : Nat → Int32} (hB : mg_B px py mx my mc) (gr sx sy : Nat → Int32) : ∀ (d j n : Nat), j + d = P →
    ∃ r : Nat,
      (∀ post : Int32 → Prop, post (nI r) → wX_near_14 post (nI G) (nI P) (nI K) px py gr sx sy mx my mc (d + 1) (nI n) (nI j)) ∧
      (∀ post : Int32 → Prop, post (nI r) → wY_near_18 post (nI G) (nI P) (nI K) px py gr sx sy mx my mc (d + 1) (nI n) (nI j)) := by
  intro d
  induction d with
  | zero =>
    intro j n hj
    have hk : nI P ≤ nI j := nI_le (by omega) (by omega)
    exact ⟨n, fun post hp => br_t hk hp, fun post hp => br_t hk hp⟩
  | succ d ih =>
    intro j n hj
    have hk : ¬ nI P ≤ nI j := nI_ge (by omega) (by omega)
    obtain ⟨q, hq, hm, nX, nY⟩ := mg_ne (nI P) hK gr sx sy hB (i := j) (by omega)
    have hj24 : j < 24 := by omega
    have hG4 : G < 4 := by omega
    have hq4 : q < 4 := by omega
    have c := (mg_cmp (mg_At hB j hG4 hq4).2 (mg_At hB j hq4 hG4).2).2
    have hl := hm G hG
    by_cases hc : mg_A px py mx my mc j G q ≤ mg_A px py mx my mc j q G
    · have he : mg_A px py mx my mc j G q = mg_A px py mx my mc j q G := by
        rw [Int64.le_iff_toInt_le] at hc
        exact Int64.toInt_inj.1 (by omega)
      obtain ⟨r, h1, h2⟩ := ih (j + 1) (n + 1) (by omega)
      exact ⟨r, fun post hp => br_f hk (nX _ (mg_xC hj24 hG4 hq4 (br_t (c.mpr he) (nm_r (nI_1 n) (nm_r (nI_1 j) (h1 post hp)))))),
        fun post hp => br_f hk (nY _ (mg_yC hB hj24 hq4 hG4 (fun _ => br_t rfl (nm_r (nI_1 n) (nm_r (nI_1 j) (h2 post hp)))) (fun z => absurd hc z)))⟩
    · have he : ¬ mg_A px py mx my mc j G q = mg_A px py mx my mc j q G := by
        intro z
        rw [z] at hc
        exact hc (Int64.le_iff_toInt_le.mpr (Int.le_refl _))
      obtain ⟨r, h1, h2⟩ := ih (j + 1) n (by omega)
      exact ⟨r, fun post hp => br_f hk (nX _ (mg_xC hj24 hG4 hq4 (br_f (fun z => he (c.mp z)) (nm_r (nI_1 j) (h1 post hp))))),
        fun post hp => br_f hk (nY _ (mg_yC hB hj24 hq4 hG4 (fun z => absurd z hc) (fun _ => br_f (by decide) (nm_r (nI_1 j) (h2 post hp)))))⟩
theorem mg_ub {f : Nat → Int32} (h : ∀ i, -50 ≤ (f i).toInt ∧ (f i).toInt ≤ 50) (j : Nat) {x : Int32} (hx : -50 ≤ x.toInt ∧ x.toInt ≤ 50) : ∀ i, -50 ≤ (upd f j x i).toInt ∧ (upd f j x i).toInt ≤ 50 := by
  intro i
  by_cases e : i = j
  · subst e; rw [mg_us]; exact hx
  · rw [mg_un e]; exact h i
theorem mg_dl {P K : Nat} (hP : P ≤ 23) (hK : 1 ≤ K ∧ K ≤ 4) (gr mx my mc : Nat → Int32) {sx sy : Nat → Int32} (hsx : ∀ i, -50 ≤ (sx i).toInt ∧ (sx i).toInt ≤ 50) (hsy : ∀ i, -50 ≤ (sy i).toInt ∧ (sy i).toInt ≤ 50) :
    ∀ (d j : Nat) (px py : Nat → Int32), j + d = P → (∀ i, -50 ≤ (px i).toInt ∧ (px i).toInt ≤ 50) → (∀ i, -50 ≤ (py i).toInt ∧ (py i).toInt ≤ 50) →
    ∃ px' py' gr' mx' my' mc' : Nat → Int32, mg_Inv P K px' py' gr' sx sy mx' my' mc' ∧
      (∀ post : Int32 → SX → Prop, post (nI P) (nI P, nI K, px', py', gr', sx, sy, mx', my', mc') → wX_drop_14 post (nI (P + 1)) (nI K) (d + 1) (nI (j + 1)) px py gr sx sy mx my mc) ∧
      (∀ post : Int32 → SY → Prop, post (nI P) (nI P, nI K, px', py', gr', sx, sy, mx', my', mc') → wY_drop_26 post (nI P) (nI K) (d + 1) (nI j) px py gr sx sy mx my mc) := by
  intro d
  induction d with
  | zero =>
    intro j px py hj hx hy
    have hk : nI (P + 1) ≤ nI (j + 1) := nI_le (by omega) (by omega)
    have hk' : nI P ≤ nI j := nI_le (by omega) (by omega)
    obtain ⟨gr', mx', my', mc', hI, h1, h2⟩ := mg_ro (by omega : P ≤ 24) hK hx hy hsx hsy gr mx my mc
    exact ⟨px, py, gr', mx', my', mc', hI, fun post hp => br_t hk (nm_r (nI_pred P) (h1 _ hp)), fun post hp => br_t hk' (h2 _ hp)⟩
  | succ d ih =>
    intro j px py hj hx hy
    have hk : ¬ nI (P + 1) ≤ nI (j + 1) := nI_ge (by omega) (by omega)
    have hk' : ¬ nI P ≤ nI j := nI_ge (by omega) (by omega)
    have v0 : vp_in (nI j) 24 := vp_in_nI (by omega) (by decide)
    have v1 : vp_in (nI (j + 1)) 24 := vp_in_nI (by omega) (by decide)
    have e0 : (nI j).toNatClampNeg = j := nI_clamp (by omega)
    have e1 : (nI (j + 1)).toNatClampNeg = j + 1 := nI_clamp (by omega)
    have w0 : vp_in (nI (j + 1) - 1) 24 := by rw [nI_pred]; exact v0
    have w1 : vp_in (nI j + 1) 24 := by rw [nI_1]; exact v1
    obtain ⟨px', py', gr', mx', my', mc', hI, h1, h2⟩ := ih (j + 1) (upd px j (px (j + 1))) (upd py j (py (j + 1))) (by omega) (mg_ub hx j (hx (j + 1))) (mg_ub hy j (hy (j + 1)))
    exact ⟨px', py', gr', mx', my', mc', hI,
      fun post hp => br_f hk ⟨v1, w0, nm_r (by rw [nI_pred, e0, e1]) ⟨v1, w0, nm_r (by rw [nI_pred, e0, e1]) (nm_r (nI_1 (j + 1)) (h1 post hp))⟩⟩,
      fun post hp => br_f hk' ⟨w1, v0, nm_r (by rw [nI_1, e0, e1]) ⟨w1, v0, nm_r (by rw [nI_1, e0, e1]) (nm_r (nI_1 j) (h2 post hp))⟩⟩⟩
/-- a coordinate, or not -/
def mg_ok (v : Int32) : Prop := ¬ v < -50 ∧ ¬ 50 < v
theorem mg_okb {v : Int32} (h : mg_ok v) : -50 ≤ v.toInt ∧ v.toInt ≤ 50 := by
  obtain ⟨a, b⟩ := h
  rw [Int32.lt_iff_toInt_lt] at a b
  have e1 : (-50 : Int32).toInt = -50 := by decide
  have e2 : (50 : Int32).toInt = 50 := by decide
  rw [e1] at a
  rw [e2] at b
  omega
theorem mg_oX {v : Int32} (h : mg_ok v) {post : Int32 → Prop} (hp : post 1) : wpX_isCoordinate post v := br_f h.1 (br_f h.2 hp)
theorem mg_oY {v : Int32} (h : mg_ok v) {post : Int32 → Prop} (hp : post 0) : wpY_bad post v := br_f h.1 (br_t (Int32.not_lt.mp h.2) hp)
theorem mg_bX {v : Int32} (h : ¬ mg_ok v) {post : Int32 → Prop} (hp : post 0) : wpX_isCoordinate post v := by
  refine br_c (fun _ => hp) (fun h1 => br_c (fun _ => hp) (fun h2 => absurd ⟨h1, h2⟩ h))
theorem mg_bY {v : Int32} (h : ¬ mg_ok v) {post : Int32 → Prop} (hp : post 1) : wpY_bad post v := by
  refine br_c (fun _ => hp) (fun h1 => br_c (fun h2 => absurd ⟨h1, Int32.not_lt.mpr h2⟩ h) (fun _ => hp))
theorem mg_pX1 {P N : Nat} {k : Int32} {px py gr sx sy mx my mc : Nat → Int32} (hP : P ≤ 24) (hN : N < P) {post : Int32 → Prop} (hp : post 1) : wpX_isPoint post (nI P, k, px, py, gr, sx, sy, mx, my, mc) (nI N) :=
  br_f (nI_pos (by omega)) (br_f (nI_ge hN (by omega)) hp)
theorem mg_pX0 {P N : Nat} {k : Int32} {px py gr sx sy mx my mc : Nat → Int32} (hN : P ≤ N) (hN' : N < 2 ^ 31) {post : Int32 → Prop} (hp : post 0) : wpX_isPoint post (nI P, k, px, py, gr, sx, sy, mx, my, mc) (nI N) :=
  br_f (nI_pos hN') (br_t (nI_le hN hN') hp)
theorem mg_pXm {p k : Int32} {px py gr sx sy mx my mc : Nat → Int32} {v : Int32} (hv : v < 0) {post : Int32 → Prop} (hp : post 0) : wpX_isPoint post (p, k, px, py, gr, sx, sy, mx, my, mc) v :=
  br_t hv hp
theorem mg_gX1 {K N : Nat} {p : Int32} {px py gr sx sy mx my mc : Nat → Int32} (hK : K ≤ 4) (hN : N < K) {post : Int32 → Prop} (hp : post 1) : wpX_isGroup post (p, nI K, px, py, gr, sx, sy, mx, my, mc) (nI N) :=
  br_f (nI_pos (by omega)) (br_f (nI_ge hN (by omega)) hp)
theorem mg_gX0 {K N : Nat} {p : Int32} {px py gr sx sy mx my mc : Nat → Int32} (hN : K ≤ N) (hN' : N < 2 ^ 31) {post : Int32 → Prop} (hp : post 0) : wpX_isGroup post (p, nI K, px, py, gr, sx, sy, mx, my, mc) (nI N) :=
  br_f (nI_pos hN') (br_t (nI_le hN hN') hp)
theorem mg_gXm {p k : Int32} {px py gr sx sy mx my mc : Nat → Int32} {v : Int32} (hv : v < 0) {post : Int32 → Prop} (hp : post 0) : wpX_isGroup post (p, k, px, py, gr, sx, sy, mx, my, mc) v :=
  br_t hv hp
/-- no point is in a group that is not below K -/
theorem mg_none {P K G : Nat} {gr : Nat → Int32} (hP : P ≤ 24) (hK : K ≤ 4) (hg : ∀ i, i < 24 → gr i = -1 ∨ ∃ q, q < K ∧ gr i = nI q) (hG : K ≤ G) (hG' : G < 2 ^ 31) : ∀ i, i < P → ¬ gr i = nI G := by
  intro i hi e
  rcases hg i (by omega) with h | ⟨q, hq, h⟩
  · have z := nI_pos (n := G) hG'
    rw [← e, h] at z
    exact z (by decide)
  · rw [h] at e
    have := (nI_eq (by omega) hG').mp e
    omega
end MGF
end
section
section MGG
/-! G: what is owed -/
def i_Rel (_ : Nat) (u : SX) (v : SY) : Prop :=
  ∃ (P K : Nat) (px py gr sx sy mx my mc : Nat → Int32), u = (nI P, nI K, px, py, gr, sx, sy, mx, my, mc) ∧ v = (nI P, nI K, px, py, gr, sx, sy, mx, my, mc) ∧ mg_Inv P K px py gr sx sy mx my mc
theorem i_up {k : Nat} {u : SX} {v : SY} (h : i_Rel k u v) : i_Rel (k + 4) u v := h
theorem mg_R {k P K : Nat} {px py gr sx sy mx my mc : Nat → Int32} (h : mg_Inv P K px py gr sx sy mx my mc) :
    i_Rel k (nI P, nI K, px, py, gr, sx, sy, mx, my, mc) (nI P, nI K, px, py, gr, sx, sy, mx, my, mc) := ⟨P, K, px, py, gr, sx, sy, mx, my, mc, rfl, rfl, h⟩
theorem i_vc0 : wpX_init (fun u => wpY_init (fun v => i_Rel 0 u v)) := by
  have z : ∀ i : Nat, -50 ≤ ((fun _ => 0 : Nat → Int32) i).toInt ∧ ((fun _ => 0 : Nat → Int32) i).toInt ≤ 50 := fun _ => (by decide : -50 ≤ (0 : Int32).toInt ∧ (0 : Int32).toInt ≤ 50)
  obtain ⟨gr, mx, my, mc, hI, hX, hY⟩ := mg_ro (P := 0) (K := 2) (by decide) (by decide) z z z z (fun _ => 0) (fun _ => 0) (fun _ => 0) (fun _ => 0)
  unfold wpX_init wpY_init
  exact hX _ (hY _ (mg_R hI))
theorem i_vc_add {k : Nat} {u : SX} {v : SY} (I : i_Rel k u v) (hk : k + 4 ≤ 2048) (v1 : Int32) (v2 : Int32) : wpX_add (fun r u' => wpY_add (fun r' v' => r' = r ∧ i_Rel (k + 4) u' v') v v1 v2) u v1 v2 := by
  obtain ⟨P, K, px, py, gr, sx, sy, mx, my, mc, rfl, rfl, hI⟩ := I
  unfold wpX_add wpY_add
  dsimp only
  by_cases h1 : mg_ok v1
  · by_cases h2 : mg_ok v2
    · by_cases hP : P < 24
      · have hl : nI P < 24 := nI_lt (b := 24) hP (by decide)
        have hn : ¬ nI P = 24 := fun z => by
          have := (nI_eq (b := 24) (by omega) (by decide)).mp z
          omega
        have vi : vp_in (nI P) 24 := vp_in_nI hP (by decide)
        have e : (nI P).toNatClampNeg = P := nI_clamp (by omega)
        obtain ⟨_, hK1, hK4, hB, hsx, hsy, hg⟩ := hI
        obtain ⟨gr', mx', my', mc', hJ, hX, hY⟩ := mg_ro (P := P + 1) (by omega) ⟨hK1, hK4⟩ (mg_ub hB.1 P (mg_okb h1)) (mg_ub hB.2.1 P (mg_okb h2)) hsx hsy gr mx my mc
        exact mg_oX h1 (br_f (by decide) (mg_oX h2 (br_f (by decide) (br_t hl ⟨vi, nm_r (by rw [e]) ⟨vi, nm_r (by rw [e]) (nm_r (nI_1 P) (hX _
          (mg_oY h1 (br_t rfl (mg_oY h2 (br_t rfl (br_f hn ⟨vi, nm_r (by rw [e]) ⟨vi, nm_r (by rw [e]) (nm_r (nI_1 P) (hY _ ⟨rfl, mg_R hJ⟩))⟩⟩)))))))⟩⟩))))
      · have e : P = 24 := by have := hI.1; omega
        subst e
        have hl : ¬ nI 24 < 24 := nI_nlt (a := 24) (b := 24) (by decide) (by decide)
        have hn : nI 24 = 24 := rfl
        exact mg_oX h1 (br_f (by decide) (mg_oX h2 (br_f (by decide) (br_f hl (mg_oY h1 (br_t rfl (mg_oY h2 (br_t rfl (br_t hn ⟨rfl, mg_R hI⟩)))))))))
    · exact mg_oX h1 (br_f (by decide) (mg_bX h2 (br_t rfl (mg_oY h1 (br_t rfl (mg_bY h2 (br_f (by decide) ⟨rfl, mg_R hI⟩)))))))
  · exact mg_bX h1 (br_t rfl (mg_bY h1 (br_f (by decide) ⟨rfl, mg_R hI⟩)))
theorem i_vc_drop {k : Nat} {u : SX} {v : SY} (I : i_Rel k u v) (hk : k + 4 ≤ 2048) (v1 : Int32) : wpX_drop (fun r u' => wpY_drop (fun r' v' => r' = r ∧ i_Rel (k + 4) u' v') v v1) u v1 := by
  obtain ⟨P, K, px, py, gr, sx, sy, mx, my, mc, rfl, rfl, hI⟩ := I
  unfold wpX_drop wpY_drop
  dsimp only
  rcases mg_ix v1 P with h | ⟨N, hN, hN', rfl⟩ | ⟨N, hN, rfl⟩
  · exact mg_pXm h (br_t rfl (br_t h ⟨rfl, mg_R hI⟩))
  · exact mg_pX0 hN hN' (br_t rfl (br_f (nI_pos hN') (br_f (nI_nlt hN hN') ⟨rfl, mg_R hI⟩)))
  · obtain ⟨hP, hK1, hK4, hB, hsx, hsy, hg⟩ := hI
    obtain ⟨Q, rfl⟩ : ∃ Q, P = Q + 1 := ⟨P - 1, by omega⟩
    obtain ⟨px', py', gr', mx', my', mc', hJ, hX, hY⟩ := mg_dl (P := Q) (by omega) ⟨hK1, hK4⟩ gr mx my mc hsx hsy (Q - N) N px py (by omega) hB.1 hB.2.1
    exact mg_pX1 hP hN (br_f (by decide) (nm_r (nI_1 N) ⟨_, hX _ (br_f (nI_pos (by omega)) (br_t (nI_lt hN (by omega)) (nm_r (nI_pred Q) ⟨_, hY _ ⟨rfl, mg_R hJ⟩⟩)))⟩))
theorem i_vc_seed {k : Nat} {u : SX} {v : SY} (I : i_Rel k u v) (hk : k + 4 ≤ 2048) (v1 : Int32) (v2 : Int32) (v3 : Int32) : wpX_seed (fun r u' => wpY_seed (fun r' v' => r' = r ∧ i_Rel (k + 4) u' v') v v1 v2 v3) u v1 v2 v3 := by
  obtain ⟨P, K, px, py, gr, sx, sy, mx, my, mc, rfl, rfl, hI⟩ := I
  unfold wpX_seed wpY_seed
  dsimp only
  rcases mg_ix v1 4 with h | ⟨N, hN, hN', rfl⟩ | ⟨N, hN, rfl⟩
  · exact br_t h (br_t h ⟨rfl, mg_R hI⟩)
  · exact br_f (nI_pos hN') (br_t (nI_le (a := 4) hN hN') (br_f (nI_pos hN') (br_t (nI_lt (a := 3) hN hN') ⟨rfl, mg_R hI⟩)))
  · have h0 : ¬ nI N < 0 := nI_pos (by omega)
    have h4 : ¬ (4 : Int32) ≤ nI N := nI_ge (b := 4) hN (by decide)
    have h3 : ¬ (3 : Int32) < nI N := nI_nlt (a := 3) (by omega) (by decide)
    by_cases h1 : mg_ok v2
    · by_cases h2 : mg_ok v3
      · have vi : vp_in (nI N) 4 := vp_in_nI hN (by decide)
        have e : (nI N).toNatClampNeg = N := nI_clamp (by omega)
        obtain ⟨hP, hK1, hK4, hB, hsx, hsy, hg⟩ := hI
        obtain ⟨gr', mx', my', mc', hJ, hX, hY⟩ := mg_ro hP ⟨hK1, hK4⟩ hB.1 hB.2.1 (mg_ub hsx N (mg_okb h1)) (mg_ub hsy N (mg_okb h2)) gr mx my mc
        exact br_f h0 (br_f h4 (mg_oX h1 (br_f (by decide) (mg_oX h2 (br_f (by decide) ⟨vi, nm_r (by rw [e]) ⟨vi, nm_r (by rw [e]) (hX _
          (br_f h0 (br_f h3 (mg_oY h1 (br_t rfl (mg_oY h2 (br_t rfl ⟨vi, nm_r (by rw [e]) ⟨vi, nm_r (by rw [e]) (hY _ ⟨rfl, mg_R hJ⟩)⟩⟩)))))))⟩⟩)))))
      · exact br_f h0 (br_f h4 (mg_oX h1 (br_f (by decide) (mg_bX h2 (br_t rfl (br_f h0 (br_f h3 (mg_oY h1 (br_t rfl (mg_bY h2 (br_f (by decide) ⟨rfl, mg_R hI⟩)))))))))))
    · exact br_f h0 (br_f h4 (mg_bX h1 (br_t rfl (br_f h0 (br_f h3 (mg_bY h1 (br_f (by decide) ⟨rfl, mg_R hI⟩)))))))
theorem i_vc_groups {k : Nat} {u : SX} {v : SY} (I : i_Rel k u v) (hk : k + 4 ≤ 2048) (v1 : Int32) : wpX_groups (fun u' => wpY_groups (fun v' => i_Rel (k + 4) u' v') v v1) u v1 := by
  obtain ⟨P, K, px, py, gr, sx, sy, mx, my, mc, rfl, rfl, hI⟩ := I
  obtain ⟨hP, hK1, hK4, hB, hsx, hsy, hg⟩ := hI
  unfold wpX_groups wpY_groups
  dsimp only
  by_cases h1 : 1 ≤ v1
  · by_cases h4 : v1 ≤ 4
    · obtain ⟨N, hN, rfl⟩ := nI_of2 (M := 4) (n := 4) (by decide) (Int32.not_lt.mpr (Int32.le_trans (by decide) h1)) h4
      have hN1 : 1 ≤ N := (nI_leI (a := 1) (by decide) (by omega)).mp h1
      obtain ⟨gr', mx', my', mc', hJ, hX, hY⟩ := mg_ro (K := N) hP ⟨hN1, hN⟩ hB.1 hB.2.1 hsx hsy gr mx my mc
      exact br_t h1 (br_t h4 (hX _ (br_t h1 (br_t h4 (hY _ (mg_R hJ))))))
    · obtain ⟨gr', mx', my', mc', hJ, hX, hY⟩ := mg_ro (K := 4) hP (by decide) hB.1 hB.2.1 hsx hsy gr mx my mc
      exact br_t h1 (br_f h4 (hX _ (br_t h1 (br_f h4 (hY _ (mg_R hJ))))))
  · obtain ⟨gr', mx', my', mc', hJ, hX, hY⟩ := mg_ro (K := 1) hP (by decide) hB.1 hB.2.1 hsx hsy gr mx my mc
    exact br_f h1 (hX _ (br_f h1 (hY _ (mg_R hJ))))
theorem i_vc_reset {k : Nat} {u : SX} {v : SY} (I : i_Rel k u v) (hk : k + 4 ≤ 2048) : wpX_reset (fun u' => wpY_reset (fun v' => i_Rel (k + 4) u' v') v) u := by
  obtain ⟨P, K, px, py, gr, sx, sy, mx, my, mc, rfl, rfl, hI⟩ := I
  obtain ⟨hP, hK1, hK4, hB, hsx, hsy, hg⟩ := hI
  obtain ⟨gr', mx', my', mc', hJ, hX, hY⟩ := mg_ro hP ⟨hK1, hK4⟩ hB.1 hB.2.1 hsx hsy gr mx my mc
  unfold wpX_reset
  dsimp only
  exact hX _ (hY _ (mg_R hJ))
theorem i_vc_round {k : Nat} {u : SX} {v : SY} (I : i_Rel k u v) (hk : k + 4 ≤ 2048) : wpX_round (fun r u' => wpY_round (fun r' v' => r' = r ∧ i_Rel (k + 4) u' v') v) u := by
  obtain ⟨P, K, px, py, gr, sx, sy, mx, my, mc, rfl, rfl, hI⟩ := I
  obtain ⟨r, gr', mx', my', mc', _, hJ, hX, hY⟩ := mg_rd hI
  unfold wpX_round
  dsimp only
  exact hX _ (hY _ ⟨rfl, mg_R hJ⟩)
theorem i_vc_settle {k : Nat} {u : SX} {v : SY} (I : i_Rel k u v) (hk : k + 4 ≤ 2048) : wpX_settle (fun r u' => wpY_settle (fun r' v' => r' = r ∧ i_Rel (k + 4) u' v') v) u := by
  obtain ⟨P, K, px, py, gr, sx, sy, mx, my, mc, rfl, rfl, hI⟩ := I
  obtain ⟨hP, hK1, hK4, hB, hsx, hsy, hg⟩ := hI
  obtain ⟨gr', mx', my', mc', hJ, hX, hY⟩ := mg_ro hP ⟨hK1, hK4⟩ hB.1 hB.2.1 hsx hsy gr mx my mc
  obtain ⟨r, gs, ms, ns, cs, hL, sX, sY⟩ := mg_se 40 0 1 gr' mx' my' mc' rfl (by decide) (by decide) hJ
  unfold wpX_settle wpY_settle
  dsimp only
  exact hX _ ⟨_, sX _ (hY _ ⟨_, sY _ ⟨rfl, mg_R hL⟩⟩)⟩
theorem i_vc_group {k : Nat} {u : SX} {v : SY} (I : i_Rel k u v) (hk : k + 4 ≤ 2048) (v1 : Int32) : wpX_group (fun r => wpY_group (fun r' => r' = r ∧ i_Rel (k + 4) u v) v v1) u v1 := by
  obtain ⟨P, K, px, py, gr, sx, sy, mx, my, mc, rfl, rfl, hI⟩ := I
  unfold wpX_group wpY_group
  dsimp only
  rcases mg_ix v1 P with h | ⟨N, hN, hN', rfl⟩ | ⟨N, hN, rfl⟩
  · exact mg_pXm h (br_t rfl (br_t h ⟨rfl, mg_R hI⟩))
  · exact mg_pX0 hN hN' (br_t rfl (br_f (nI_pos hN') (br_f (nI_nlt hN hN') ⟨rfl, mg_R hI⟩)))
  · have hP := hI.1
    have vi : vp_in (nI N) 24 := vp_in_nI (by omega) (by decide)
    exact mg_pX1 hP hN (br_f (by decide) ⟨vi, br_f (nI_pos (by omega)) (br_t (nI_lt hN (by omega)) ⟨vi, rfl, mg_R hI⟩)⟩)
theorem i_vc_size {k : Nat} {u : SX} {v : SY} (I : i_Rel k u v) (hk : k + 4 ≤ 2048) (v1 : Int32) : wpX_size (fun r => wpY_size (fun r' => r' = r ∧ i_Rel (k + 4) u v) v v1) u v1 := by
  obtain ⟨P, K, px, py, gr, sx, sy, mx, my, mc, rfl, rfl, hI⟩ := I
  have R := mg_R (k := k + 4) hI
  obtain ⟨hP, hK1, hK4, hB, hsx, hsy, hg⟩ := hI
  obtain ⟨r, h1, h2, hX, hY⟩ := mg_cnt (nI K) hP px py gr sx sy mx my mc v1
  unfold wpX_size
  dsimp only
  rcases mg_ix v1 K with h | ⟨N, hN, hN', rfl⟩ | ⟨N, hN, rfl⟩
  · exact mg_gXm h (br_t rfl ⟨_, mg_cn (nI K) hP px py gr sx sy mx my mc h ⟨rfl, R⟩ P 0 (by omega)⟩)
  · have e := h2 (mg_none hP hK4 hg hN hN')
    subst e
    exact mg_gX0 hN hN' (br_t rfl (hY (nI_pos hN') _ ⟨rfl, R⟩))
  · exact mg_gX1 hK4 hN (br_f (by decide) (hX _ (hY (nI_pos (by omega)) _ ⟨rfl, R⟩)))
theorem i_vc_sum {k : Nat} {u : SX} {v : SY} (I : i_Rel k u v) (hk : k + 4 ≤ 2048) (v1 : Int32) (v2 : Int32) : wpX_sum (fun r => wpY_sum (fun r' => r' = r ∧ i_Rel (k + 4) u v) v v1 v2) u v1 v2 := by
  obtain ⟨P, K, px, py, gr, sx, sy, mx, my, mc, rfl, rfl, hI⟩ := I
  have R := mg_R (k := k + 4) hI
  obtain ⟨hP, hK1, hK4, hB, hsx, hsy, hg⟩ := hI
  obtain ⟨r, h1, h2, hX, hY⟩ := mg_sum (nI K) hP gr sx sy mx my mc hB.1 hB.2.1 v1 v2
  unfold wpX_sum
  dsimp only
  rcases mg_ix v1 K with h | ⟨N, hN, hN', rfl⟩ | ⟨N, hN, rfl⟩
  · exact mg_gXm h (br_t rfl ⟨_, mg_sn (nI K) hP px py gr sx sy mx my mc v2 h ⟨rfl, R⟩ P 0 (by omega)⟩)
  · have e := h2 (mg_none hP hK4 hg hN hN')
    subst e
    exact mg_gX0 hN hN' (br_t rfl (hY (nI_pos hN') _ ⟨rfl, R⟩))
  · exact mg_gX1 hK4 hN (br_f (by decide) (hX _ (hY (nI_pos (by omega)) _ ⟨rfl, R⟩)))
theorem i_vc_near {k : Nat} {u : SX} {v : SY} (I : i_Rel k u v) (hk : k + 4 ≤ 2048) (v1 : Int32) : wpX_near (fun r => wpY_near (fun r' => r' = r ∧ i_Rel (k + 4) u v) v v1) u v1 := by
  obtain ⟨P, K, px, py, gr, sx, sy, mx, my, mc, rfl, rfl, hI⟩ := I
  have R := mg_R (k := k + 4) hI
  obtain ⟨hP, hK1, hK4, hB, hsx, hsy, hg⟩ := hI
  unfold wpX_near wpY_near
  dsimp only
  rcases mg_ix v1 K with h | ⟨N, hN, hN', rfl⟩ | ⟨N, hN, rfl⟩
  · exact mg_gXm h (br_t rfl (br_t h ⟨rfl, R⟩))
  · exact mg_gX0 hN hN' (br_t rfl (br_f (nI_pos hN') (br_f (nI_nlt hN hN') ⟨rfl, R⟩)))
  · obtain ⟨r, hX, hY⟩ := mg_nrl hP ⟨hK1, hK4⟩ hN hB gr sx sy P 0 0 (by omega)
    exact mg_gX1 hK4 hN (br_f (by decide) ⟨_, hX _ (br_f (nI_pos (by omega)) (br_t (nI_lt hN (by omega)) ⟨_, hY _ ⟨rfl, R⟩⟩))⟩)
end MGG
end
