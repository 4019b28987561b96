section MGC
/-! C: distances, and the nearest middle -/
theorem mg_xF {p k : Int32} {px py gr sx sy mx my mc : Nat → Int32} {i g : Nat} (hi : i < 24) (hg : g < 4) {post : Int64 → Prop} (hp : post (mg_F px py mx my mc i g)) :
    wpX_scaledDistance post (p, k, px, py, gr, sx, sy, mx, my, mc) (nI i) (nI g) := by
  have vi : vp_in (nI i) 24 := vp_in_nI hi (by decide)
  have vg : vp_in (nI g) 4 := vp_in_nI hg (by decide)
  unfold wpX_scaledDistance
  dsimp only
  rw [nI_clamp (n := i) (by omega), nI_clamp (n := g) (by omega)]
  exact ⟨vg, nm_e ⟨vi, vg, nm_e ⟨vi, vg, nm_e hp⟩⟩⟩
theorem mg_yF {p k : Int32} {px py gr sx sy mx my mc : Nat → Int32} (hB : mg_B px py mx my mc) {i g : Nat} (hi : i < 24) (hg : g < 4) {post : Int64 → Prop} (hp : post (mg_F px py mx my mc i g)) :
    wpY_far post (p, k, px, py, gr, sx, sy, mx, my, mc) (nI i) (nI g) := by
  have vi : vp_in (nI i) 24 := vp_in_nI hi (by decide)
  have vg : vp_in (nI g) 4 := vp_in_nI hg (by decide)
  unfold wpY_far
  dsimp only
  rw [nI_clamp (n := i) (by omega), nI_clamp (n := g) (by omega)]
  exact ⟨vi, vg, vg, nm_r (mg_d (hB.1 i) (hB.2.2.2.2 g hg) (hB.2.2.1 g hg)).1 ⟨vi, vg, vg, nm_r (mg_d (hB.2.1 i) (hB.2.2.2.2 g hg) (hB.2.2.2.1 g hg)).1 hp⟩⟩
theorem mg_xC {p k : Int32} {px py gr sx sy mx my mc : Nat → Int32} {i g h : Nat} (hi : i < 24) (hg : g < 4) (hh : h < 4) {post : Int64 → Prop}
    (hp : post (mg_A px py mx my mc i g h - mg_A px py mx my mc i h g)) :
    wpX_compareDistances post (p, k, px, py, gr, sx, sy, mx, my, mc) (nI i) (nI g) (nI h) := by
  have vg : vp_in (nI g) 4 := vp_in_nI hg (by decide)
  have vh : vp_in (nI h) 4 := vp_in_nI hh (by decide)
  have eg : (nI g).toNatClampNeg = g := nI_clamp (by omega)
  have eh : (nI h).toNatClampNeg = h := nI_clamp (by omega)
  unfold wpX_compareDistances
  dsimp only
  rw [eg, eh]
  exact ⟨vg, nm_e ⟨vh, nm_e (mg_xF hi hg (nm_e (mg_xF hi hh (nm_e hp))))⟩⟩
theorem mg_yC {p k : Int32} {px py gr sx sy mx my mc : Nat → Int32} (hB : mg_B px py mx my mc) {i g h : Nat} (hi : i < 24) (hg : g < 4) (hh : h < 4) {post : Int32 → Prop}
    (h0 : mg_A px py mx my mc i h g ≤ mg_A px py mx my mc i g h → post 0) (h1 : ¬ mg_A px py mx my mc i h g ≤ mg_A px py mx my mc i g h → post 1) :
    wpY_nearer post (p, k, px, py, gr, sx, sy, mx, my, mc) (nI i) (nI g) (nI h) := by
  have vg : vp_in (nI g) 4 := vp_in_nI hg (by decide)
  have vh : vp_in (nI h) 4 := vp_in_nI hh (by decide)
  have eg : (nI g).toNatClampNeg = g := nI_clamp (by omega)
  have eh : (nI h).toNatClampNeg = h := nI_clamp (by omega)
  unfold wpY_nearer
  dsimp only
  rw [eg, eh]
  exact mg_yF hB hi hg ⟨vh, vh, mg_yF hB hi hh ⟨vg, vg, br_c h0 h1⟩⟩
theorem mg_nl (p : Int32) {K : Nat} (hK : K ≤ 4) {px py mx my mc : Nat → Int32} (gr sx sy : Nat → Int32) (hB : mg_B px py mx my mc) {i : Nat} (hi : i < 24) :
    ∀ (d j q : Nat), j + d = K → q < j → (∀ g, g < j → (mg_A px py mx my mc i q g).toInt ≤ (mg_A px py mx my mc i g q).toInt) →
    ∃ r : Nat, r < K ∧ (∀ g, g < K → (mg_A px py mx my mc i r g).toInt ≤ (mg_A px py mx my mc i g r).toInt) ∧
      (∀ post : Int32 → Prop, post (nI r) → wX_nearestGroup_4 post (nI i) p (nI K) px py gr sx sy mx my mc (d + 1) (nI q) (nI j)) ∧
      (∀ post : Int32 → Prop, post (nI r) → wY_nearest_4 post (nI i) p (nI K) px py gr sx sy mx my mc (d + 1) (nI q) (nI j)) := by
  intro d
  induction d with
  | zero =>
    intro j q hj hq h
    have hk : nI K ≤ nI j := nI_le (by omega) (by omega)
    exact ⟨q, by omega, fun g hg => h g (by omega), fun post hp => br_t hk hp, fun post hp => br_t hk hp⟩
  | succ d ih =>
    intro j q hj hq h
    have hk : ¬ nI K ≤ nI j := nI_ge (by omega) (by omega)
    have hj4 : j < 4 := by omega
    have hq4 : q < 4 := by omega
    have c := (mg_cmp (mg_At hB i hj4 hq4).2 (mg_At hB i hq4 hj4).2).1
    by_cases hc : mg_A px py mx my mc i q j ≤ mg_A px py mx my mc i j q
    · obtain ⟨r, h1, h2, h3, h4⟩ := ih (j + 1) q (by omega) (by omega) (by
        intro g hg
        by_cases e : g = j
        · subst e; exact Int64.le_iff_toInt_le.mp hc
        · exact h g (by omega))
      exact ⟨r, h1, h2, fun post hp => br_f hk (mg_xC hi hj4 hq4 (br_t (c.mpr hc) (nm_r (nI_1 j) (h3 post hp)))),
        fun post hp => br_f hk (mg_yC hB hi hj4 hq4 (fun _ => br_t rfl (nm_r (nI_1 j) (h4 post hp))) (fun n => absurd hc n))⟩
    · have hl : (mg_A px py mx my mc i j q).toInt ≤ (mg_A px py mx my mc i q j).toInt := by
        rw [Int64.le_iff_toInt_le] at hc; omega
      obtain ⟨r, h1, h2, h3, h4⟩ := ih (j + 1) j (by omega) (by omega) (by
        intro g hg
        by_cases e : g = j
        · subst e; exact Int.le_refl _
        · exact mg_At3 hB i hj4 hq4 (by omega) hl (h g (by omega)))
      exact ⟨r, h1, h2, fun post hp => br_f hk (mg_xC hi hj4 hq4 (br_f (fun z => hc (c.mp z)) (nm_r (nI_1 j) (h3 post hp)))),
        fun post hp => br_f hk (mg_yC hB hi hj4 hq4 (fun n => absurd n hc) (fun _ => br_f (by decide) (nm_r (nI_1 j) (h4 post hp))))⟩
theorem mg_ne (p : Int32) {K : Nat} (hK : 1 ≤ K ∧ K ≤ 4) {px py mx my mc : Nat → Int32} (gr sx sy : Nat → Int32) (hB : mg_B px py mx my mc) {i : Nat} (hi : i < 24) :
    ∃ r : Nat, r < K ∧ (∀ g, g < K → (mg_A px py mx my mc i r g).toInt ≤ (mg_A px py mx my mc i g r).toInt) ∧
      (∀ post : Int32 → Prop, post (nI r) → wpX_nearestGroup post (p, nI K, px, py, gr, sx, sy, mx, my, mc) (nI i)) ∧
      (∀ post : Int32 → Prop, post (nI r) → wpY_nearest post (p, nI K, px, py, gr, sx, sy, mx, my, mc) (nI i)) := by
  obtain ⟨r, h1, h2, h3, h4⟩ := mg_nl p hK.2 gr sx sy hB hi (K - 1) 1 0 (by omega) (by omega) (by
    intro g hg
    have e : g = 0 := by omega
    subst e; exact Int.le_refl _)
  exact ⟨r, h1, h2, fun post hp => ⟨_, h3 post hp⟩, fun post hp => ⟨_, h4 post hp⟩⟩
end MGC
