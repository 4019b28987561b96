section MGB
/-! B: going back to the seeds -/
theorem mg_so46 (p k : Int32) (px py sx sy mx my mc : Nat → Int32) : ∀ (d j : Nat) (gr : Nat → Int32), j + d = 24 → (∀ i, i < j → gr i = -1) →
    ∃ gr' : Nat → Int32, (∀ i, i < 24 → gr' i = -1) ∧
      (∀ post : SX → Prop, post (p, k, px, py, gr', sx, sy, mx, my, mc) → wX_startOver_46 post p k (d + 1) (nI j) px py gr sx sy mx my mc) ∧
      (∀ post : SY → Prop, post (p, k, px, py, gr', sx, sy, mx, my, mc) → wY_reset_46 post p k (d + 1) (nI j) px py gr sx sy mx my mc) := by
  intro d
  induction d with
  | zero =>
    intro j gr hj h
    have h24 : (24 : Int32) ≤ nI j := nI_le (a := 24) (by omega) (by omega)
    exact ⟨gr, fun i hi => h i (by omega), fun post hp => br_t h24 hp, fun post hp => br_t h24 hp⟩
  | succ d ih =>
    intro j gr hj h
    have h24 : ¬ (24 : Int32) ≤ nI j := nI_ge (b := 24) (by omega) (by decide)
    have hi : vp_in (nI j) 24 := vp_in_nI (by omega) (by decide)
    have e : (nI j).toNatClampNeg = j := nI_clamp (by omega)
    obtain ⟨gr', h1, h2, h3⟩ := ih (j + 1) (upd gr j (-1)) (by omega) (by
      intro i hi
      by_cases e : i = j
      · subst e; exact mg_us
      · rw [mg_un e]; exact h i (by omega))
    refine ⟨gr', h1, fun post hp => br_f h24 ⟨hi, nm_r (by rw [e]) (nm_r (nI_1 j) (h2 post hp))⟩, fun post hp => br_f h24 ⟨hi, nm_r (by rw [e]) (nm_r (nI_1 j) (h3 post hp))⟩⟩
theorem mg_so2 (p k : Int32) (px py gr sx sy : Nat → Int32) : ∀ (d j : Nat) (mx my mc : Nat → Int32), j + d = 4 → (∀ i, i < j → mx i = sx i ∧ my i = sy i ∧ mc i = 1) →
    ∃ gr' mx' my' mc' : Nat → Int32, (∀ i, i < 24 → gr' i = -1) ∧ (∀ i, i < 4 → mx' i = sx i ∧ my' i = sy i ∧ mc' i = 1) ∧
      (∀ post : SX → Prop, post (p, k, px, py, gr', sx, sy, mx', my', mc') → wX_startOver_2 post p k (d + 1) (nI j) px py gr sx sy mx my mc) ∧
      (∀ post : SY → Prop, post (p, k, px, py, gr', sx, sy, mx', my', mc') → wY_reset_2 post p k (d + 1) (nI j) px py gr sx sy mx my mc) := by
  intro d
  induction d with
  | zero =>
    intro j mx my mc hj h
    have h4 : (4 : Int32) ≤ nI j := nI_le (a := 4) (by omega) (by omega)
    obtain ⟨gr', h1, h2, h3⟩ := mg_so46 p k px py sx sy mx my mc 24 0 gr rfl (fun i hi => absurd hi (Nat.not_lt_zero i))
    exact ⟨gr', mx, my, mc, h1, fun i hi => h i (by omega), fun post hp => br_t h4 ⟨25, h2 post hp⟩, fun post hp => br_t h4 ⟨25, h3 post hp⟩⟩
  | succ d ih =>
    intro j mx my mc hj h
    have h4 : ¬ (4 : Int32) ≤ nI j := nI_ge (b := 4) (by omega) (by decide)
    have hi : vp_in (nI j) 4 := vp_in_nI (by omega) (by decide)
    have e : (nI j).toNatClampNeg = j := nI_clamp (by omega)
    obtain ⟨gr', mx', my', mc', h0, h1, h2, h3⟩ := ih (j + 1) (upd mx j (sx j)) (upd my j (sy j)) (upd mc j 1) (by omega) (by
      intro i hi
      by_cases e : i = j
      · subst e; exact ⟨mg_us, mg_us, mg_us⟩
      · rw [mg_un e, mg_un e, mg_un e]; exact h i (by omega))
    refine ⟨gr', mx', my', mc', h0, h1, fun post hp => br_f h4 ⟨hi, hi, nm_r (by rw [e]) ⟨hi, hi, nm_r (by rw [e]) ⟨hi, nm_r (by rw [e]) (nm_r (nI_1 j) (h2 post hp))⟩⟩⟩, fun post hp => br_f h4 ⟨hi, hi, nm_r (by rw [e]) ⟨hi, hi, nm_r (by rw [e]) ⟨hi, nm_r (by rw [e]) (nm_r (nI_1 j) (h3 post hp))⟩⟩⟩⟩
/-- what both states keep to -/
def mg_Inv (P K : Nat) (px py gr sx sy mx my mc : Nat → Int32) : Prop :=
  P ≤ 24 ∧ 1 ≤ K ∧ K ≤ 4 ∧ mg_B px py mx my mc ∧ (∀ i, -50 ≤ (sx i).toInt ∧ (sx i).toInt ≤ 50) ∧ (∀ i, -50 ≤ (sy i).toInt ∧ (sy i).toInt ≤ 50) ∧
  (∀ i, i < 24 → gr i = -1 ∨ ∃ q, q < K ∧ gr i = nI q)
theorem mg_ro {P K : Nat} {px py sx sy : Nat → Int32} (hP : P ≤ 24) (hK : 1 ≤ K ∧ K ≤ 4) (hx : ∀ i, -50 ≤ (px i).toInt ∧ (px i).toInt ≤ 50) (hy : ∀ i, -50 ≤ (py i).toInt ∧ (py i).toInt ≤ 50)
    (hsx : ∀ i, -50 ≤ (sx i).toInt ∧ (sx i).toInt ≤ 50) (hsy : ∀ i, -50 ≤ (sy i).toInt ∧ (sy i).toInt ≤ 50) (gr mx my mc : Nat → Int32) :
    ∃ gr' mx' my' mc' : Nat → Int32, mg_Inv P K px py gr' sx sy mx' my' mc' ∧
      (∀ post : SX → Prop, post (nI P, nI K, px, py, gr', sx, sy, mx', my', mc') → wpX_startOver post (nI P, nI K, px, py, gr, sx, sy, mx, my, mc)) ∧
      (∀ post : SY → Prop, post (nI P, nI K, px, py, gr', sx, sy, mx', my', mc') → wpY_reset post (nI P, nI K, px, py, gr, sx, sy, mx, my, mc)) := by
  obtain ⟨gr', mx', my', mc', h0, h1, h2, h3⟩ := mg_so2 (nI P) (nI K) px py gr sx sy 4 0 mx my mc rfl (fun i hi => absurd hi (Nat.not_lt_zero i))
  have one : (1 : Int32).toInt = 1 := by decide
  refine ⟨gr', mx', my', mc', ⟨hP, hK.1, hK.2, ⟨hx, hy, ?_, ?_, ?_⟩, hsx, hsy, fun i hi => Or.inl (h0 i hi)⟩, fun post hp => ⟨5, h2 post hp⟩, fun post hp => ⟨5, h3 post hp⟩⟩
  · intro g hg
    rw [(h1 g hg).1]
    have := hsx g
    omega
  · intro g hg
    rw [(h1 g hg).2.1]
    have := hsy g
    omega
  · intro g hg
    rw [(h1 g hg).2.2, one]
    omega
end MGB
