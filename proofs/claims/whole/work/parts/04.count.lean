section MGD
/-! D: members, counted and summed -/
theorem mg_cl (k : Int32) {P : Nat} (hP : P ≤ 24) (px py gr sx sy mx my mc : Nat → Int32) (g : Int32) : ∀ (d j n : Nat), j + d = P → n ≤ j →
    ∃ r : Nat, r ≤ P ∧ ((∀ i, j ≤ i → i < P → ¬ gr i = g) → r = n) ∧
      (∀ post : Int32 → Prop, post (nI r) → wX_countMembers_4 post g (nI P) k px py gr sx sy mx my mc (d + 1) (nI n) (nI j)) ∧
      (¬ g < 0 → ∀ post : Int32 → Prop, post (nI r) → wY_size_4 post g (nI P) k px py gr sx sy mx my mc (d + 1) (nI n) (nI j)) := by
  intro d
  induction d with
  | zero =>
    intro j n hj hn
    have hk : nI P ≤ nI j := nI_le (by omega) (by omega)
    exact ⟨n, by omega, fun _ => rfl, fun post hp => br_t hk hp, fun _ post hp => br_t hk hp⟩
  | succ d ih =>
    intro j n hj hn
    have hk : ¬ nI P ≤ nI j := nI_ge (by omega) (by omega)
    have vi : vp_in (nI j) 24 := vp_in_nI (by omega) (by decide)
    have e : (nI j).toNatClampNeg = j := nI_clamp (by omega)
    by_cases hg : gr j = g
    · have hg' : gr (nI j).toNatClampNeg = g := by rw [e]; exact hg
      obtain ⟨r, h1, h2, h3, h4⟩ := ih (j + 1) (n + 1) (by omega) (by omega)
      exact ⟨r, h1, fun z => absurd hg (z j (by omega) (by omega)),
        fun post hp => br_f hk ⟨vi, br_t hg' (nm_r (nI_1 n) (nm_r (nI_1 j) (h3 post hp)))⟩,
        fun h0 post hp => br_f hk (br_f h0 ⟨vi, br_t hg' (nm_r (nI_1 n) (nm_r (nI_1 j) (h4 h0 post hp)))⟩)⟩
    · have hg' : ¬ gr (nI j).toNatClampNeg = g := by rw [e]; exact hg
      obtain ⟨r, h1, h2, h3, h4⟩ := ih (j + 1) n (by omega) (by omega)
      exact ⟨r, h1, fun z => h2 (fun i hi hi' => z i (by omega) hi'),
        fun post hp => br_f hk ⟨vi, br_f hg' (nm_r (nI_1 j) (h3 post hp))⟩,
        fun h0 post hp => br_f hk (br_f h0 ⟨vi, br_f hg' (nm_r (nI_1 j) (h4 h0 post hp))⟩)⟩
/-- below 0 the reference counts none -/
theorem mg_cn (k : Int32) {P : Nat} (hP : P ≤ 24) (px py gr sx sy mx my mc : Nat → Int32) {g : Int32} (hg : g < 0) {post : Int32 → Prop} (hp : post 0) : ∀ (d j : Nat), j + d = P →
    wY_size_4 post g (nI P) k px py gr sx sy mx my mc (d + 1) 0 (nI j) := by
  intro d
  induction d with
  | zero =>
    intro j hj
    exact br_t (nI_le (by omega) (by omega)) hp
  | succ d ih =>
    intro j hj
    exact br_f (nI_ge (by omega) (by omega)) (br_t hg (nm_r (nI_1 j) (ih (j + 1) (by omega))))
theorem mg_cnt (k : Int32) {P : Nat} (hP : P ≤ 24) (px py gr sx sy mx my mc : Nat → Int32) (g : Int32) :
    ∃ r : Nat, r ≤ P ∧ ((∀ i, i < P → ¬ gr i = g) → r = 0) ∧
      (∀ post : Int32 → Prop, post (nI r) → wpX_countMembers post (nI P, k, px, py, gr, sx, sy, mx, my, mc) g) ∧
      (¬ g < 0 → ∀ post : Int32 → Prop, post (nI r) → wpY_size post (nI P, k, px, py, gr, sx, sy, mx, my, mc) g) := by
  obtain ⟨r, h1, h2, h3, h4⟩ := mg_cl k hP px py gr sx sy mx my mc g P 0 0 (by omega) (by omega)
  exact ⟨r, h1, fun z => h2 (fun i _ hi => z i hi), fun post hp => ⟨_, h3 post hp⟩, fun h0 post hp => ⟨_, h4 h0 post hp⟩⟩
/-- a member's share -/
def mg_sh (w x y : Int32) : Int32 := if w = 0 then x else if w = 1 then y else if w = 2 then x * x + y * y else 0
theorem mg_sh0 {w x y : Int32} (h : w = 0) : mg_sh w x y = x := if_pos h
theorem mg_sh1 {w x y : Int32} (h0 : ¬ w = 0) (h : w = 1) : mg_sh w x y = y := by unfold mg_sh; rw [if_neg h0, if_pos h]
theorem mg_sh2 {w x y : Int32} (h0 : ¬ w = 0) (h1 : ¬ w = 1) (h : w = 2) : mg_sh w x y = x * x + y * y := by unfold mg_sh; rw [if_neg h0, if_neg h1, if_pos h]
theorem mg_sh3 {w x y : Int32} (h0 : ¬ w = 0) (h1 : ¬ w = 1) (h : ¬ w = 2) : mg_sh w x y = 0 := by unfold mg_sh; rw [if_neg h0, if_neg h1, if_neg h]
theorem mg_shX {p k : Int32} {px py gr sx sy mx my mc : Nat → Int32} {i : Nat} (hi : i < 24) (w : Int32) {post : Int32 → Prop} (hp : post (mg_sh w (px i) (py i))) :
    wpX_share post (p, k, px, py, gr, sx, sy, mx, my, mc) (nI i) w := by
  have vi : vp_in (nI i) 24 := vp_in_nI hi (by decide)
  have e : (nI i).toNatClampNeg = i := nI_clamp (by omega)
  unfold wpX_share
  dsimp only
  rw [e]
  refine ⟨vi, nm_e ⟨vi, nm_e ?_⟩⟩
  by_cases w0 : w = 0
  · rw [mg_sh0 w0] at hp
    exact br_f (by rw [w0]; decide) (br_f (by rw [w0]; decide) (br_t w0 hp))
  · by_cases w1 : w = 1
    · rw [mg_sh1 w0 w1] at hp
      exact br_f (by rw [w1]; decide) (br_f (by rw [w1]; decide) (br_f w0 (br_t w1 hp)))
    · by_cases w2 : w = 2
      · rw [mg_sh2 w0 w1 w2] at hp
        exact br_f (by rw [w2]; decide) (br_f (by rw [w2]; decide) (br_f w0 (br_f w1 (br_t w2 hp))))
      · rw [mg_sh3 w0 w1 w2] at hp
        exact br_c (fun _ => hp) (fun _ => br_c (fun _ => hp) (fun _ => br_f w0 (br_f w1 (br_f w2 trivial))))
theorem mg_sl (k : Int32) {P : Nat} (hP : P ≤ 24) {px py : Nat → Int32} (gr sx sy mx my mc : Nat → Int32) (hx : ∀ i, -50 ≤ (px i).toInt ∧ (px i).toInt ≤ 50) (hy : ∀ i, -50 ≤ (py i).toInt ∧ (py i).toInt ≤ 50)
    (g w : Int32) : ∀ (d j : Nat) (s : Int32), j + d = P →
    ∃ r : Int32, (w = 0 ∨ w = 1 → -(50 * (j : Int)) ≤ s.toInt ∧ s.toInt ≤ 50 * (j : Int) → -(50 * (P : Int)) ≤ r.toInt ∧ r.toInt ≤ 50 * (P : Int)) ∧
      ((∀ i, j ≤ i → i < P → ¬ gr i = g) → r = s) ∧
      (∀ post : Int32 → Prop, post r → wX_sumMembers_5 post g w (nI P) k px py gr sx sy mx my mc (d + 1) s (nI j)) ∧
      (¬ g < 0 → ∀ post : Int32 → Prop, post r → wY_sum_5 post g w (nI P) k px py gr sx sy mx my mc (d + 1) s (nI j)) := by
  intro d
  induction d with
  | zero =>
    intro j s hj
    have hk : nI P ≤ nI j := nI_le (by omega) (by omega)
    have e : j = P := by omega
    subst e
    exact ⟨s, fun _ h => h, fun _ => rfl, fun post hp => br_t hk hp, fun _ post hp => br_t hk hp⟩
  | succ d ih =>
    intro j s hj
    have hk : ¬ nI P ≤ nI j := nI_ge (by omega) (by omega)
    have vi : vp_in (nI j) 24 := vp_in_nI (by omega) (by decide)
    have e : (nI j).toNatClampNeg = j := nI_clamp (by omega)
    by_cases hg : gr j = g
    · have hg' : gr (nI j).toNatClampNeg = g := by rw [e]; exact hg
      obtain ⟨r, h1, h2, h3, h4⟩ := ih (j + 1) (s + mg_sh w (px j) (py j)) (by omega)
      refine ⟨r, ?_, fun z => absurd hg (z j (by omega) (by omega)),
        fun post hp => br_f hk ⟨vi, br_t hg' (mg_shX (by omega) w (nm_e (nm_r (nI_1 j) (h3 post hp))))⟩,
        fun h0 post hp => br_f hk (br_f h0 ⟨vi, br_t hg' ?_⟩)⟩
      · intro hw hs
        refine h1 hw ?_
        have hb : -50 ≤ (mg_sh w (px j) (py j)).toInt ∧ (mg_sh w (px j) (py j)).toInt ≤ 50 := by
          rcases hw with w0 | w1
          · rw [mg_sh0 w0]; exact hx j
          · rw [mg_sh1 (by rw [w1]; decide) w1]; exact hy j
        rw [mg_add (by omega) (by omega)]
        omega
      · by_cases w0 : w = 0
        · exact br_t w0 ⟨vi, nm_r (by rw [e, mg_sh0 w0]) (nm_r (nI_1 j) (h4 h0 post hp))⟩
        · by_cases w1 : w = 1
          · exact br_f w0 (br_t w1 ⟨vi, nm_r (by rw [e, mg_sh1 w0 w1]) (nm_r (nI_1 j) (h4 h0 post hp))⟩)
          · by_cases w2 : w = 2
            · exact br_f w0 (br_f w1 (br_t w2 ⟨vi, vi, vi, vi, nm_r (by rw [e, mg_sh2 w0 w1 w2]) (nm_r (nI_1 j) (h4 h0 post hp))⟩))
            · exact br_f w0 (br_f w1 (br_f w2 (nm_r (by rw [mg_sh3 w0 w1 w2]) (nm_r (nI_1 j) (h4 h0 post hp)))))
    · have hg' : ¬ gr (nI j).toNatClampNeg = g := by rw [e]; exact hg
      obtain ⟨r, h1, h2, h3, h4⟩ := ih (j + 1) s (by omega)
      exact ⟨r, fun hw hs => h1 hw (by omega), fun z => h2 (fun i hi hi' => z i (by omega) hi'),
        fun post hp => br_f hk ⟨vi, br_f hg' (nm_r (nI_1 j) (h3 post hp))⟩,
        fun h0 post hp => br_f hk (br_f h0 ⟨vi, br_f hg' (nm_r (nI_1 j) (h4 h0 post hp))⟩)⟩
theorem mg_sn (k : Int32) {P : Nat} (hP : P ≤ 24) (px py gr sx sy mx my mc : Nat → Int32) {g : Int32} (w : Int32) (hg : g < 0) {post : Int32 → Prop} (hp : post 0) : ∀ (d j : Nat), j + d = P →
    wY_sum_5 post g w (nI P) k px py gr sx sy mx my mc (d + 1) 0 (nI j) := by
  intro d
  induction d with
  | zero =>
    intro j hj
    exact br_t (nI_le (by omega) (by omega)) hp
  | succ d ih =>
    intro j hj
    exact br_f (nI_ge (by omega) (by omega)) (br_t hg (nm_r (nI_1 j) (ih (j + 1) (by omega))))
theorem mg_sum (k : Int32) {P : Nat} (hP : P ≤ 24) {px py : Nat → Int32} (gr sx sy mx my mc : Nat → Int32) (hx : ∀ i, -50 ≤ (px i).toInt ∧ (px i).toInt ≤ 50) (hy : ∀ i, -50 ≤ (py i).toInt ∧ (py i).toInt ≤ 50)
    (g w : Int32) :
    ∃ r : Int32, (w = 0 ∨ w = 1 → -1200 ≤ r.toInt ∧ r.toInt ≤ 1200) ∧ ((∀ i, i < P → ¬ gr i = g) → r = 0) ∧
      (∀ post : Int32 → Prop, post r → wpX_sumMembers post (nI P, k, px, py, gr, sx, sy, mx, my, mc) g w) ∧
      (¬ g < 0 → ∀ post : Int32 → Prop, post r → wpY_sum post (nI P, k, px, py, gr, sx, sy, mx, my, mc) g w) := by
  obtain ⟨r, h1, h2, h3, h4⟩ := mg_sl k hP gr sx sy mx my mc hx hy g w P 0 0 (by omega)
  have z0 : (0 : Int32).toInt = 0 := by decide
  refine ⟨r, fun hw => ?_, fun z => h2 (fun i _ hi => z i hi), fun post hp => ⟨_, h3 post hp⟩, fun h0 post hp => ⟨_, h4 h0 post hp⟩⟩
  have := h1 hw (by rw [z0]; omega)
  omega
end MGD
