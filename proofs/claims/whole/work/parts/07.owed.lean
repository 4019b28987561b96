section MGG
/-! G: what is owed -/
def i_Rel (_ : Nat) (u : SX) (v : SY) : Prop :=
  ∃ (P K : Nat) (px py gr sx sy mx my mc : Nat → Int32), u = (nI P, nI K, px, py, gr, sx, sy, mx, my, mc) ∧ v = (nI P, nI K, px, py, gr, sx, sy, mx, my, mc) ∧ mg_Inv P K px py gr sx sy mx my mc
theorem i_up {k : Nat} {u : SX} {v : SY} (h : i_Rel k u v) : i_Rel (k + 4) u v := h
theorem mg_R {k P K : Nat} {px py gr sx sy mx my mc : Nat → Int32} (h : mg_Inv P K px py gr sx sy mx my mc) :
    i_Rel k (nI P, nI K, px, py, gr, sx, sy, mx, my, mc) (nI P, nI K, px, py, gr, sx, sy, mx, my, mc) := ⟨P, K, px, py, gr, sx, sy, mx, my, mc, rfl, rfl, h⟩
theorem i_vc0 : wpX_init (fun u => wpY_init (fun v => i_Rel 0 u v)) := by
  have z : ∀ i : Nat, -50 ≤ ((fun _ => 0 : Nat → Int32) i).toInt ∧ ((fun _ => 0 : Nat → Int32) i).toInt ≤ 50 := fun _ => (by decide : -50 ≤ (0 : Int32).toInt ∧ (0 : Int32).toInt ≤ 50)
  obtain ⟨gr, mx, my, mc, hI, hX, hY⟩ := mg_ro (P := 0) (K := 2) (by decide) (by decide) z z z z (fun _ => 0) (fun _ => 0) (fun _ => 0) (fun _ => 0)
  unfold wpX_init wpY_init
  exact hX _ (hY _ (mg_R hI))
theorem i_vc_add {k : Nat} {u : SX} {v : SY} (I : i_Rel k u v) (hk : k + 4 ≤ 2048) (v1 : Int32) (v2 : Int32) : wpX_add (fun r u' => wpY_add (fun r' v' => r' = r ∧ i_Rel (k + 4) u' v') v v1 v2) u v1 v2 := by
  obtain ⟨P, K, px, py, gr, sx, sy, mx, my, mc, rfl, rfl, hI⟩ := I
  unfold wpX_add wpY_add
  dsimp only
  by_cases h1 : mg_ok v1
  · by_cases h2 : mg_ok v2
    · by_cases hP : P < 24
      · have hl : nI P < 24 := nI_lt (b := 24) hP (by decide)
        have hn : ¬ nI P = 24 := fun z => by
          have := (nI_eq (b := 24) (by omega) (by decide)).mp z
          omega
        have vi : vp_in (nI P) 24 := vp_in_nI hP (by decide)
        have e : (nI P).toNatClampNeg = P := nI_clamp (by omega)
        obtain ⟨_, hK1, hK4, hB, hsx, hsy, hg⟩ := hI
        obtain ⟨gr', mx', my', mc', hJ, hX, hY⟩ := mg_ro (P := P + 1) (by omega) ⟨hK1, hK4⟩ (mg_ub hB.1 P (mg_okb h1)) (mg_ub hB.2.1 P (mg_okb h2)) hsx hsy gr mx my mc
        exact mg_oX h1 (br_f (by decide) (mg_oX h2 (br_f (by decide) (br_t hl ⟨vi, nm_r (by rw [e]) ⟨vi, nm_r (by rw [e]) (nm_r (nI_1 P) (hX _
          (mg_oY h1 (br_t rfl (mg_oY h2 (br_t rfl (br_f hn ⟨vi, nm_r (by rw [e]) ⟨vi, nm_r (by rw [e]) (nm_r (nI_1 P) (hY _ ⟨rfl, mg_R hJ⟩))⟩⟩)))))))⟩⟩))))
      · have e : P = 24 := by have := hI.1; omega
        subst e
        have hl : ¬ nI 24 < 24 := nI_nlt (a := 24) (b := 24) (by decide) (by decide)
        have hn : nI 24 = 24 := rfl
        exact mg_oX h1 (br_f (by decide) (mg_oX h2 (br_f (by decide) (br_f hl (mg_oY h1 (br_t rfl (mg_oY h2 (br_t rfl (br_t hn ⟨rfl, mg_R hI⟩)))))))))
    · exact mg_oX h1 (br_f (by decide) (mg_bX h2 (br_t rfl (mg_oY h1 (br_t rfl (mg_bY h2 (br_f (by decide) ⟨rfl, mg_R hI⟩)))))))
  · exact mg_bX h1 (br_t rfl (mg_bY h1 (br_f (by decide) ⟨rfl, mg_R hI⟩)))
theorem i_vc_drop {k : Nat} {u : SX} {v : SY} (I : i_Rel k u v) (hk : k + 4 ≤ 2048) (v1 : Int32) : wpX_drop (fun r u' => wpY_drop (fun r' v' => r' = r ∧ i_Rel (k + 4) u' v') v v1) u v1 := by
  obtain ⟨P, K, px, py, gr, sx, sy, mx, my, mc, rfl, rfl, hI⟩ := I
  unfold wpX_drop wpY_drop
  dsimp only
  rcases mg_ix v1 P with h | ⟨N, hN, hN', rfl⟩ | ⟨N, hN, rfl⟩
  · exact mg_pXm h (br_t rfl (br_t h ⟨rfl, mg_R hI⟩))
  · exact mg_pX0 hN hN' (br_t rfl (br_f (nI_pos hN') (br_f (nI_nlt hN hN') ⟨rfl, mg_R hI⟩)))
  · obtain ⟨hP, hK1, hK4, hB, hsx, hsy, hg⟩ := hI
    obtain ⟨Q, rfl⟩ : ∃ Q, P = Q + 1 := ⟨P - 1, by omega⟩
    obtain ⟨px', py', gr', mx', my', mc', hJ, hX, hY⟩ := mg_dl (P := Q) (by omega) ⟨hK1, hK4⟩ gr mx my mc hsx hsy (Q - N) N px py (by omega) hB.1 hB.2.1
    exact mg_pX1 hP hN (br_f (by decide) (nm_r (nI_1 N) ⟨_, hX _ (br_f (nI_pos (by omega)) (br_t (nI_lt hN (by omega)) (nm_r (nI_pred Q) ⟨_, hY _ ⟨rfl, mg_R hJ⟩⟩)))⟩))
theorem i_vc_seed {k : Nat} {u : SX} {v : SY} (I : i_Rel k u v) (hk : k + 4 ≤ 2048) (v1 : Int32) (v2 : Int32) (v3 : Int32) : wpX_seed (fun r u' => wpY_seed (fun r' v' => r' = r ∧ i_Rel (k + 4) u' v') v v1 v2 v3) u v1 v2 v3 := by
  obtain ⟨P, K, px, py, gr, sx, sy, mx, my, mc, rfl, rfl, hI⟩ := I
  unfold wpX_seed wpY_seed
  dsimp only
  rcases mg_ix v1 4 with h | ⟨N, hN, hN', rfl⟩ | ⟨N, hN, rfl⟩
  · exact br_t h (br_t h ⟨rfl, mg_R hI⟩)
  · exact br_f (nI_pos hN') (br_t (nI_le (a := 4) hN hN') (br_f (nI_pos hN') (br_t (nI_lt (a := 3) hN hN') ⟨rfl, mg_R hI⟩)))
  · have h0 : ¬ nI N < 0 := nI_pos (by omega)
    have h4 : ¬ (4 : Int32) ≤ nI N := nI_ge (b := 4) hN (by decide)
    have h3 : ¬ (3 : Int32) < nI N := nI_nlt (a := 3) (by omega) (by decide)
    by_cases h1 : mg_ok v2
    · by_cases h2 : mg_ok v3
      · have vi : vp_in (nI N) 4 := vp_in_nI hN (by decide)
        have e : (nI N).toNatClampNeg = N := nI_clamp (by omega)
        obtain ⟨hP, hK1, hK4, hB, hsx, hsy, hg⟩ := hI
        obtain ⟨gr', mx', my', mc', hJ, hX, hY⟩ := mg_ro hP ⟨hK1, hK4⟩ hB.1 hB.2.1 (mg_ub hsx N (mg_okb h1)) (mg_ub hsy N (mg_okb h2)) gr mx my mc
        exact br_f h0 (br_f h4 (mg_oX h1 (br_f (by decide) (mg_oX h2 (br_f (by decide) ⟨vi, nm_r (by rw [e]) ⟨vi, nm_r (by rw [e]) (hX _
          (br_f h0 (br_f h3 (mg_oY h1 (br_t rfl (mg_oY h2 (br_t rfl ⟨vi, nm_r (by rw [e]) ⟨vi, nm_r (by rw [e]) (hY _ ⟨rfl, mg_R hJ⟩)⟩⟩)))))))⟩⟩)))))
      · exact br_f h0 (br_f h4 (mg_oX h1 (br_f (by decide) (mg_bX h2 (br_t rfl (br_f h0 (br_f h3 (mg_oY h1 (br_t rfl (mg_bY h2 (br_f (by decide) ⟨rfl, mg_R hI⟩)))))))))))
    · exact br_f h0 (br_f h4 (mg_bX h1 (br_t rfl (br_f h0 (br_f h3 (mg_bY h1 (br_f (by decide) ⟨rfl, mg_R hI⟩)))))))
theorem i_vc_groups {k : Nat} {u : SX} {v : SY} (I : i_Rel k u v) (hk : k + 4 ≤ 2048) (v1 : Int32) : wpX_groups (fun u' => wpY_groups (fun v' => i_Rel (k + 4) u' v') v v1) u v1 := by
  obtain ⟨P, K, px, py, gr, sx, sy, mx, my, mc, rfl, rfl, hI⟩ := I
  obtain ⟨hP, hK1, hK4, hB, hsx, hsy, hg⟩ := hI
  unfold wpX_groups wpY_groups
  dsimp only
  by_cases h1 : 1 ≤ v1
  · by_cases h4 : v1 ≤ 4
    · obtain ⟨N, hN, rfl⟩ := nI_of2 (M := 4) (n := 4) (by decide) (Int32.not_lt.mpr (Int32.le_trans (by decide) h1)) h4
      have hN1 : 1 ≤ N := (nI_leI (a := 1) (by decide) (by omega)).mp h1
      obtain ⟨gr', mx', my', mc', hJ, hX, hY⟩ := mg_ro (K := N) hP ⟨hN1, hN⟩ hB.1 hB.2.1 hsx hsy gr mx my mc
      exact br_t h1 (br_t h4 (hX _ (br_t h1 (br_t h4 (hY _ (mg_R hJ))))))
    · obtain ⟨gr', mx', my', mc', hJ, hX, hY⟩ := mg_ro (K := 4) hP (by decide) hB.1 hB.2.1 hsx hsy gr mx my mc
      exact br_t h1 (br_f h4 (hX _ (br_t h1 (br_f h4 (hY _ (mg_R hJ))))))
  · obtain ⟨gr', mx', my', mc', hJ, hX, hY⟩ := mg_ro (K := 1) hP (by decide) hB.1 hB.2.1 hsx hsy gr mx my mc
    exact br_f h1 (hX _ (br_f h1 (hY _ (mg_R hJ))))
theorem i_vc_reset {k : Nat} {u : SX} {v : SY} (I : i_Rel k u v) (hk : k + 4 ≤ 2048) : wpX_reset (fun u' => wpY_reset (fun v' => i_Rel (k + 4) u' v') v) u := by
  obtain ⟨P, K, px, py, gr, sx, sy, mx, my, mc, rfl, rfl, hI⟩ := I
  obtain ⟨hP, hK1, hK4, hB, hsx, hsy, hg⟩ := hI
  obtain ⟨gr', mx', my', mc', hJ, hX, hY⟩ := mg_ro hP ⟨hK1, hK4⟩ hB.1 hB.2.1 hsx hsy gr mx my mc
  unfold wpX_reset
  dsimp only
  exact hX _ (hY _ (mg_R hJ))
theorem i_vc_round {k : Nat} {u : SX} {v : SY} (I : i_Rel k u v) (hk : k + 4 ≤ 2048) : wpX_round (fun r u' => wpY_round (fun r' v' => r' = r ∧ i_Rel (k + 4) u' v') v) u := by
  obtain ⟨P, K, px, py, gr, sx, sy, mx, my, mc, rfl, rfl, hI⟩ := I
  obtain ⟨r, gr', mx', my', mc', _, hJ, hX, hY⟩ := mg_rd hI
  unfold wpX_round
  dsimp only
  exact hX _ (hY _ ⟨rfl, mg_R hJ⟩)
theorem i_vc_settle {k : Nat} {u : SX} {v : SY} (I : i_Rel k u v) (hk : k + 4 ≤ 2048) : wpX_settle (fun r u' => wpY_settle (fun r' v' => r' = r ∧ i_Rel (k + 4) u' v') v) u := by
  obtain ⟨P, K, px, py, gr, sx, sy, mx, my, mc, rfl, rfl, hI⟩ := I
  obtain ⟨hP, hK1, hK4, hB, hsx, hsy, hg⟩ := hI
  obtain ⟨gr', mx', my', mc', hJ, hX, hY⟩ := mg_ro hP ⟨hK1, hK4⟩ hB.1 hB.2.1 hsx hsy gr mx my mc
  obtain ⟨r, gs, ms, ns, cs, hL, sX, sY⟩ := mg_se 40 0 1 gr' mx' my' mc' rfl (by decide) (by decide) hJ
  unfold wpX_settle wpY_settle
  dsimp only
  exact hX _ ⟨_, sX _ (hY _ ⟨_, sY _ ⟨rfl, mg_R hL⟩⟩)⟩
theorem i_vc_group {k : Nat} {u : SX} {v : SY} (I : i_Rel k u v) (hk : k + 4 ≤ 2048) (v1 : Int32) : wpX_group (fun r => wpY_group (fun r' => r' = r ∧ i_Rel (k + 4) u v) v v1) u v1 := by
  obtain ⟨P, K, px, py, gr, sx, sy, mx, my, mc, rfl, rfl, hI⟩ := I
  unfold wpX_group wpY_group
  dsimp only
  rcases mg_ix v1 P with h | ⟨N, hN, hN', rfl⟩ | ⟨N, hN, rfl⟩
  · exact mg_pXm h (br_t rfl (br_t h ⟨rfl, mg_R hI⟩))
  · exact mg_pX0 hN hN' (br_t rfl (br_f (nI_pos hN') (br_f (nI_nlt hN hN') ⟨rfl, mg_R hI⟩)))
  · have hP := hI.1
    have vi : vp_in (nI N) 24 := vp_in_nI (by omega) (by decide)
    exact mg_pX1 hP hN (br_f (by decide) ⟨vi, br_f (nI_pos (by omega)) (br_t (nI_lt hN (by omega)) ⟨vi, rfl, mg_R hI⟩)⟩)
theorem i_vc_size {k : Nat} {u : SX} {v : SY} (I : i_Rel k u v) (hk : k + 4 ≤ 2048) (v1 : Int32) : wpX_size (fun r => wpY_size (fun r' => r' = r ∧ i_Rel (k + 4) u v) v v1) u v1 := by
  obtain ⟨P, K, px, py, gr, sx, sy, mx, my, mc, rfl, rfl, hI⟩ := I
  have R := mg_R (k := k + 4) hI
  obtain ⟨hP, hK1, hK4, hB, hsx, hsy, hg⟩ := hI
  obtain ⟨r, h1, h2, hX, hY⟩ := mg_cnt (nI K) hP px py gr sx sy mx my mc v1
  unfold wpX_size
  dsimp only
  rcases mg_ix v1 K with h | ⟨N, hN, hN', rfl⟩ | ⟨N, hN, rfl⟩
  · exact mg_gXm h (br_t rfl ⟨_, mg_cn (nI K) hP px py gr sx sy mx my mc h ⟨rfl, R⟩ P 0 (by omega)⟩)
  · have e := h2 (mg_none hP hK4 hg hN hN')
    subst e
    exact mg_gX0 hN hN' (br_t rfl (hY (nI_pos hN') _ ⟨rfl, R⟩))
  · exact mg_gX1 hK4 hN (br_f (by decide) (hX _ (hY (nI_pos (by omega)) _ ⟨rfl, R⟩)))
theorem i_vc_sum {k : Nat} {u : SX} {v : SY} (I : i_Rel k u v) (hk : k + 4 ≤ 2048) (v1 : Int32) (v2 : Int32) : wpX_sum (fun r => wpY_sum (fun r' => r' = r ∧ i_Rel (k + 4) u v) v v1 v2) u v1 v2 := by
  obtain ⟨P, K, px, py, gr, sx, sy, mx, my, mc, rfl, rfl, hI⟩ := I
  have R := mg_R (k := k + 4) hI
  obtain ⟨hP, hK1, hK4, hB, hsx, hsy, hg⟩ := hI
  obtain ⟨r, h1, h2, hX, hY⟩ := mg_sum (nI K) hP gr sx sy mx my mc hB.1 hB.2.1 v1 v2
  unfold wpX_sum
  dsimp only
  rcases mg_ix v1 K with h | ⟨N, hN, hN', rfl⟩ | ⟨N, hN, rfl⟩
  · exact mg_gXm h (br_t rfl ⟨_, mg_sn (nI K) hP px py gr sx sy mx my mc v2 h ⟨rfl, R⟩ P 0 (by omega)⟩)
  · have e := h2 (mg_none hP hK4 hg hN hN')
    subst e
    exact mg_gX0 hN hN' (br_t rfl (hY (nI_pos hN') _ ⟨rfl, R⟩))
  · exact mg_gX1 hK4 hN (br_f (by decide) (hX _ (hY (nI_pos (by omega)) _ ⟨rfl, R⟩)))
theorem i_vc_near {k : Nat} {u : SX} {v : SY} (I : i_Rel k u v) (hk : k + 4 ≤ 2048) (v1 : Int32) : wpX_near (fun r => wpY_near (fun r' => r' = r ∧ i_Rel (k + 4) u v) v v1) u v1 := by
  obtain ⟨P, K, px, py, gr, sx, sy, mx, my, mc, rfl, rfl, hI⟩ := I
  have R := mg_R (k := k + 4) hI
  obtain ⟨hP, hK1, hK4, hB, hsx, hsy, hg⟩ := hI
  unfold wpX_near wpY_near
  dsimp only
  rcases mg_ix v1 K with h | ⟨N, hN, hN', rfl⟩ | ⟨N, hN, rfl⟩
  · exact mg_gXm h (br_t rfl (br_t h ⟨rfl, R⟩))
  · exact mg_gX0 hN hN' (br_t rfl (br_f (nI_pos hN') (br_f (nI_nlt hN hN') ⟨rfl, R⟩)))
  · obtain ⟨r, hX, hY⟩ := mg_nrl hP ⟨hK1, hK4⟩ hN hB gr sx sy P 0 0 (by omega)
    exact mg_gX1 hK4 hN (br_f (by decide) ⟨_, hX _ (br_f (nI_pos (by omega)) (br_t (nI_lt hN (by omega)) ⟨_, hY _ ⟨rfl, R⟩⟩))⟩)
end MGG
