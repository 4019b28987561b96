section MGA
/-! A: numbers -/
theorem mg_us {f : Nat → Int32} {k : Nat} {x : Int32} : upd f k x k = x := if_pos rfl
theorem mg_un {f : Nat → Int32} {k j : Nat} {x : Int32} (h : j ≠ k) : upd f k x j = f j := if_neg h
theorem mg_add {a b : Int32} (h1 : -2147483648 ≤ a.toInt + b.toInt) (h2 : a.toInt + b.toInt < 2147483648) : (a + b).toInt = a.toInt + b.toInt := by
  rw [Int32.toInt_add]; exact Int.bmod_eq_of_le (by omega) (by omega)
theorem mg_lmul {a b : Int64} (h1 : -9223372036854775808 ≤ a.toInt * b.toInt) (h2 : a.toInt * b.toInt < 9223372036854775808) : (a * b).toInt = a.toInt * b.toInt := by
  rw [Int64.toInt_mul]; exact Int.bmod_eq_of_le (by omega) (by omega)
theorem mg_ladd {a b : Int64} (h1 : -9223372036854775808 ≤ a.toInt + b.toInt) (h2 : a.toInt + b.toInt < 9223372036854775808) : (a + b).toInt = a.toInt + b.toInt := by
  rw [Int64.toInt_add]; exact Int.bmod_eq_of_le (by omega) (by omega)
theorem mg_lsub {a b : Int64} (h1 : -9223372036854775808 ≤ a.toInt - b.toInt) (h2 : a.toInt - b.toInt < 9223372036854775808) : (a - b).toInt = a.toInt - b.toInt := by
  rw [Int64.toInt_sub]; exact Int.bmod_eq_of_le (by omega) (by omega)
theorem mg_mulb {x y a b : Int} (hx0 : 0 ≤ x) (hx : x ≤ a) (hy0 : 0 ≤ y) (hy : y ≤ b) : 0 ≤ x * y ∧ x * y ≤ a * b :=
  ⟨Int.mul_nonneg hx0 hy0, Int.mul_le_mul hx hy hy0 (Int.le_trans hx0 hx)⟩
theorem mg_sq {x b : Int} (h1 : -b ≤ x) (h2 : x ≤ b) : 0 ≤ x * x ∧ x * x ≤ b * b := by
  have h := Int.mul_nonneg (show 0 ≤ b - x by omega) (show 0 ≤ b + x by omega)
  have e : (b - x) * (b + x) = b * b - x * x := by grind
  rw [e] at h
  refine ⟨?_, by omega⟩
  by_cases hx : 0 ≤ x
  · exact Int.mul_nonneg hx hx
  · exact Int.mul_nonneg_of_nonpos_of_nonpos (by omega) (by omega)
theorem mg_mula {x y a b : Int} (hx : -a ≤ x) (hx' : x ≤ a) (hy0 : 0 ≤ y) (hy : y ≤ b) : -(a * b) ≤ x * y ∧ x * y ≤ a * b := by
  have ha : 0 ≤ a := by omega
  have h1 := Int.mul_nonneg (show 0 ≤ a - x by omega) hy0
  have h2 := Int.mul_nonneg (show 0 ≤ a + x by omega) hy0
  have h3 := Int.mul_nonneg ha (show 0 ≤ b - y by omega)
  have e1 : (a - x) * y = a * y - x * y := by grind
  have e2 : (a + x) * y = a * y + x * y := by grind
  have e3 : a * (b - y) = a * b - a * y := by grind
  rw [e1] at h1; rw [e2] at h2; rw [e3] at h3
  constructor <;> omega
theorem mg_mul {a b : Int32} (h1 : -2147483648 ≤ a.toInt * b.toInt) (h2 : a.toInt * b.toInt < 2147483648) : (a * b).toInt = a.toInt * b.toInt := by
  rw [Int32.toInt_mul]; exact Int.bmod_eq_of_le (by omega) (by omega)
theorem mg_sub {a b : Int32} (h1 : -2147483648 ≤ a.toInt - b.toInt) (h2 : a.toInt - b.toInt < 2147483648) : (a - b).toInt = a.toInt - b.toInt := by
  rw [Int32.toInt_sub]; exact Int.bmod_eq_of_le (by omega) (by omega)
/-- a difference of one coordinate: in long as in int -/
theorem mg_d {x c s : Int32} (hx : -50 ≤ x.toInt ∧ x.toInt ≤ 50) (hc : 1 ≤ c.toInt ∧ c.toInt ≤ 24) (hs : -1200 ≤ s.toInt ∧ s.toInt ≤ 1200) :
    (x * c - s).toInt64 = x.toInt64 * c.toInt64 - s.toInt64 ∧ -2400 ≤ (x.toInt64 * c.toInt64 - s.toInt64).toInt ∧ (x.toInt64 * c.toInt64 - s.toInt64).toInt ≤ 2400 := by
  have hb := mg_mula (a := 50) (b := 24) hx.1 hx.2 (show 0 ≤ c.toInt by omega) hc.2
  have h1 : (x.toInt64 * c.toInt64).toInt = x.toInt * c.toInt := by
    rw [mg_lmul (by rw [Int32.toInt_toInt64, Int32.toInt_toInt64]; omega) (by rw [Int32.toInt_toInt64, Int32.toInt_toInt64]; omega), Int32.toInt_toInt64, Int32.toInt_toInt64]
  have h2 : (x.toInt64 * c.toInt64 - s.toInt64).toInt = x.toInt * c.toInt - s.toInt := by
    rw [mg_lsub (by rw [h1, Int32.toInt_toInt64]; omega) (by rw [h1, Int32.toInt_toInt64]; omega), h1, Int32.toInt_toInt64]
  have h3 : (x * c).toInt = x.toInt * c.toInt := mg_mul (by omega) (by omega)
  have h4 : (x * c - s).toInt = x.toInt * c.toInt - s.toInt := by
    rw [mg_sub (by rw [h3]; omega) (by rw [h3]; omega), h3]
  exact ⟨Int64.toInt_inj.1 (by rw [Int32.toInt_toInt64, h4, h2]), by omega, by omega⟩
theorem mg_cmp {a b : Int64} (ha : 0 ≤ a.toInt ∧ a.toInt ≤ 6635520000) (hb : 0 ≤ b.toInt ∧ b.toInt ≤ 6635520000) : (0 ≤ a - b ↔ b ≤ a) ∧ (a - b = 0 ↔ a = b) := by
  have h : (a - b).toInt = a.toInt - b.toInt := mg_lsub (by omega) (by omega)
  have h0 : (0 : Int64).toInt = 0 := by decide
  refine ⟨?_, ?_⟩
  · rw [Int64.le_iff_toInt_le, Int64.le_iff_toInt_le, h, h0]; omega
  · rw [← Int64.toInt_inj, ← Int64.toInt_inj, h, h0]; omega
theorem mg_tr {fj fq fg a b e : Int} (ha : 0 ≤ a) (hb : 0 < b) (he : 0 ≤ e) (h1 : fj * b ≤ fq * a) (h2 : fq * e ≤ fg * b) : fj * e ≤ fg * a := by
  have h3 := Int.mul_le_mul_of_nonneg_right h1 he
  have h4 := Int.mul_le_mul_of_nonneg_right h2 ha
  have e1 : fj * b * e = fj * e * b := by grind
  have e2 : fq * a * e = fq * e * a := by grind
  have e3 : fg * b * a = fg * a * b := by grind
  refine Int.le_of_mul_le_mul_right (a := b) ?_ hb
  omega
/-- bounds of points and middles -/
def mg_B (px py mx my mc : Nat → Int32) : Prop :=
  (∀ i, -50 ≤ (px i).toInt ∧ (px i).toInt ≤ 50) ∧ (∀ i, -50 ≤ (py i).toInt ∧ (py i).toInt ≤ 50) ∧
  (∀ g, g < 4 → -1200 ≤ (mx g).toInt ∧ (mx g).toInt ≤ 1200) ∧ (∀ g, g < 4 → -1200 ≤ (my g).toInt ∧ (my g).toInt ≤ 1200) ∧
  (∀ g, g < 4 → 1 ≤ (mc g).toInt ∧ (mc g).toInt ≤ 24)
/-- the scaled distance of point i from the middle of g -/
def mg_F (px py mx my mc : Nat → Int32) (i g : Nat) : Int64 :=
  ((px i).toInt64 * (mc g).toInt64 - (mx g).toInt64) * ((px i).toInt64 * (mc g).toInt64 - (mx g).toInt64) +
  ((py i).toInt64 * (mc g).toInt64 - (my g).toInt64) * ((py i).toInt64 * (mc g).toInt64 - (my g).toInt64)
/-- the same, times the other count squared -/
def mg_A (px py mx my mc : Nat → Int32) (i g h : Nat) : Int64 :=
  mg_F px py mx my mc i g * (mc h).toInt64 * (mc h).toInt64
theorem mg_Ft {px py mx my mc : Nat → Int32} (hB : mg_B px py mx my mc) (i : Nat) {g : Nat} (hg : g < 4) :
    0 ≤ (mg_F px py mx my mc i g).toInt ∧ (mg_F px py mx my mc i g).toInt ≤ 11520000 := by
  obtain ⟨hx, hy, hmx, hmy, hmc⟩ := hB
  have dx := (mg_d (hx i) (hmc g hg) (hmx g hg)).2
  have dy := (mg_d (hy i) (hmc g hg) (hmy g hg)).2
  unfold mg_F
  generalize (px i).toInt64 * (mc g).toInt64 - (mx g).toInt64 = a at dx ⊢
  generalize (py i).toInt64 * (mc g).toInt64 - (my g).toInt64 = b at dy ⊢
  have sa := mg_sq (b := 2400) dx.1 dx.2
  have sb := mg_sq (b := 2400) dy.1 dy.2
  have ea : (a * a).toInt = a.toInt * a.toInt := mg_lmul (by omega) (by omega)
  have eb : (b * b).toInt = b.toInt * b.toInt := mg_lmul (by omega) (by omega)
  have es : (a * a + b * b).toInt = a.toInt * a.toInt + b.toInt * b.toInt := by
    rw [mg_ladd (by rw [ea, eb]; omega) (by rw [ea, eb]; omega), ea, eb]
  rw [es]; omega
theorem mg_At {px py mx my mc : Nat → Int32} (hB : mg_B px py mx my mc) (i : Nat) {g h : Nat} (hg : g < 4) (hh : h < 4) :
    (mg_A px py mx my mc i g h).toInt = (mg_F px py mx my mc i g).toInt * ((mc h).toInt * (mc h).toInt) ∧
    0 ≤ (mg_A px py mx my mc i g h).toInt ∧ (mg_A px py mx my mc i g h).toInt ≤ 6635520000 := by
  have hF := mg_Ft hB i hg
  have hc := hB.2.2.2.2 h hh
  unfold mg_A
  generalize mg_F px py mx my mc i g = a at hF ⊢
  generalize mc h = c at hc ⊢
  have b1 := mg_mulb (b := 24) hF.1 hF.2 (show 0 ≤ c.toInt by omega) hc.2
  have e1 : (a * c.toInt64).toInt = a.toInt * c.toInt := by
    rw [mg_lmul (by rw [Int32.toInt_toInt64]; omega) (by rw [Int32.toInt_toInt64]; omega), Int32.toInt_toInt64]
  have b2 := mg_mulb (b := 24) b1.1 b1.2 (show 0 ≤ c.toInt by omega) hc.2
  have e2 : (a * c.toInt64 * c.toInt64).toInt = a.toInt * c.toInt * c.toInt := by
    rw [mg_lmul (by rw [e1, Int32.toInt_toInt64]; omega) (by rw [e1, Int32.toInt_toInt64]; omega), e1, Int32.toInt_toInt64]
  rw [e2]
  exact ⟨by rw [Int.mul_assoc], by omega, by omega⟩
/-- nearer than the nearest so far is nearer than all so far -/
theorem mg_At3 {px py mx my mc : Nat → Int32} (hB : mg_B px py mx my mc) (i : Nat) {j q g : Nat} (hj : j < 4) (hq : q < 4) (hg : g < 4)
    (h1 : (mg_A px py mx my mc i j q).toInt ≤ (mg_A px py mx my mc i q j).toInt) (h2 : (mg_A px py mx my mc i q g).toInt ≤ (mg_A px py mx my mc i g q).toInt) :
    (mg_A px py mx my mc i j g).toInt ≤ (mg_A px py mx my mc i g j).toInt := by
  rw [(mg_At hB i hj hq).1, (mg_At hB i hq hj).1] at h1
  rw [(mg_At hB i hq hg).1, (mg_At hB i hg hq).1] at h2
  rw [(mg_At hB i hj hg).1, (mg_At hB i hg hj).1]
  have cj := hB.2.2.2.2 j hj
  have cq := hB.2.2.2.2 q hq
  have cg := hB.2.2.2.2 g hg
  exact mg_tr (Int.mul_nonneg (by omega) (by omega)) (Int.mul_pos (by omega) (by omega)) (Int.mul_nonneg (by omega) (by omega)) h1 h2
end MGA
