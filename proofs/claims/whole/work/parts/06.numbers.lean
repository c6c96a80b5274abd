/- numbers -/
theorem gn_place (s n : Nat) : nI s * 32 + (nI n &&& 31) = nI (32 * s + n % 32) := by
  rw [gw_mod n 5 (by decide) (by decide)]
  show nI s * nI 32 + nI (n % 2 ^ 5) = _
  rw [pk_mul, nI_add]
  exact congrArg nI (by omega)
/-- 64 numbers tell an old confirmation from a new one -/
theorem gn_news {K C R G e : Nat} (h : K ≤ C ∧ C ≤ R ∧ R ≤ G ∧ G ≤ K + 30) (he : K ≤ e ∧ e ≤ R) : ((e % 64 + 63 * C) % 64 ≤ G - C ↔ C ≤ e) ∧ (C ≤ e → C + (e % 64 + 63 * C) % 64 = e) := by
  omega
theorem gn_ahead {K R G n : Nat} (h : K ≤ R ∧ R ≤ G ∧ G ≤ K + 30) (hn : K ≤ n ∧ n < G) : ((n % 64 + 63 * R) % 64 = 0 ↔ n = R) ∧ ((n % 64 + 63 * R) % 64 < 32 ↔ R ≤ n) := by
  omega
theorem gn_i31 : (31 : Int32).toInt = 31 := by decide
theorem gn_fit {r : Int32} (h0 : 0 ≤ r.toInt) (h1 : r.toInt < 31) : ∃ k, k < 31 ∧ r = nI k := by
  have hz : ¬ r < 0 := by
    rw [Int32.lt_iff_toInt_lt, show (0 : Int32).toInt = 0 from by decide]; omega
  obtain ⟨j, hj, rfl⟩ := nI_of hz
  rw [nI_toInt hj] at h1
  exact ⟨j, by omega, rfl⟩
theorem gn_pif (x : Int32) : (x - x / 31 * 31 < 0 → ∃ k, k < 31 ∧ x - x / 31 * 31 + 31 = nI k) ∧ (¬ x - x / 31 * 31 < 0 → ∃ k, k < 31 ∧ x - x / 31 * 31 = nI k) := by
  have h := rem_toInt x 31
  have t := tmod_bounds (a := x.toInt) (M := 31) (by decide)
  rw [gn_i31] at h
  rw [← h] at t
  generalize x - x / 31 * 31 = r at t
  constructor
  · intro hr
    rw [Int32.lt_iff_toInt_lt, show (0 : Int32).toInt = 0 from by decide] at hr
    apply gn_fit
    · rw [Int32.toInt_add, gn_i31, Int.bmod_eq_of_le (by omega) (by omega)]; omega
    · rw [Int32.toInt_add, gn_i31, Int.bmod_eq_of_le (by omega) (by omega)]; omega
  · intro hr
    rw [Int32.lt_iff_toInt_lt, show (0 : Int32).toInt = 0 from by decide] at hr
    exact gn_fit (by omega) t.2
/- the check's loop -/
theorem gn_sh {b : Nat} (hb : b < 32) : ((nI b &&& 31).toBitVec.smod 32).toNat = b := s_l b hb
theorem gn_cbit {r b : Nat} (hr : r < 2147483648) (hb : b < 23) : ((nI r >>> (nI (b + 8) &&& 31)) &&& 1) = 0 ↔ r.testBit (b + 8) = false := by
  rw [pk_shrN hr _ (b + 8) (gn_sh (by omega))]
  have h := gw_bit (r / 2 ^ (b + 8)) 0 (by decide)
  have e : (nI (2 ^ 0) : Int32) = 1 := by decide
  rw [e] at h
  rw [h, Nat.testBit_eq_decide_div_mod_eq, decide_eq_false_iff_not]
  generalize r / 2 ^ (b + 8) = z
  omega
theorem gn_cst {r b : Nat} (hb : b < 23) : nI r ^^^ ((263 : Int32) <<< (nI b &&& 31)) = nI (r ^^^ (263 * 2 ^ b)) := by
  have h : (263 : Int32) <<< (nI b &&& 31) = nI (263 * 2 ^ b) := by
    have h2 : 2 ^ b ≤ 2 ^ 22 := Nat.pow_le_pow_right (by decide) (by omega)
    exact pk_shlN (n := 263) _ b (gn_sh (by omega)) (by omega)
  rw [h, nx_xor]
theorem gn_clt {r b : Nat} (hr : r < 2147483648) (hb : b < 23) : gc_st b r < 2147483648 := by
  unfold gc_st
  split
  · have h2 : 2 ^ b ≤ 2 ^ 22 := Nat.pow_le_pow_right (by decide) (by omega)
    exact Nat.xor_lt_two_pow (n := 31) hr (by omega)
  · exact hr
theorem gn_c8 {c : Nat} (h : c < 8388608) : nI c <<< ((8 : Int32) &&& 31) = nI (c * 2 ^ 8) :=
  pk_shlN _ 8 (gn_sh (b := 8) (by decide)) (by omega)
theorem gn_c23 {r : Nat} (h : r < 256) : nI r <<< ((23 : Int32) &&& 31) = nI (r * 8388608) :=
  pk_shlN _ 23 (gn_sh (b := 23) (by decide)) (by omega)
theorem gn_s17 {r : Nat} : (nI r &&& 63) <<< ((17 : Int32) &&& 31) = nI (131072 * (r % 64)) := by
  rw [gw_mod r 6 (by decide) (by decide), pk_shlN (n := r % 2 ^ 6) ((17 : Int32) &&& 31) 17 (by decide) (by omega)]
  exact congrArg nI (by omega)
theorem gn_s11 {r : Nat} : (nI r &&& 63) <<< ((11 : Int32) &&& 31) = nI (2048 * (r % 64)) := by
  rw [gw_mod r 6 (by decide) (by decide), pk_shlN (n := r % 2 ^ 6) ((11 : Int32) &&& 31) 11 (by decide) (by omega)]
  exact congrArg nI (by omega)
theorem gn_r17 {c : Nat} (h : c < 8388608) : (nI c >>> ((17 : Int32) &&& 31)) &&& 63 = nI (c / 131072 % 64) := by
  rw [pk_shrN (n := c) (by omega) ((17 : Int32) &&& 31) 17 (by decide), gw_mod _ 6 (by decide) (by decide)]
theorem gn_r11 {c : Nat} (h : c < 8388608) : (nI c >>> ((11 : Int32) &&& 31)) &&& 63 = nI (c / 2048 % 64) := by
  rw [pk_shrN (n := c) (by omega) ((11 : Int32) &&& 31) 11 (by decide), gw_mod _ 6 (by decide) (by decide)]
theorem gn_r23 {c : Nat} (h : c < 2147483648) : nI c >>> ((23 : Int32) &&& 31) = nI (c / 8388608) :=
  pk_shrN (by omega) _ 23 (gn_sh (b := 23) (by decide))
theorem gn_m23 (c : Nat) : nI c &&& 8388607 = nI (c % 8388608) := gw_mod c 23 (by decide) (by decide)
theorem gn_m9 (c : Nat) : nI c &&& 511 = nI (c % 512) := gw_mod c 9 (by decide) (by decide)
theorem gn_m8 (c : Nat) : nI c &&& 255 = nI (c % 256) := gw_mod c 8 (by decide) (by decide)
theorem gn_b8 (c : Nat) : (nI c &&& 256) = 0 ↔ c / 256 % 2 = 0 := gw_bit c 8 (by decide)
theorem gn_b9 (c : Nat) : (nI c &&& 512) = 0 ↔ c / 512 % 2 = 0 := gw_bit c 9 (by decide)
theorem gn_b10 (c : Nat) : (nI c &&& 1024) = 0 ↔ c / 1024 % 2 = 0 := gw_bit c 10 (by decide)
theorem gn_flip {c k : Nat} (hk : k < 31) : nI c ^^^ ((1 : Int32) <<< (nI k &&& 31)) = nI (c ^^^ 2 ^ k) := by
  have h2 : 2 ^ k ≤ 2 ^ 30 := Nat.pow_le_pow_right (by decide) (by omega)
  have h : (1 : Int32) <<< (nI k &&& 31) = nI (2 ^ k) := by
    have h3 := pk_shlN (n := 1) (nI k &&& 31) k (gn_sh (by omega)) (by omega)
    rw [Nat.one_mul] at h3
    exact h3
  rw [h, nx_xor]
theorem gn_bi (b : Bool) : gs_bi b = 0 ↔ b = false := by cases b <;> decide
theorem gn_neg {a b : Nat} (ha : a < 2 ^ 30) (hb : b < 2 ^ 30) : nI a - nI b < 0 ↔ a < b := by
  rw [Int32.lt_iff_toInt_lt, pk_sub_toInt ha hb, show (0 : Int32).toInt = 0 from by decide]
  omega
