/- words: or of parts that don't meet is their sum -/
theorem gw_or (a b : Nat) : nI a ||| nI b = nI (a ||| b) := by
  apply Int32.toBitVec_inj.mp
  show BitVec.ofNat 32 a ||| BitVec.ofNat 32 b = BitVec.ofNat 32 (a ||| b)
  exact BitVec.ofNat_or.symm
theorem gw_dis (i : Nat) {a b : Nat} (h : b < 2 ^ i) : nI (2 ^ i * a) ||| nI b = nI (2 ^ i * a + b) := by
  rw [gw_or, Nat.two_pow_add_eq_or_of_lt h]
theorem gw_dis' (i : Nat) {a b : Nat} (h : b < 2 ^ i) : nI b ||| nI (2 ^ i * a) = nI (2 ^ i * a + b) := by
  rw [gw_or, Nat.or_comm, Nat.two_pow_add_eq_or_of_lt h]
theorem gw_e2 (e : Nat) : nI (131072 * e) ||| 1024 = nI (131072 * e + 1024) := gw_dis 17 (a := e) (b := 1024) (by decide)
theorem gw_cell {b : Nat} (h : b < 256) : nI b ||| 256 = nI (256 + b) := gw_dis' 8 (a := 1) (b := b) (by omega)
theorem gw_e3 {e a b : Nat} (hb : b < 512) : nI (131072 * e + 1024 * a) ||| (512 ||| nI b) = nI (131072 * e + 1024 * a + (512 + b)) := by
  have h1 : (512 : Int32) ||| nI b = nI (512 + b) := gw_dis 9 (a := 1) (b := b) (by omega)
  rw [h1]
  have h2 : 131072 * e + 1024 * a = 2 ^ 10 * (128 * e + a) := by omega
  rw [h2]
  exact gw_dis 10 (by omega)
theorem gw_e4 {e y n : Nat} (hy : y < 2048) (hn : n < 64) : nI (131072 * e + y) ||| nI (2048 * n) = nI (131072 * e + (2048 * n + y)) := by
  have h1 : 131072 * e + y = 131072 * e ||| y := Nat.two_pow_add_eq_or_of_lt (i := 17) (by omega) e
  have h2 : 2048 * n + y = 2048 * n ||| y := Nat.two_pow_add_eq_or_of_lt (i := 11) (by omega) n
  have h3 : 131072 * e + (2048 * n + y) = 131072 * e ||| (2048 * n + y) := Nat.two_pow_add_eq_or_of_lt (i := 17) (by omega) e
  rw [gw_or, h3, h2, h1, Nat.or_assoc, Nat.or_comm y]
theorem gw_e5 {c r : Nat} (hc : c < 8388608) : nI c ||| nI (r * 8388608) = nI (c + r * 8388608) := by
  have h := gw_dis' 23 (a := r) (b := c) hc
  rw [show (2 : Nat) ^ 23 * r = r * 8388608 by omega] at h
  rw [h, Nat.add_comm]
theorem gw_bit (c i : Nat) (hi : i < 31) : (nI c &&& nI (2 ^ i)) = 0 ↔ c / 2 ^ i % 2 = 0 := by
  have hp : 2 ^ i ≤ 2 ^ 30 := Nat.pow_le_pow_right (by decide) (by omega)
  have hle : c &&& 2 ^ i ≤ 2 ^ i := Nat.and_le_right
  rw [nx_and, ← nI_0, nI_eq (by omega) (by decide)]
  have ht : c.testBit i = decide (c / 2 ^ i % 2 = 1) := Nat.testBit_eq_decide_div_mod_eq
  constructor
  · intro h
    have h2 : (c &&& 2 ^ i).testBit i = false := by rw [h]; exact Nat.zero_testBit i
    rw [Nat.testBit_and, Nat.testBit_two_pow, ht] at h2
    simp only [decide_true, Bool.and_true, decide_eq_false_iff_not] at h2
    generalize c / 2 ^ i = z at h2 ⊢
    omega
  · intro h
    apply Nat.eq_of_testBit_eq
    intro j
    rw [Nat.testBit_and, Nat.testBit_two_pow, Nat.zero_testBit]
    by_cases e : i = j
    · subst e
      rw [ht, h]; rfl
    · rw [decide_eq_false e, Bool.and_false]
/-- the difference of two numbers, by 64 -/
theorem gw_sub63 {a b : Nat} (hb : b < 2 ^ 31) : (nI a - nI b) &&& 63 = nI ((a + 63 * b) % 64) := by
  have h : nI a - nI b = nI (a + (4294967296 - b)) := by
    rw [← nI_add]
    have h2 : nI (4294967296 - b) = - nI b := by
      have h3 : nI (4294967296 - b) + nI b = 0 := by
        rw [nI_add, show 4294967296 - b + b = 4294967296 by omega]; decide
      have h4 := congrArg (fun z => z - nI b) h3
      simp only [Int32.add_sub_cancel, Int32.zero_sub] at h4
      exact h4
    rw [h2, Int32.sub_eq_add_neg]
  rw [h, pk_and _ 6 (by decide)]
  apply congrArg nI
  show (a + (4294967296 - b)) % 2 ^ 32 % 2 ^ 6 = _
  omega
theorem gw_mod (n i : Nat) (hi : i ≤ 32) {m : Int32} (hm : m.toBitVec.toNat = 2 ^ i - 1) : nI n &&& m = nI (n % 2 ^ i) := by
  rw [pk_and _ i hm]
  apply congrArg nI
  show n % 2 ^ 32 % 2 ^ i = n % 2 ^ i
  exact Nat.mod_mod_of_dvd _ (Nat.pow_dvd_pow 2 hi)
/-- the content of a frame, and the whole word; B holds the cells -/
def gw_c (B : Nat → Nat) (f : gb_F) : Nat := 131072 * (f.1.2 % 64) + (2048 * (if f.2.1 = true then f.1.1 % 64 else 0) + (1024 * (if f.2.2 = true then 1 else 0) + (if f.2.1 = true then 512 + B f.1.1 else 0)))
def gw_w (B : Nat → Nat) (f : gb_F) : Nat := gw_c B f + gc_crc (gw_c B f) * 8388608
theorem gw_dec {B : Nat → Nat} {f : gb_F} (h : ∀ j, B j < 512) : gw_c B f < 8388608 ∧ gw_c B f / 131072 % 64 = f.1.2 % 64 ∧ gw_c B f / 512 % 2 = (if f.2.1 = true then 1 else 0) ∧ gw_c B f / 1024 % 2 = (if f.2.2 = true then 1 else 0) ∧ (f.2.1 = true → gw_c B f / 2048 % 64 = f.1.1 % 64 ∧ gw_c B f % 512 = B f.1.1) := by
  have hb := h f.1.1
  unfold gw_c
  generalize B f.1.1 = b at hb ⊢
  generalize f.1.1 = n
  generalize f.1.2 = e
  generalize f.2.1 = d
  generalize f.2.2 = a
  cases d <;> cases a <;> simp only [Bool.false_eq_true, if_false, if_true, false_imp_iff, true_imp_iff, and_true] <;> omega
theorem gw_wd {B : Nat → Nat} {f : gb_F} (h : ∀ j, B j < 512) : gw_w B f % 8388608 = gw_c B f ∧ gw_w B f / 8388608 = gc_crc (gw_c B f) ∧ gw_w B f < 2147483648 := by
  have h1 := (gw_dec (f := f) h).1
  have h2 : gc_crc (gw_c B f) < 256 := gc_crc_lt h1
  unfold gw_w
  generalize gc_crc (gw_c B f) = r at h2 ⊢
  generalize gw_c B f = c at h1 ⊢
  omega
theorem gw_same {B B' : Nat → Nat} {f : gb_F} (h : f.2.1 = true → B f.1.1 = B' f.1.1) : gw_w B f = gw_w B' f := by
  have e : gw_c B f = gw_c B' f := by
    unfold gw_c
    by_cases hd : f.2.1 = true
    · rw [h hd]
    · rw [if_neg hd, if_neg hd, if_neg hd]
  unfold gw_w
  rw [e]
