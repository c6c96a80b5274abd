/- the check, over naturals: bit b + 8 of the rest, cleared by 263 * 2^b -/
def gc_st (b r : Nat) : Nat := if r.testBit (b + 8) = true then r ^^^ (263 * 2 ^ b) else r
def gc_run : Nat → Nat → Nat
  | 0, r => r
  | n + 1, r => gc_run n (gc_st n r)
def gc_crc (c : Nat) : Nat := gc_run 23 (c * 2 ^ 8)
theorem gc_x4 (x y p : Nat) : x ^^^ y = (x ^^^ p) ^^^ (y ^^^ p) := by
  apply Nat.eq_of_testBit_eq
  intro i
  simp only [Nat.testBit_xor]
  cases x.testBit i <;> cases y.testBit i <;> cases p.testBit i <;> rfl
theorem gc_x3 (x y p : Nat) : (x ^^^ y) ^^^ p = x ^^^ (y ^^^ p) := Nat.xor_assoc x y p
theorem gc_x3' (x y p : Nat) : (x ^^^ y) ^^^ p = (x ^^^ p) ^^^ y := by
  apply Nat.eq_of_testBit_eq
  intro i
  simp only [Nat.testBit_xor]
  cases x.testBit i <;> cases y.testBit i <;> cases p.testBit i <;> rfl
theorem gc_st_lin (b x y : Nat) : gc_st b (x ^^^ y) = gc_st b x ^^^ gc_st b y := by
  unfold gc_st
  rw [Nat.testBit_xor]
  cases x.testBit (b + 8) <;> cases y.testBit (b + 8)
  · rfl
  · exact gc_x3 x y _
  · exact gc_x3' x y _
  · exact gc_x4 x y _
theorem gc_run_lin (n : Nat) : ∀ x y, gc_run n (x ^^^ y) = gc_run n x ^^^ gc_run n y := by
  induction n with
  | zero => intro x y; rfl
  | succ n ih => intro x y; show gc_run n (gc_st n (x ^^^ y)) = _; rw [gc_st_lin]; exact ih _ _
theorem gc_lin (x y : Nat) : gc_crc (x ^^^ y) = gc_crc x ^^^ gc_crc y := by
  unfold gc_crc
  have h : (x ^^^ y) * 2 ^ 8 = (x * 2 ^ 8) ^^^ (y * 2 ^ 8) := by
    apply Nat.eq_of_testBit_eq
    intro i
    simp only [Nat.testBit_xor, Nat.testBit_mul_two_pow]
    cases decide (8 ≤ i) <;> simp
  rw [h, gc_run_lin]
theorem gc_low {n x : Nat} (h : x < 2 ^ (n + 1)) (hb : x.testBit n = false) : x < 2 ^ n := by
  apply Nat.lt_pow_two_of_testBit
  intro i hi
  rcases Nat.lt_or_ge n i with h1 | h1
  · exact Nat.testBit_lt_two_pow (Nat.lt_of_lt_of_le h (Nat.pow_le_pow_right (by decide) h1))
  · rw [Nat.le_antisymm h1 hi]; exact hb
theorem gc_p (b : Nat) : 263 * 2 ^ b < 2 ^ (b + 9) ∧ (263 * 2 ^ b).testBit (b + 8) = true := by
  have h9 : 2 ^ (b + 9) = 2 ^ b * 512 := Nat.pow_add 2 b 9
  have h8 : 2 ^ (b + 8) = 2 ^ b * 256 := Nat.pow_add 2 b 8
  have h0 : 0 < 2 ^ b := Nat.two_pow_pos b
  have hlt : 263 * 2 ^ b < 2 ^ (b + 9) := by rw [h9]; omega
  refine ⟨hlt, Nat.testBit_of_two_pow_le_and_two_pow_add_one_gt ?_ hlt⟩
  rw [h8]; omega
theorem gc_st_lt {b r : Nat} (h : r < 2 ^ (b + 9)) : gc_st b r < 2 ^ (b + 8) := by
  unfold gc_st
  have hp := gc_p b
  cases hb : r.testBit (b + 8) with
  | false => rw [if_neg (by decide)]; exact gc_low h hb
  | true =>
    rw [if_pos rfl]
    apply gc_low (Nat.xor_lt_two_pow h hp.1)
    rw [Nat.testBit_xor, hb, hp.2]
    rfl
theorem gc_run_lt (n : Nat) : ∀ r, r < 2 ^ (n + 8) → gc_run n r < 256 := by
  induction n with
  | zero => intro r h; exact h
  | succ n ih => intro r h; exact ih _ (gc_st_lt (b := n) (by rw [show n + 9 = n + 1 + 8 by omega]; exact h))
theorem gc_crc_lt {c : Nat} (h : c < 2 ^ 23) : gc_crc c < 256 := gc_run_lt 23 _ (by rw [show 2 ^ (23 + 8) = 2 ^ 23 * 2 ^ 8 from Nat.pow_add 2 23 8]; exact Nat.mul_lt_mul_of_pos_right h (by decide))
theorem gc_one : ∀ k, k < 23 → gc_crc (2 ^ k) ≠ 0 := by decide +kernel
theorem gc_xne {x y : Nat} (h : y ≠ 0) : x ^^^ y ≠ x := by
  intro e
  apply h
  have e2 : x ^^^ (x ^^^ y) = x ^^^ x := congrArg (fun z => x ^^^ z) e
  rw [← Nat.xor_assoc, Nat.xor_self, Nat.zero_xor] at e2
  exact e2
/-- one bit of a frame turned round: the check fails -/
theorem gc_dam {c k : Nat} (hc : c < 2 ^ 23) (hk : k < 31) : gc_crc (((c + gc_crc c * 2 ^ 23) ^^^ 2 ^ k) % 2 ^ 23) ≠ ((c + gc_crc c * 2 ^ 23) ^^^ 2 ^ k) / 2 ^ 23 := by
  rw [Nat.xor_mod_two_pow, Nat.xor_div_two_pow]
  have e1 : (c + gc_crc c * 2 ^ 23) % 2 ^ 23 = c := by rw [Nat.add_mul_mod_self_right]; exact Nat.mod_eq_of_lt hc
  have e2 : (c + gc_crc c * 2 ^ 23) / 2 ^ 23 = gc_crc c := by rw [Nat.add_mul_div_right _ _ (by decide), Nat.div_eq_of_lt hc, Nat.zero_add]
  rw [e1, e2]
  rcases Nat.lt_or_ge k 23 with h | h
  · have h1 : 2 ^ k < 2 ^ 23 := Nat.pow_lt_pow_right (by decide) h
    rw [Nat.mod_eq_of_lt h1, Nat.div_eq_of_lt h1, Nat.xor_zero, gc_lin]
    exact gc_xne (gc_one k h)
  · obtain ⟨j, rfl⟩ : ∃ j, k = 23 + j := ⟨k - 23, by omega⟩
    have h1 : 2 ^ (23 + j) = 2 ^ 23 * 2 ^ j := Nat.pow_add 2 23 j
    rw [h1, Nat.mul_mod_right, Nat.mul_div_cancel_left _ (by decide), Nat.xor_zero]
    exact (gc_xne (Nat.ne_of_gt (Nat.two_pow_pos j))).symm
