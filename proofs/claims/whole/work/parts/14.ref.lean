/- the reference's walks -/
theorem gy_bad0 {post : Int32 → Prop} {yb mk cn gn : Nat → Int32} {s o : Nat} (q : gs_p o s) (hp : post 0) : wpY_bad post (yb, mk, cn, gn) (nI o) := by
  rcases q with ⟨rfl, rfl⟩ | ⟨rfl, rfl⟩
  · exact br_f (by decide) (br_t (by decide) hp)
  · exact br_f (by decide) (br_t (by decide) hp)
theorem gy_bad1 {post : Int32 → Prop} {yb mk cn gn : Nat → Int32} {x : Int32} (h : x < 0 ∨ ¬ x ≤ 1) (hp : post 1) : wpY_bad post (yb, mk, cn, gn) x := by
  by_cases h0 : x < 0
  · exact br_t h0 hp
  · exact br_f h0 (br_f (h.resolve_left h0) hp)
theorem gy_x (o i : Nat) : nI o * 30 + nI i = nI (30 * o + i) := by
  show nI o * nI 30 + nI i = _
  rw [pk_mul, nI_add, Nat.mul_comm]
theorem gy_i {s o : Nat} (q : gs_p o s) {i : Nat} (h : i < 30) : vp_in (nI (30 * o + i)) 60 := vp_in_nI (by unfold gs_p at q; omega) (by decide)
theorem gy_c {s o : Nat} (q : gs_p o s) {i : Nat} (h : i < 30) : (nI (30 * o + i)).toNatClampNeg = 30 * o + i := nI_clamp (by unfold gs_p at q; omega)
section
variable {yb mk cn gn : Nat → Int32} {s o : Nat}
theorem gy_off_l {post : SY → Prop} (q : gs_p o s) {n c g : Nat} (hn : n ≤ c) (hc : cn o = nI c) (hg : gn o = nI g) (hn30 : n ≤ 30) (hp : ∀ yb' mk', (∀ i, i + n < 30 → yb' (30 * o + i) = yb (30 * o + i + n) ∧ mk' (30 * o + i) = vp_nar .boolean (mk (30 * o + i + n))) → (∀ j, (j < 30 * o ∨ 30 * o + 30 ≤ j) → yb' j = yb j ∧ mk' j = mk j) → post (yb', mk', upd cn o (nI (c - n)), upd gn o (nI (g + n)))) : ∀ (d i : Nat) (y1 m1 : Nat → Int32), i + d = 30 - n → (∀ k, k < i → y1 (30 * o + k) = yb (30 * o + k + n) ∧ m1 (30 * o + k) = vp_nar .boolean (mk (30 * o + k + n))) → (∀ j, (j < 30 * o ∨ 30 * o + i ≤ j) → y1 j = yb j ∧ m1 j = mk j) → wY_off_2 post (nI o) (nI n) (d + 1) (nI i) y1 m1 cn gn := by
  intro d
  induction d with
  | zero =>
    intro i y1 m1 hi h1 h2
    have e1 : cn (nI o).toNatClampNeg - nI n = nI (c - n) := by rw [gm_c q, hc, pk_sub hn]
    have e2 : gn (nI o).toNatClampNeg + nI n = nI (g + n) := by rw [gm_c q, hg, nI_add]
    refine br_t ?_ ⟨gm_i2 q, gm_i2 q, nm_r (e' := upd cn o (nI (c - n))) ?_ ⟨gm_i2 q, gm_i2 q, nm_r (e' := upd gn o (nI (g + n))) ?_ ?_⟩⟩
    · rw [nI_add]; exact nI_le (a := 30) (by omega) (by omega)
    · rw [e1, gm_c q]
    · rw [e2, gm_c q]
    · exact hp y1 m1 (fun k hk => h1 k (by omega)) (fun j hj => h2 j (by omega))
  | succ d ih =>
    intro i y1 m1 hi h1 h2
    have hx : nI o * 30 + nI i = nI (30 * o + i) := gy_x o i
    have hx2 : nI o * 30 + nI i + nI n = nI (30 * o + (i + n)) := by rw [hx, nI_add, Nat.add_assoc]
    have i1 : vp_in (nI o * 30 + nI i + nI n) 60 := by rw [hx2]; exact gy_i q (by omega)
    have i2 : vp_in (nI o * 30 + nI i) 60 := by rw [hx]; exact gy_i q (by omega)
    have c1 : (nI o * 30 + nI i + nI n).toNatClampNeg = 30 * o + i + n := by rw [hx2, gy_c q (by omega), Nat.add_assoc]
    have c2 : (nI o * 30 + nI i).toNatClampNeg = 30 * o + i := by rw [hx]; exact gy_c q (by omega)
    have v := h2 (30 * o + i + n) (Or.inr (by omega))
    refine br_f ?_ ⟨i1, i2, nm_r (e' := upd y1 (30 * o + i) (yb (30 * o + i + n))) ?_ ⟨i1, i2, nm_r (e' := upd m1 (30 * o + i) (vp_nar .boolean (mk (30 * o + i + n)))) ?_ (nm_r (nI_1 i) (ih (i + 1) _ _ (by omega) ?_ ?_))⟩⟩
    · rw [nI_add]; exact nI_ge (b := 30) (by omega) (by decide)
    · rw [c1, c2, v.1]
    · rw [c1, c2, v.2]
    · intro k hk
      rcases Nat.lt_or_ge k i with h | h
      · rw [pk_un (by omega), pk_un (by omega)]; exact h1 k h
      · rw [show k = i by omega, pk_us, pk_us]; exact ⟨rfl, rfl⟩
    · intro j hj
      rw [pk_un (by omega), pk_un (by omega)]
      exact h2 j (by omega)
theorem gy_off {post : SY → Prop} (q : gs_p o s) {n c g : Nat} (hn : n ≤ c) (hc : cn o = nI c) (hg : gn o = nI g) (hn30 : n ≤ 30) (hp : ∀ yb' mk', (∀ i, i + n < 30 → yb' (30 * o + i) = yb (30 * o + i + n) ∧ mk' (30 * o + i) = vp_nar .boolean (mk (30 * o + i + n))) → (∀ j, (j < 30 * o ∨ 30 * o + 30 ≤ j) → yb' j = yb j ∧ mk' j = mk j) → post (yb', mk', upd cn o (nI (c - n)), upd gn o (nI (g + n)))) : wpY_off post (yb, mk, cn, gn) (nI o) (nI n) :=
  ⟨(30 - n) + 1, gy_off_l q hn hc hg hn30 hp (30 - n) 0 yb mk (Nat.zero_add _) (fun k hk => absurd hk (Nat.not_lt_zero k)) (fun _ _ => ⟨rfl, rfl⟩)⟩
theorem gy_at {a : Nat → Int32} (q : gs_p o s) {v : Int32} (h : a o = v) : a (nI o).toNatClampNeg = v := by rw [gm_c q]; exact h
theorem gy_msg {post : Int32 → Prop} {n : Nat} {c : Nat → Nat} (q : gs_p o s) (hb : n ≤ 30) (hc : cn o = nI n) (hm : ∀ i, i < n → mk (30 * o + i) = nI (c i / 256 % 2)) (hp : post (nI (gr_cnt c n))) : ∀ d i, i + d = n → wY_messages_14 post (nI o) yb mk cn gn (d + 1) (nI (gr_cnt c i)) (nI i) := by
  intro d
  induction d with
  | zero =>
    intro i hi
    refine ⟨gm_i2 q, br_t ?_ ?_⟩
    · rw [gy_at q hc]; exact nI_le (by omega) (by omega)
    · rw [show i = n by omega]; exact hp
  | succ d ih =>
    intro i hi
    have e : gr_cnt c (i + 1) = gr_cnt c i + c i / 256 % 2 := rfl
    have hi2 := ih (i + 1) (by omega)
    rw [e] at hi2
    have c2 : mk (nI o * 30 + nI i).toNatClampNeg = nI (c i / 256 % 2) := by rw [gy_x, gy_c q (by omega)]; exact hm i (by omega)
    refine ⟨gm_i2 q, br_f ?_ ⟨?_, ?_⟩⟩
    · rw [gy_at q hc]; exact nI_ge (by omega) (by omega)
    · rw [gy_x]; exact gy_i q (by omega)
    · by_cases h : c i / 256 % 2 = 0
      · rw [h] at hi2 c2
        exact br_t c2 (nm_r (nI_1 i) hi2)
      · have h1 : c i / 256 % 2 = 1 := by omega
        rw [h1] at hi2 c2
        exact br_f (by rw [c2]; decide) (nm_r (nI_1 _) (nm_r (nI_1 i) hi2))
theorem gy_sum {post : Int32 → Prop} {n : Nat} {c : Nat → Nat} (q : gs_p o s) (hb : n ≤ 30) (hc : cn o = nI n) (hm : ∀ i, i < n → yb (30 * o + i) = nI (c i % 256)) (hp : post (nI (gr_sum c n))) : ∀ d i, i + d = n → wY_sum_14 post (nI o) yb mk cn gn (d + 1) (nI (gr_sum c i)) (nI i) := by
  intro d
  induction d with
  | zero =>
    intro i hi
    refine ⟨gm_i2 q, br_t ?_ ?_⟩
    · rw [gy_at q hc]; exact nI_le (by omega) (by omega)
    · rw [show i = n by omega]; exact hp
  | succ d ih =>
    intro i hi
    have e : gr_sum c (i + 1) = gr_sum c i + c i % 256 := rfl
    have hi2 := ih (i + 1) (by omega)
    rw [e] at hi2
    have c2 : yb (nI o * 30 + nI i).toNatClampNeg = nI (c i % 256) := by rw [gy_x, gy_c q (by omega)]; exact hm i (by omega)
    refine ⟨gm_i2 q, br_f ?_ ⟨?_, nm_r (e' := nI (gr_sum c i + c i % 256)) ?_ (nm_r (nI_1 i) hi2)⟩⟩
    · rw [gy_at q hc]; exact nI_ge (by omega) (by omega)
    · rw [gy_x]; exact gy_i q (by omega)
    · rw [c2, nI_add]
theorem gy_tmA {post : Int32 → SY → Prop} {n : Nat} {c : Nat → Nat} (q : gs_p o s) (hb : n ≤ 30) (hc : cn o = nI n) (hm : ∀ i, i < n → mk (30 * o + i) = nI (c i / 256 % 2)) {m : Nat} (hmn : m < n) (h1 : c m / 256 % 2 = 1) (h0 : ∀ j, j < m → c j / 256 % 2 = 0) (hp : wpY_off (fun u => post (nI (m + 1)) u) (yb, mk, cn, gn) (nI o) (nI (m + 1))) : ∀ d i, i + d = m → wY_takeMessage_12 post (nI o) yb mk cn gn (d + 1) (nI i) := by
  intro d
  induction d with
  | zero =>
    intro i hi
    have hi' : i = m := by omega
    subst hi'
    have c2 : mk (nI o * 30 + nI i).toNatClampNeg = nI (c i / 256 % 2) := by rw [gy_x, gy_c q (by omega)]; exact hm i (by omega)
    rw [h1] at c2
    refine ⟨gm_i2 q, br_f ?_ ⟨?_, br_f (by rw [c2]; decide) ?_⟩⟩
    · rw [gy_at q hc]; exact nI_ge (by omega) (by omega)
    · rw [gy_x]; exact gy_i q (by omega)
    · rw [nI_1]; exact hp
  | succ d ih =>
    intro i hi
    have c2 : mk (nI o * 30 + nI i).toNatClampNeg = nI (c i / 256 % 2) := by rw [gy_x, gy_c q (by omega)]; exact hm i (by omega)
    rw [h0 i (by omega)] at c2
    refine ⟨gm_i2 q, br_f ?_ ⟨?_, br_t c2 (nm_r (nI_1 i) (ih (i + 1) (by omega)))⟩⟩
    · rw [gy_at q hc]; exact nI_ge (by omega) (by omega)
    · rw [gy_x]; exact gy_i q (by omega)
theorem gy_tmB {post : Int32 → SY → Prop} {n : Nat} {c : Nat → Nat} (q : gs_p o s) (hb : n ≤ 30) (hc : cn o = nI n) (hm : ∀ i, i < n → mk (30 * o + i) = nI (c i / 256 % 2)) (h0 : ∀ j, j < n → c j / 256 % 2 = 0) (hp : post (-3) (yb, mk, cn, gn)) : ∀ d i, i + d = n → wY_takeMessage_12 post (nI o) yb mk cn gn (d + 1) (nI i) := by
  intro d
  induction d with
  | zero =>
    intro i hi
    refine ⟨gm_i2 q, br_t ?_ hp⟩
    rw [gy_at q hc]; exact nI_le (by omega) (by omega)
  | succ d ih =>
    intro i hi
    have c2 : mk (nI o * 30 + nI i).toNatClampNeg = nI (c i / 256 % 2) := by rw [gy_x, gy_c q (by omega)]; exact hm i (by omega)
    rw [h0 i (by omega)] at c2
    refine ⟨gm_i2 q, br_f ?_ ⟨?_, br_t c2 (nm_r (nI_1 i) (ih (i + 1) (by omega)))⟩⟩
    · rw [gy_at q hc]; exact nI_ge (by omega) (by omega)
    · rw [gy_x]; exact gy_i q (by omega)
end
