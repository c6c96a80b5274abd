/- the questions, once the line has finished -/
theorem gx_no0 {post : Int32 → Prop} {s o : Nat} (q : gs_p o s) (hp : post 0) : wpX_isNoStation post (nI o) := by
  rcases q with ⟨rfl, rfl⟩ | ⟨rfl, rfl⟩
  · exact br_t rfl hp
  · exact br_f (by decide) (br_t rfl hp)
theorem gx_no1 {post : Int32 → Prop} {x : Int32} (h0 : ¬ x = 0) (h1 : ¬ x = 1) (hp : post 1) : wpX_isNoStation post x := br_f h0 (br_f h1 hp)
section
variable {w : Nat} {ob : Nat → Int32} {G C T : Nat → Nat} {ib : Nat → Int32} {R K : Nat → Nat} {ow ak : Nat → Bool} {ln : Nat → Int32} {O N : Nat → Nat} {s o : Nat}
theorem gx_cw {post : Int32 → Prop} {n : Nat} (q : gs_p o s) (hn : R o = K o + n) (hp : post (nI n)) : wpX_countWaiting post (gs_U w ob G C T ib R K ow ak ln O N) (nI o) := by
  refine ⟨gm_i2 q, gm_i2 q, ?_⟩
  have e : (fun j => nI (R j)) (nI o).toNatClampNeg - (fun j => nI (K j)) (nI o).toNatClampNeg = nI n := by
    rw [gm_at q R, gm_at q K, pk_sub (by omega)]; exact congrArg nI (by omega)
  exact (congrArg post e).mpr hp
theorem gx_cell {post : Int32 → Prop} (q : gs_p o s) (i : Nat) (hp : post (ib (32 * o + (K o + i) % 32))) : wpX_cellAt post (gs_U w ob G C T ib R K ow ak ln O N) (nI o) (nI i) := by
  refine ⟨gm_i2 q, ?_⟩
  rw [gm_at q K, nI_add]
  refine gm_place _ o (K o + i) ⟨gm_i64 q _, ?_⟩
  rw [gm_c64 q]
  exact hp
theorem gx_nw {post : Int32 → Prop} {n : Nat} {x : Int32} (q : gs_p o s) (hn : R o = K o + n) (hb : n < 100) (h0 : ∀ i, i < n → x = nI i → post 0) (h1 : (x < 0 ∨ ¬ x < nI n) → post 1) : wpX_isNotWaiting post (gs_U w ob G C T ib R K ow ak ln O N) (nI o) x := by
  refine br_c (fun z => h1 (Or.inl z)) (fun z => gx_cw q hn (br_c (fun z2 => ?_) (fun z2 => h1 (Or.inr z2))))
  obtain ⟨j, hj, e⟩ := nI_of z
  rw [e] at z2
  exact h0 j ((nI_ltI hj (by omega)).mp z2) e
theorem gx_fmlA {post : Int32 → Prop} {n : Nat} {c : Nat → Nat} (q : gs_p o s) (hb : n < 100) (hc : ∀ i, i < n → ib (32 * o + (K o + i) % 32) = nI (c i)) {m : Nat} (hm : m < n) (h1 : c m / 256 % 2 = 1) (h0 : ∀ j, j < m → c j / 256 % 2 = 0) (hp : post (nI (m + 1))) : ∀ d i, i + d = m → wX_firstMessageLength_8 post (nI o) (nI n) (nI w) ob (fun j => nI (G j)) (fun j => nI (C j)) (fun j => nI (T j)) ib (fun j => nI (R j)) (fun j => nI (K j)) (fun j => gs_bi (ow j)) (fun j => gs_bi (ak j)) ln (fun j => nI (O j)) (fun j => nI (N j)) (d + 1) (nI i) := by
  intro d
  induction d with
  | zero =>
    intro i hi
    refine br_f (nI_ge (by omega) (by omega)) (gx_cell q i ?_)
    rw [hc i (by omega)]
    refine br_f ?_ ?_
    · rw [gn_b8, show i = m by omega, h1]; decide
    · rw [nI_1, show i = m by omega]; exact hp
  | succ d ih =>
    intro i hi
    refine br_f (nI_ge (by omega) (by omega)) (gx_cell q i ?_)
    rw [hc i (by omega)]
    refine br_t ?_ (nm_r (nI_1 i) (ih (i + 1) (by omega)))
    rw [gn_b8, h0 i (by omega)]
theorem gx_fmlB {post : Int32 → Prop} {n : Nat} {c : Nat → Nat} (q : gs_p o s) (hb : n < 100) (hc : ∀ i, i < n → ib (32 * o + (K o + i) % 32) = nI (c i)) (h0 : ∀ j, j < n → c j / 256 % 2 = 0) (hp : post 0) : ∀ d i, i + d = n → wX_firstMessageLength_8 post (nI o) (nI n) (nI w) ob (fun j => nI (G j)) (fun j => nI (C j)) (fun j => nI (T j)) ib (fun j => nI (R j)) (fun j => nI (K j)) (fun j => gs_bi (ow j)) (fun j => gs_bi (ak j)) ln (fun j => nI (O j)) (fun j => nI (N j)) (d + 1) (nI i) := by
  intro d
  induction d with
  | zero =>
    intro i hi
    exact br_t (nI_le (by omega) (by omega)) hp
  | succ d ih =>
    intro i hi
    refine br_f (nI_ge (by omega) (by omega)) (gx_cell q i ?_)
    rw [hc i (by omega)]
    refine br_t ?_ (nm_r (nI_1 i) (ih (i + 1) (by omega)))
    rw [gn_b8, h0 i (by omega)]
theorem gx_fml1 {post : Int32 → Prop} {n : Nat} {c : Nat → Nat} (q : gs_p o s) (hn : R o = K o + n) (hb : n < 100) (hc : ∀ i, i < n → ib (32 * o + (K o + i) % 32) = nI (c i)) {m : Nat} (hm : m < n) (h1 : c m / 256 % 2 = 1) (h0 : ∀ j, j < m → c j / 256 % 2 = 0) (hp : post (nI (m + 1))) : wpX_firstMessageLength post (gs_U w ob G C T ib R K ow ak ln O N) (nI o) := by
  unfold wpX_firstMessageLength
  refine gx_cw q hn ?_
  exact ⟨m + 1, gx_fmlA q hb hc hm h1 h0 hp m 0 (Nat.zero_add _)⟩
theorem gx_fml0 {post : Int32 → Prop} {n : Nat} {c : Nat → Nat} (q : gs_p o s) (hn : R o = K o + n) (hb : n < 100) (hc : ∀ i, i < n → ib (32 * o + (K o + i) % 32) = nI (c i)) (h0 : ∀ j, j < n → c j / 256 % 2 = 0) (hp : post 0) : wpX_firstMessageLength post (gs_U w ob G C T ib R K ow ak ln O N) (nI o) := by
  unfold wpX_firstMessageLength
  refine gx_cw q hn ?_
  exact ⟨n + 1, gx_fmlB q hb hc h0 hp n 0 (Nat.zero_add _)⟩
theorem gx_msg {post : Int32 → SX → Prop} {n : Nat} {c : Nat → Nat} (q : gs_p o s) (hb : n < 100) (hc : ∀ i, i < n → ib (32 * o + (K o + i) % 32) = nI (c i)) (hp : post (nI (gr_cnt c n)) (gs_U w ob G C T ib R K ow ak ln O N)) : ∀ d i, i + d = n → wX_messages_24 post (nI o) (nI n) (nI w) ob (fun j => nI (G j)) (fun j => nI (C j)) (fun j => nI (T j)) ib (fun j => nI (R j)) (fun j => nI (K j)) (fun j => gs_bi (ow j)) (fun j => gs_bi (ak j)) ln (fun j => nI (O j)) (fun j => nI (N j)) (d + 1) (nI (gr_cnt c i)) (nI i) := by
  intro d
  induction d with
  | zero =>
    intro i hi
    refine br_t (nI_le (by omega) (by omega)) ?_
    rw [show i = n by omega]; exact hp
  | succ d ih =>
    intro i hi
    have e : gr_cnt c (i + 1) = gr_cnt c i + c i / 256 % 2 := rfl
    refine br_f (nI_ge (by omega) (by omega)) (gx_cell q i ?_)
    rw [hc i (by omega)]
    have hi2 := ih (i + 1) (by omega)
    rw [e] at hi2
    by_cases h : c i / 256 % 2 = 0
    · rw [h] at hi2
      exact br_t ((gn_b8 _).mpr h) (nm_r (nI_1 i) hi2)
    · rw [show c i / 256 % 2 = 1 by omega] at hi2
      exact br_f (fun z => h ((gn_b8 _).mp z)) (nm_r (nI_1 _) (nm_r (nI_1 i) hi2))
theorem gx_sum {post : Int32 → SX → Prop} {n : Nat} {c : Nat → Nat} (q : gs_p o s) (hb : n < 100) (hc : ∀ i, i < n → ib (32 * o + (K o + i) % 32) = nI (c i)) (hp : post (nI (gr_sum c n)) (gs_U w ob G C T ib R K ow ak ln O N)) : ∀ d i, i + d = n → wX_sum_24 post (nI o) (nI n) (nI w) ob (fun j => nI (G j)) (fun j => nI (C j)) (fun j => nI (T j)) ib (fun j => nI (R j)) (fun j => nI (K j)) (fun j => gs_bi (ow j)) (fun j => gs_bi (ak j)) ln (fun j => nI (O j)) (fun j => nI (N j)) (d + 1) (nI (gr_sum c i)) (nI i) := by
  intro d
  induction d with
  | zero =>
    intro i hi
    refine br_t (nI_le (by omega) (by omega)) ?_
    rw [show i = n by omega]; exact hp
  | succ d ih =>
    intro i hi
    have e : gr_sum c (i + 1) = gr_sum c i + c i % 256 := rfl
    refine br_f (nI_ge (by omega) (by omega)) (gx_cell q i ?_)
    rw [hc i (by omega)]
    have hi2 := ih (i + 1) (by omega)
    rw [e] at hi2
    refine nm_r (e' := nI (gr_sum c i + c i % 256)) ?_ (nm_r (nI_1 i) hi2)
    rw [gn_m8, nI_add]
theorem gx_reset {post : SX → Prop} (hp : post (gs_U w ob (gb_u (gb_u G 0 0) 1 0) (gb_u (gb_u C 0 0) 1 0) (gb_u (gb_u T 0 0) 1 0) ib (gb_u (gb_u R 0 0) 1 0) (gb_u (gb_u K 0 0) 1 0) (gb_u (gb_u ow 0 false) 1 false) (gb_u (gb_u ak 0 false) 1 false) ln (gb_u (gb_u O 0 0) 1 0) (gb_u (gb_u N 0 0) 1 0))) : wpX_reset post (gs_U w ob G C T ib R K ow ak ln O N) := by
  refine ⟨3, br_f (by decide) ?_⟩
  have i0 := gm_i2 gm_p0
  have i1 := gm_i2 gm_p1
  refine ⟨i0, nm_r (gm_ui gm_p0 G 0 rfl) ⟨i0, nm_r (gm_ui gm_p0 C 0 rfl) ⟨i0, nm_r (gm_ui gm_p0 T 0 rfl) ⟨i0, nm_r (gm_ui gm_p0 R 0 rfl) ⟨i0, nm_r (gm_ui gm_p0 K 0 rfl) ⟨i0, nm_r (gm_ub gm_p0 ow false gm_n0) ⟨i0, nm_r (gm_ub gm_p0 ak false gm_n0) ⟨i0, nm_r (gm_ui gm_p0 O 0 rfl) ⟨i0, nm_r (gm_ui gm_p0 N 0 rfl) (nm_r (nI_1 0) ?_)⟩⟩⟩⟩⟩⟩⟩⟩⟩
  refine br_f (by decide) ?_
  refine ⟨i1, nm_r (gm_ui gm_p1 _ 0 rfl) ⟨i1, nm_r (gm_ui gm_p1 _ 0 rfl) ⟨i1, nm_r (gm_ui gm_p1 _ 0 rfl) ⟨i1, nm_r (gm_ui gm_p1 _ 0 rfl) ⟨i1, nm_r (gm_ui gm_p1 _ 0 rfl) ⟨i1, nm_r (gm_ub gm_p1 _ false gm_n0) ⟨i1, nm_r (gm_ub gm_p1 _ false gm_n0) ⟨i1, nm_r (gm_ui gm_p1 _ 0 rfl) ⟨i1, nm_r (gm_ui gm_p1 _ 0 rfl) (nm_r (nI_1 1) ?_)⟩⟩⟩⟩⟩⟩⟩⟩⟩
  exact br_t (by decide) hp
end
