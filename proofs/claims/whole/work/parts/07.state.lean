/- the state, what a walk leaves behind, and the reference's state beside it -/
abbrev gs_U (w : Nat) (ob : Nat → Int32) (G C T : Nat → Nat) (ib : Nat → Int32) (R K : Nat → Nat) (ow ak : Nat → Bool) (ln : Nat → Int32) (O N : Nat → Nat) : SX :=
  (nI w, ob, fun j => nI (G j), fun j => nI (C j), fun j => nI (T j), ib, fun j => nI (R j), fun j => nI (K j), fun j => gs_bi (ow j), fun j => gs_bi (ak j), ln, fun j => nI (O j), fun j => nI (N j))
def gs_Post (w : Nat) (ob : Nat → Int32) (G K : Nat → Nat) (B : Nat → Nat → Nat) (m : Nat) (zz ss : Nat → Prop) (post : SX → Prop) : Prop :=
  ∀ (C T : Nat → Nat) (ib : Nat → Int32) (R : Nat → Nat) (ow ak : Nat → Bool) (ln : Nat → Int32) (O N : Nat → Nat) (L : Nat → List gb_F),
    gs_Ok w ob G C T ib R K ln O N L B → gs_mu G T R ow ak L ≤ m → (∀ s o, gs_p s o → zz s → gs_Zd G C T R ow ak L s o) → (∀ s, ss s → gs_Sat G T ow ak L s) → post (gs_U w ob G C T ib R K ow ak ln O N)
theorem gs_Post_w {w : Nat} {ob : Nat → Int32} {G K : Nat → Nat} {B : Nat → Nat → Nat} {m m' : Nat} {zz zz' ss ss' : Nat → Prop} {post : SX → Prop} (h : gs_Post w ob G K B m zz ss post) (hm : m' ≤ m) (hz : ∀ s, zz s → zz' s) (hs : ∀ s, ss s → ss' s) : gs_Post w ob G K B m' zz' ss' post :=
  fun C T ib R ow ak ln O N L h1 h2 h3 h4 => h C T ib R ow ak ln O N L h1 (Nat.le_trans h2 hm) (fun s o p z => h3 s o p (hz s z)) (fun s z => h4 s (hs s z))
def gs_Fin (w : Nat) (ob : Nat → Int32) (G K : Nat → Nat) (B : Nat → Nat → Nat) (post : SX → Prop) : Prop :=
  ∀ (C T : Nat → Nat) (ib : Nat → Int32) (R : Nat → Nat) (ow ak : Nat → Bool) (ln : Nat → Int32) (O N : Nat → Nat) (L : Nat → List gb_F),
    gs_Ok w ob G C T ib R K ln O N L B → (∀ s, s < 2 → gs_Sat G T ow ak L s ∧ L s = []) → (∀ s o, gs_p s o → C s = G s ∧ R o = G s) → post (gs_U w ob G C T ib R K ow ak ln O N)
def gr_Y (G K : Nat → Nat) (B : Nat → Nat → Nat) (yb mk cn gn : Nat → Int32) : Prop :=
  ∀ s o, gs_p s o → cn o = nI (G s - K o) ∧ gn o = nI (K o) ∧ ∀ i, i < G s - K o → yb (30 * o + i) = nI (B s (K o + i) % 256) ∧ mk (30 * o + i) = nI (B s (K o + i) / 256 % 2)
theorem gr_give {w : Nat} {ob : Nat → Int32} {G C T : Nat → Nat} {ib : Nat → Int32} {R K : Nat → Nat} {ln : Nat → Int32} {O N : Nat → Nat} {L : Nat → List gb_F} {B : Nat → Nat → Nat} {yb mk cn gn : Nat → Int32} {s o b e : Nat} (h : gs_Ok w ob G C T ib R K ln O N L B) (y : gr_Y G K B yb mk cn gn) (p : gs_p s o) (hG : G s < K o + 30) (hb : b < 256) (he : e < 2) : gr_Y (gb_u G s (G s + 1)) K (gb_u B s (gb_u (B s) (G s) (256 * e + b))) (upd yb (30 * o + (G s - K o)) (nI b)) (upd mk (30 * o + (G s - K o)) (nI e)) (upd cn o (nI (G s - K o + 1))) gn := by
  intro x z q
  have hy := y x z q
  have hD := (h.2 x z q).1.1
  rcases gs_two p q with ⟨rfl, rfl⟩ | ⟨rfl, rfl⟩
  · simp only [gb_us]
    refine ⟨?_, hy.2.1, ?_⟩
    · rw [pk_us]; exact congrArg nI (by omega)
    · intro i hi
      rcases Nat.lt_or_ge i (G x - K z) with h3 | h3
      · rw [pk_un (by omega), pk_un (by omega), gb_un (by omega)]
        exact hy.2.2 i h3
      · have e1 : i = G x - K z := by omega
        have e2 : K z + i = G x := by omega
        rw [e2, gb_us, ← e1, pk_us, pk_us]
        exact ⟨congrArg nI (by omega), congrArg nI (by omega)⟩
  · simp only [gb_un (gs_ne q)]
    have hn : z ≠ x := gs_ne (gs_sw q)
    refine ⟨?_, hy.2.1, ?_⟩
    · rw [pk_un hn]; exact hy.1
    · intro i hi
      have hx : ∀ k, k < 30 → 30 * z + i ≠ 30 * x + k := by unfold gs_p at q; intro k hk; omega
      rw [pk_un (hx _ (by omega)), pk_un (hx _ (by omega))]
      exact hy.2.2 i hi
theorem gr_nar {e : Nat} (h : e < 2) : vp_nar .boolean (nI e) = nI e := by
  rcases Nat.lt_or_ge e 1 with h1 | h1
  · rw [show e = 0 by omega]; decide
  · rw [show e = 1 by omega]; decide
theorem gr_off {w : Nat} {ob : Nat → Int32} {G C T : Nat → Nat} {ib : Nat → Int32} {R K : Nat → Nat} {ln : Nat → Int32} {O N : Nat → Nat} {L : Nat → List gb_F} {B : Nat → Nat → Nat} {yb mk cn gn yb' mk' : Nat → Int32} {s o n : Nat} (h : gs_Ok w ob G C T ib R K ln O N L B) (y : gr_Y G K B yb mk cn gn) (p : gs_p s o) (hn : n ≤ G s - K o) (h1 : ∀ i, i + n < 30 → yb' (30 * o + i) = yb (30 * o + i + n) ∧ mk' (30 * o + i) = vp_nar .boolean (mk (30 * o + i + n))) (h2 : ∀ j, (j < 30 * o ∨ 30 * o + 30 ≤ j) → yb' j = yb j ∧ mk' j = mk j) : gr_Y G (gb_u K o (K o + n)) B yb' mk' (upd cn o (nI (G s - K o - n))) (upd gn o (nI (K o + n))) := by
  intro x z q
  have hy := y x z q
  have hD := (h.2 x z q).1.1
  rcases gs_two p q with ⟨rfl, rfl⟩ | ⟨rfl, rfl⟩
  · simp only [gb_us]
    refine ⟨?_, pk_us, ?_⟩
    · rw [pk_us]; exact congrArg nI (by omega)
    · intro i hi
      have a := h1 i (by omega)
      have b := hy.2.2 (i + n) (by omega)
      have e1 : 30 * z + i + n = 30 * z + (i + n) := Nat.add_assoc _ _ _
      have e2 : K z + n + i = K z + (i + n) := by omega
      rw [a.1, a.2, e1, e2, b.1, b.2]
      exact ⟨rfl, gr_nar (Nat.mod_lt _ (by decide))⟩
  · have hn : z ≠ x := gs_ne (gs_sw q)
    rw [gb_un hn, pk_un hn, pk_un hn]
    refine ⟨hy.1, hy.2.1, ?_⟩
    intro i hi
    have a := h2 (30 * z + i) (by unfold gs_p at q; omega)
    rw [a.1, a.2]
    exact hy.2.2 i hi
/- what waits: marks counted, bytes added, the first mark -/
def gr_cnt (c : Nat → Nat) : Nat → Nat
  | 0 => 0
  | n + 1 => gr_cnt c n + c n / 256 % 2
def gr_sum (c : Nat → Nat) : Nat → Nat
  | 0 => 0
  | n + 1 => gr_sum c n + c n % 256
theorem gr_cnt_le (c : Nat → Nat) (n : Nat) : gr_cnt c n ≤ n := by
  induction n with
  | zero => exact Nat.le_refl _
  | succ n ih => show gr_cnt c n + c n / 256 % 2 ≤ n + 1; omega
theorem gr_first (c : Nat → Nat) (n : Nat) : (∃ i, i < n ∧ c i / 256 % 2 = 1 ∧ ∀ j, j < i → c j / 256 % 2 = 0) ∨ (∀ j, j < n → c j / 256 % 2 = 0) := by
  induction n with
  | zero => exact Or.inr (fun j hj => absurd hj (Nat.not_lt_zero j))
  | succ n ih =>
    rcases ih with ⟨i, h1, h2, h3⟩ | h
    · exact Or.inl ⟨i, by omega, h2, h3⟩
    · by_cases hn : c n / 256 % 2 = 1
      · exact Or.inl ⟨n, Nat.lt_succ_self n, hn, h⟩
      · refine Or.inr (fun j hj => ?_)
        rcases Nat.lt_or_ge j n with h4 | h4
        · exact h j h4
        · rw [show j = n by omega]; omega
theorem gr_st (x : Int32) : (∃ s o, gs_p s o ∧ x = nI o) ∨ (¬ x = 0 ∧ ¬ x = 1 ∧ (x < 0 ∨ ¬ x ≤ 1)) := by
  rcases pk_ix x (n := 2) (by decide) with h | h | ⟨j, hj, rfl⟩
  · right
    refine ⟨?_, ?_, Or.inl h⟩
    · intro e; rw [e] at h; exact absurd h (by decide)
    · intro e; rw [e] at h; exact absurd h (by decide)
  · right
    have h2 : ¬ x ≤ 1 := by
      intro e
      exact absurd (Int32.le_trans h e) (by decide)
    refine ⟨?_, ?_, Or.inr h2⟩
    · intro e; rw [e] at h2; exact h2 (by decide)
    · intro e; rw [e] at h2; exact h2 (by decide)
  · left
    rcases Nat.lt_or_ge j 1 with h | h
    · exact ⟨1, j, Or.inr ⟨rfl, by omega⟩, rfl⟩
    · exact ⟨0, j, Or.inl ⟨rfl, by omega⟩, rfl⟩
