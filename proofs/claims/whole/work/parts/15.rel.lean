/- the relation -/
def i_Rel (k : Nat) (u : SX) (v : SY) : Prop :=
  ∃ (w : Nat) (ob : Nat → Int32) (G C T : Nat → Nat) (ib : Nat → Int32) (R K : Nat → Nat) (ow ak : Nat → Bool) (ln : Nat → Int32) (O N : Nat → Nat) (L : Nat → List gb_F) (B : Nat → Nat → Nat) (yb mk cn gn : Nat → Int32),
    u = (gs_U w ob G C T ib R K ow ak ln O N) ∧ v = (yb, mk, cn, gn) ∧ gs_Ok w ob G C T ib R K ln O N L B ∧ (∀ j, j < 2 → gs_Sat G T ow ak L j) ∧ (∀ j, j < 2 → G j ≤ k) ∧ gr_Y G K B yb mk cn gn
theorem i_up {k : Nat} {u : SX} {v : SY} (h : i_Rel k u v) : i_Rel (k + 4) u v := by
  obtain ⟨w, ob, G, C, T, ib, R, K, ow, ak, ln, O, N, L, B, yb, mk, cn, gn, e1, e2, h1, h2, h3, h4⟩ := h
  exact ⟨w, ob, G, C, T, ib, R, K, ow, ak, ln, O, N, L, B, yb, mk, cn, gn, e1, e2, h1, h2, fun j hj => Nat.le_trans (h3 j hj) (Nat.le_add_right _ _), h4⟩
section
variable {w : Nat} {ob : Nat → Int32} {G C T : Nat → Nat} {ib : Nat → Int32} {R K : Nat → Nat} {ow ak : Nat → Bool} {ln : Nat → Int32} {O N : Nat → Nat} {L : Nat → List gb_F} {B : Nat → Nat → Nat} {s o k : Nat} {yb mk cn gn : Nat → Int32}
theorem gi_mk (h : gs_Ok w ob G C T ib R K ln O N L B) (hs : ∀ j, j < 2 → gs_Sat G T ow ak L j) (hk : ∀ j, j < 2 → G j ≤ k) (y : gr_Y G K B yb mk cn gn) : i_Rel (k + 4) (gs_U w ob G C T ib R K ow ak ln O N) (yb, mk, cn, gn) :=
  ⟨w, ob, G, C, T, ib, R, K, ow, ak, ln, O, N, L, B, yb, mk, cn, gn, rfl, rfl, h, hs, fun j hj => Nat.le_trans (hk j hj) (Nat.le_add_right _ _), y⟩
theorem gi_mk4 (h : gs_Ok w ob G C T ib R K ln O N L B) (hs : ∀ j, j < 2 → gs_Sat G T ow ak L j) (hk : ∀ j, j < 2 → G j ≤ k + 4) (y : gr_Y G K B yb mk cn gn) : i_Rel (k + 4) (gs_U w ob G C T ib R K ow ak ln O N) (yb, mk, cn, gn) :=
  ⟨w, ob, G, C, T, ib, R, K, ow, ak, ln, O, N, L, B, yb, mk, cn, gn, rfl, rfl, h, hs, hk, y⟩
theorem gi_facts (h : gs_Ok w ob G C T ib R K ln O N L B) (p : gs_p s o) (f : C s = G s ∧ R o = G s) : R o = K o + (G s - K o) ∧ G s - K o ≤ 30 ∧ (∀ i, i < G s - K o → ib (32 * o + (K o + i) % 32) = nI (B s (K o + i))) ∧ K o ≤ G s ∧ G s ≤ 4000 := by
  have hD := h.2 s o p
  have h1 := hD.1.1
  refine ⟨by omega, by omega, fun i hi => hD.2.2.2.2.1 (K o + i) (by omega) (by omega), by omega, hD.2.1.2.2⟩
theorem gi_y (y : gr_Y G K B yb mk cn gn) (p : gs_p s o) : cn o = nI (G s - K o) ∧ gn o = nI (K o) ∧ (∀ i, i < G s - K o → yb (30 * o + i) = nI (B s (K o + i) % 256)) ∧ (∀ i, i < G s - K o → mk (30 * o + i) = nI (B s (K o + i) / 256 % 2)) :=
  ⟨(y s o p).1, (y s o p).2.1, fun i hi => ((y s o p).2.2 i hi).1, fun i hi => ((y s o p).2.2 i hi).2⟩
/-- bytes leave on both sides -/
theorem gi_off {post : SY → Prop} {n : Nat} (h : gs_Ok w ob G C T ib R K ln O N L B) (hs : ∀ j, j < 2 → gs_Sat G T ow ak L j ∧ L j = []) (hk : ∀ j, j < 2 → G j ≤ k) (y : gr_Y G K B yb mk cn gn) (p : gs_p s o) (f : C s = G s ∧ R o = G s) (hn : n ≤ G s - K o) (hp : ∀ yb' mk' cn' gn', i_Rel (k + 4) (gs_U w ob G C T ib R (gb_u K o (K o + n)) ow ak ln O N) (yb', mk', cn', gn') → post (yb', mk', cn', gn')) : wpY_off post (yb, mk, cn, gn) (nI o) (nI n) := by
  have fa := gi_facts h p f
  have fy := gi_y y p
  refine gy_off (gs_sw p) hn fy.1 fy.2.1 (by omega) (fun yb' mk' h1 h2 => hp _ _ _ _ ?_)
  refine gi_mk (gs_K h p (hs s (by unfold gs_p at p; omega)).2 (hs o (by unfold gs_p at p; omega)).2 (by omega)) (fun j hj => (hs j hj).1) hk ?_
  exact gr_off h y p hn h1 h2
end
theorem gi_init {w : Nat} (hw : 1 ≤ w ∧ w ≤ 32) : i_Rel 1 (nI w, (fun _ => 0), (fun _ => 0), (fun _ => 0), (fun _ => 0), (fun _ => 0), (fun _ => 0), (fun _ => 0), (fun _ => 0), (fun _ => 0), (fun _ => 0), (fun _ => 0), (fun _ => 0)) ((fun _ => 0), (fun _ => 0), (fun _ => 0), (fun _ => 0)) :=
  ⟨w, fun _ => 0, fun _ => 0, fun _ => 0, fun _ => 0, fun _ => 0, fun _ => 0, fun _ => 0, fun _ => false, fun _ => false, fun _ => 0, fun _ => 0, fun _ => 0, fun _ => [], fun _ _ => 0, fun _ => 0, fun _ => 0, fun _ => 0, fun _ => 0, rfl, rfl,
    gs_fresh hw (fun _ _ => ⟨⟨rfl, rfl, rfl, rfl⟩, rfl, rfl⟩), fun _ _ _ => ⟨rfl, rfl, rfl⟩, fun _ _ => Nat.zero_le _, fun _ _ _ => ⟨rfl, rfl, fun i hi => absurd hi (Nat.not_lt_zero i)⟩⟩
theorem i_vc0 (k0 : Int32) : wpX_init (fun u => wpY_init (fun v => i_Rel 1 u v) k0) k0 := by
  refine br_c (fun h1 => br_c (fun h2 => ?_) (fun h2 => ?_)) (fun h1 => ?_)
  · have hz : ¬ k0 < 0 := fun z => absurd (Int32.lt_of_lt_of_le z (by decide : (0 : Int32) ≤ 1)) (Int32.not_lt.mpr h1)
    obtain ⟨j, hj, rfl⟩ := nI_of hz
    have a : 1 ≤ j := (nI_leI (a := 1) (by decide) hj).mp h1
    have b : j ≤ 32 := (nI_leI (b := 32) hj (by decide)).mp h2
    exact gi_init ⟨a, b⟩
  · exact gi_init (w := 32) (by decide)
  · exact gi_init (w := 1) (by decide)
