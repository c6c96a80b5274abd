/- the calls that change something -/
theorem i_vc_skip {k : Nat} {u : SX} {v : SY} (I : i_Rel k u v) (hk : k + 4 ≤ 2049) (v1 : Int32) : wpX_skip (fun r u' => wpY_skip (fun r' v' => r' = r ∧ i_Rel (k + 4) u' v') v v1) u v1 := by
  obtain ⟨w, ob, G, C, T, ib, R, K, ow, ak, ln, O, N, L, B, yb, mk, cn, gn, rfl, rfl, h, hs, hG, y⟩ := I
  rcases gr_st v1 with ⟨s, o, p, rfl⟩ | ⟨b0, b1, b2⟩
  · have q := gs_sw p
    have fy := gi_y y p
    unfold wpX_skip
    refine gx_no0 q ?_
    refine br_t rfl ?_
    refine gm_finish h hs ?_
    intro C1 T1 ib1 R1 ow1 ak1 ln1 O1 N1 L1 h1 s1 f1
    have fa := gi_facts h1 p (f1 s o p)
    have J := gi_mk h1 (fun j hj => (s1 j hj).1) hG y
    refine gx_cw q fa.1 ?_
    refine ⟨gm_i2 q, gm_i2 q, nm_r (gm_ui q K (K o + (G s - K o)) ?_) ?_⟩
    · rw [gm_at q K, nI_add]
    · have hgo := trivial
      unfold wpY_skip
      refine gy_bad0 q ?_
      refine br_t rfl ?_
      refine ⟨gm_i2 q, nm_r (gy_at q fy.1) ?_⟩
      exact gi_off h1 s1 hG y p (f1 s o p) (Nat.le_refl _) (fun yb' mk' cn' gn' J' => ⟨rfl, J'⟩)
  · have hbad := trivial
    have J := gi_mk h hs hG y
    unfold wpX_skip
    refine gx_no1 b0 b1 ?_
    refine br_f (by decide) ?_
    unfold wpY_skip
    refine gy_bad1 b2 ?_
    exact br_f (by decide) ⟨rfl, J⟩
theorem i_vc_take {k : Nat} {u : SX} {v : SY} (I : i_Rel k u v) (hk : k + 4 ≤ 2049) (v1 : Int32) : wpX_take (fun r u' => wpY_take (fun r' v' => r' = r ∧ i_Rel (k + 4) u' v') v v1) u v1 := by
  obtain ⟨w, ob, G, C, T, ib, R, K, ow, ak, ln, O, N, L, B, yb, mk, cn, gn, rfl, rfl, h, hs, hG, y⟩ := I
  rcases gr_st v1 with ⟨s, o, p, rfl⟩ | ⟨b0, b1, b2⟩
  · have q := gs_sw p
    have fy := gi_y y p
    unfold wpX_take
    refine gx_no0 q ?_
    refine br_t rfl ?_
    refine gm_finish h hs ?_
    intro C1 T1 ib1 R1 ow1 ak1 ln1 O1 N1 L1 h1 s1 f1
    have fa := gi_facts h1 p (f1 s o p)
    have J := gi_mk h1 (fun j hj => (s1 j hj).1) hG y
    refine gx_nw q fa.1 (by omega) (fun i hi ex => ?_) (fun hz => ?_)
    · have hi0 : 0 < G s - K o := by omega
      refine br_t rfl ?_
      refine gx_cell (i := 0) q ?_
      rw [fa.2.2.1 0 hi0]
      refine nm_r (gn_m8 _) ⟨gm_i2 q, gm_i2 q, nm_r (gm_ui q K (K o + 1) ?_) ?_⟩
      · rw [gm_at q K]; exact nI_1 _
      · have hgo := trivial
        unfold wpY_take
        refine gy_bad0 q ?_
        refine br_t rfl ?_
        have ex0 : nI o * 30 = nI (30 * o + 0) := by
          have e := gy_x o 0
          rw [nI_0, Int32.add_zero] at e
          exact e
        refine ⟨gm_i2 q, br_f ?_ ⟨?_, nm_r (e' := nI (B s (K o + 0) % 256)) ?_ ?_⟩⟩
        · rw [gy_at q fy.1]; exact nI_ne0 hi0 (by omega)
        · rw [ex0]; exact gy_i q (by omega)
        · rw [ex0, gy_c q (by omega)]; exact fy.2.2.1 0 hi0
        · exact gi_off (n := 1) h1 s1 hG y p (f1 s o p) hi0 (fun yb' mk' cn' gn' J' => ⟨rfl, J'⟩)
    · have hz0 : G s - K o = 0 := by
        rcases Nat.eq_zero_or_pos (G s - K o) with e | e
        · exact e
        · exact absurd (nI_lt (a := 0) e (by omega)) (hz.resolve_left (by decide))
      refine br_f (by decide) ?_
      unfold wpY_take
      refine gy_bad0 q ?_
      refine br_t rfl ?_
      refine ⟨gm_i2 q, br_t ?_ ⟨rfl, J⟩⟩
      rw [gy_at q fy.1, hz0]; rfl
  · have hbad := trivial
    have J := gi_mk h hs hG y
    unfold wpX_take
    refine gx_no1 b0 b1 ?_
    refine br_f (by decide) ?_
    unfold wpY_take
    refine gy_bad1 b2 ?_
    exact br_f (by decide) ⟨rfl, J⟩
theorem i_vc_takeMessage {k : Nat} {u : SX} {v : SY} (I : i_Rel k u v) (hk : k + 4 ≤ 2049) (v1 : Int32) : wpX_takeMessage (fun r u' => wpY_takeMessage (fun r' v' => r' = r ∧ i_Rel (k + 4) u' v') v v1) u v1 := by
  obtain ⟨w, ob, G, C, T, ib, R, K, ow, ak, ln, O, N, L, B, yb, mk, cn, gn, rfl, rfl, h, hs, hG, y⟩ := I
  rcases gr_st v1 with ⟨s, o, p, rfl⟩ | ⟨b0, b1, b2⟩
  · have q := gs_sw p
    have fy := gi_y y p
    unfold wpX_takeMessage
    refine gx_no0 q ?_
    refine br_t rfl ?_
    refine gm_finish h hs ?_
    intro C1 T1 ib1 R1 ow1 ak1 ln1 O1 N1 L1 h1 s1 f1
    have fa := gi_facts h1 p (f1 s o p)
    have J := gi_mk h1 (fun j hj => (s1 j hj).1) hG y
    rcases gr_first (fun i => B s (K o + i)) (G s - K o) with ⟨m, hm, g1, g0⟩ | g0
    · refine gx_fml1 (c := fun i => B s (K o + i)) q fa.1 (by omega) fa.2.2.1 hm g1 g0 ?_
      refine br_f (nI_ne0 (by omega) (by omega)) ⟨gm_i2 q, gm_i2 q, nm_r (gm_ui q K (K o + (m + 1)) ?_) ?_⟩
      · rw [gm_at q K, nI_add]
      · have hgo := trivial
        unfold wpY_takeMessage
        refine gy_bad0 q ?_
        refine br_t rfl ?_
        refine ⟨m + 1, ?_⟩
        refine gy_tmA (c := fun i => B s (K o + i)) q fa.2.1 fy.1 fy.2.2.2 hm g1 g0 ?_ m 0 (Nat.zero_add _)
        exact gi_off h1 s1 hG y p (f1 s o p) hm (fun yb' mk' cn' gn' J' => ⟨rfl, J'⟩)
    · refine gx_fml0 (c := fun i => B s (K o + i)) q fa.1 (by omega) fa.2.2.1 g0 ?_
      refine br_t rfl ?_
      unfold wpY_takeMessage
      refine gy_bad0 q ?_
      refine br_t rfl ?_
      refine ⟨G s - K o + 1, ?_⟩
      exact gy_tmB (c := fun i => B s (K o + i)) q fa.2.1 fy.1 fy.2.2.2 g0 ⟨rfl, J⟩ (G s - K o) 0 (Nat.zero_add _)
  · have hbad := trivial
    have J := gi_mk h hs hG y
    unfold wpX_takeMessage
    refine gx_no1 b0 b1 ?_
    refine br_f (by decide) ?_
    unfold wpY_takeMessage
    refine gy_bad1 b2 ?_
    exact br_f (by decide) ⟨rfl, J⟩
theorem i_vc_carry {k : Nat} {u : SX} {v : SY} (I : i_Rel k u v) (hk : k + 4 ≤ 2049) (v1 : Int32) (v2 : Int32) (v3 : Int32) : wpX_carry (fun r u' => wpY_carry (fun r' => r' = r ∧ i_Rel (k + 4) u' v) v v1 v2 v3) u v1 v2 v3 := by
  obtain ⟨w, ob, G, C, T, ib, R, K, ow, ak, ln, O, N, L, B, yb, mk, cn, gn, rfl, rfl, h, hs, hG, y⟩ := I
  rcases gr_st v1 with ⟨s, o, p, rfl⟩ | ⟨b0, b1, b2⟩
  · have q := gs_sw p
    unfold wpX_carry
    refine gx_no0 q ?_
    refine br_t rfl ?_
    refine gm_mvX q h hs ?_
    intro C1 T1 ib1 R1 ow1 ak1 ln1 O1 N1 L1 h1 m1 z1 s1
    unfold wpY_carry
    refine gy_bad0 q ?_
    refine br_t rfl ?_
    exact ⟨rfl, gi_mk h1 s1 hG y⟩
  · have hbad := trivial
    have J := gi_mk h hs hG y
    unfold wpX_carry
    refine gx_no1 b0 b1 ?_
    refine br_f (by decide) ?_
    unfold wpY_carry
    refine gy_bad1 b2 ?_
    exact br_f (by decide) ⟨rfl, J⟩
theorem i_vc_fire {k : Nat} {u : SX} {v : SY} (I : i_Rel k u v) (hk : k + 4 ≤ 2049) (v1 : Int32) : wpX_fire (fun r u' => wpY_fire (fun r' => r' = r ∧ i_Rel (k + 4) u' v) v v1) u v1 := by
  obtain ⟨w, ob, G, C, T, ib, R, K, ow, ak, ln, O, N, L, B, yb, mk, cn, gn, rfl, rfl, h, hs, hG, y⟩ := I
  rcases gr_st v1 with ⟨s, o, p, rfl⟩ | ⟨b0, b1, b2⟩
  · have q := gs_sw p
    unfold wpX_fire
    refine gx_no0 q ?_
    refine br_t rfl ?_
    refine gm_again q h ?_
    intro C1 T1 ib1 R1 ow1 ak1 ln1 O1 N1 L1 h1 m1 z1 s1
    unfold wpY_fire
    refine gy_bad0 q ?_
    refine br_t rfl ?_
    exact ⟨rfl, gi_mk h1 (fun j hj => s1 j (Or.inr (hs j hj))) hG y⟩
  · have hbad := trivial
    have J := gi_mk h hs hG y
    unfold wpX_fire
    refine gx_no1 b0 b1 ?_
    refine br_f (by decide) ?_
    unfold wpY_fire
    refine gy_bad1 b2 ?_
    exact br_f (by decide) ⟨rfl, J⟩
theorem i_vc_reset {k : Nat} {u : SX} {v : SY} (I : i_Rel k u v) (hk : k + 4 ≤ 2049) : wpX_reset (fun u' => wpY_reset (fun v' => i_Rel (k + 4) u' v') v) u := by
  obtain ⟨w, ob, G, C, T, ib, R, K, ow, ak, ln, O, N, L, B, yb, mk, cn, gn, rfl, rfl, h, hs, hG, y⟩ := I
  refine gx_reset ?_
  unfold wpY_reset
  refine nm_e (nm_e (nm_e (nm_e ?_)))
  have zn : ∀ (f : Nat → Nat) (j : Nat), j < 2 → gb_u (gb_u f 0 0) 1 0 j = 0 := by
    intro f j hj
    rcases Nat.lt_or_ge j 1 with e | e
    · rw [gb_un (by omega), show j = 0 by omega, gb_us]
    · rw [show j = 1 by omega, gb_us]
  have zb : ∀ (f : Nat → Bool) (j : Nat), j < 2 → gb_u (gb_u f 0 false) 1 false j = false := by
    intro f j hj
    rcases Nat.lt_or_ge j 1 with e | e
    · rw [gb_un (by omega), show j = 0 by omega, gb_us]
    · rw [show j = 1 by omega, gb_us]
  have zi : ∀ (f : Nat → Int32) (j : Nat), j < 2 → upd (upd f 0 0) 1 0 j = 0 := by
    intro f j hj
    rcases Nat.lt_or_ge j 1 with e | e
    · rw [pk_un (by omega), show j = 0 by omega, pk_us]
    · rw [show j = 1 by omega, pk_us]
  refine gi_mk (L := fun _ => []) (B := fun _ _ => 0) (gs_fresh h.1 (fun j hj => ⟨⟨zn G j hj, zn C j hj, zn T j hj, zn R j hj⟩, zn K j hj, zn N j hj⟩)) (fun j hj _ => ⟨(zn T j hj).trans (zn G j hj).symm, zb ow j hj, zb ak j hj⟩) (fun j hj => by rw [zn G j hj]; exact Nat.zero_le _) ?_
  intro a b q
  have ha : a < 2 := by unfold gs_p at q; omega
  have hb : b < 2 := by unfold gs_p at q; omega
  rw [zi cn b hb, zi gn b hb, zn G a ha, zn K b hb]
  exact ⟨rfl, rfl, fun i hi => absurd hi (Nat.not_lt_zero i)⟩
