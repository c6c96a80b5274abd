/- the calls, one by one: those that answer alone -/
theorem i_vc_waiting {k : Nat} {u : SX} {v : SY} (I : i_Rel k u v) (hk : k + 4 ≤ 2049) (v1 : Int32) : wpX_waiting (fun r u' => wpY_waiting (fun r' => r' = r ∧ i_Rel (k + 4) u' v) v v1) u v1 := by
  obtain ⟨w, ob, G, C, T, ib, R, K, ow, ak, ln, O, N, L, B, yb, mk, cn, gn, rfl, rfl, h, hs, hG, y⟩ := I
  rcases gr_st v1 with ⟨s, o, p, rfl⟩ | ⟨b0, b1, b2⟩
  · have q := gs_sw p
    have fy := gi_y y p
    unfold wpX_waiting
    refine gx_no0 q ?_
    refine br_t rfl ?_
    refine gm_finish h hs ?_
    intro C1 T1 ib1 R1 ow1 ak1 ln1 O1 N1 L1 h1 s1 f1
    have fa := gi_facts h1 p (f1 s o p)
    have J := gi_mk h1 (fun j hj => (s1 j hj).1) hG y
    refine gx_cw q fa.1 ?_
    unfold wpY_waiting
    refine gy_bad0 q ?_
    refine br_t rfl ?_
    exact ⟨gm_i2 q, gy_at q fy.1, J⟩
  · have hbad := trivial
    have J := gi_mk h hs hG y
    unfold wpX_waiting
    refine gx_no1 b0 b1 ?_
    refine br_f (by decide) ?_
    unfold wpY_waiting
    refine gy_bad1 b2 ?_
    exact br_f (by decide) ⟨rfl, J⟩
theorem i_vc_done {k : Nat} {u : SX} {v : SY} (I : i_Rel k u v) (hk : k + 4 ≤ 2049) (v1 : Int32) : wpX_done (fun r u' => wpY_done (fun r' => r' = r ∧ i_Rel (k + 4) u' v) v v1) u v1 := by
  obtain ⟨w, ob, G, C, T, ib, R, K, ow, ak, ln, O, N, L, B, yb, mk, cn, gn, rfl, rfl, h, hs, hG, y⟩ := I
  rcases gr_st v1 with ⟨s, o, p, rfl⟩ | ⟨b0, b1, b2⟩
  · have q := gs_sw p
    have fy := gi_y y p
    unfold wpX_done
    refine gx_no0 q ?_
    refine br_t rfl ?_
    refine gm_finish h hs ?_
    intro C1 T1 ib1 R1 ow1 ak1 ln1 O1 N1 L1 h1 s1 f1
    have fa := gi_facts h1 p (f1 s o p)
    have J := gi_mk h1 (fun j hj => (s1 j hj).1) hG y
    refine ⟨gm_i2 q, ?_⟩
    unfold wpY_done
    refine gy_bad0 q ?_
    refine br_t rfl ?_
    exact ⟨gm_i2 q, (gy_at q fy.2.1).trans (gm_at q K).symm, J⟩
  · have hbad := trivial
    have J := gi_mk h hs hG y
    unfold wpX_done
    refine gx_no1 b0 b1 ?_
    refine br_f (by decide) ?_
    unfold wpY_done
    refine gy_bad1 b2 ?_
    exact br_f (by decide) ⟨rfl, J⟩
theorem i_vc_messages {k : Nat} {u : SX} {v : SY} (I : i_Rel k u v) (hk : k + 4 ≤ 2049) (v1 : Int32) : wpX_messages (fun r u' => wpY_messages (fun r' => r' = r ∧ i_Rel (k + 4) u' v) v v1) u v1 := by
  obtain ⟨w, ob, G, C, T, ib, R, K, ow, ak, ln, O, N, L, B, yb, mk, cn, gn, rfl, rfl, h, hs, hG, y⟩ := I
  rcases gr_st v1 with ⟨s, o, p, rfl⟩ | ⟨b0, b1, b2⟩
  · have q := gs_sw p
    have fy := gi_y y p
    unfold wpX_messages
    refine gx_no0 q ?_
    refine br_t rfl ?_
    refine gm_finish h hs ?_
    intro C1 T1 ib1 R1 ow1 ak1 ln1 O1 N1 L1 h1 s1 f1
    have fa := gi_facts h1 p (f1 s o p)
    have J := gi_mk h1 (fun j hj => (s1 j hj).1) hG y
    refine gx_cw q fa.1 ?_
    refine ⟨G s - K o + 1, ?_⟩
    refine gx_msg (c := fun i => B s (K o + i)) q (by omega) fa.2.2.1 ?_ (G s - K o) 0 (Nat.zero_add _)
    unfold wpY_messages
    refine gy_bad0 q ?_
    refine br_t rfl ?_
    refine ⟨G s - K o + 1, ?_⟩
    exact gy_msg (c := fun i => B s (K o + i)) q fa.2.1 fy.1 fy.2.2.2 ⟨rfl, J⟩ (G s - K o) 0 (Nat.zero_add _)
  · have hbad := trivial
    have J := gi_mk h hs hG y
    unfold wpX_messages
    refine gx_no1 b0 b1 ?_
    refine br_f (by decide) ?_
    unfold wpY_messages
    refine gy_bad1 b2 ?_
    exact br_f (by decide) ⟨rfl, J⟩
theorem i_vc_sum {k : Nat} {u : SX} {v : SY} (I : i_Rel k u v) (hk : k + 4 ≤ 2049) (v1 : Int32) : wpX_sum (fun r u' => wpY_sum (fun r' => r' = r ∧ i_Rel (k + 4) u' v) v v1) u v1 := by
  obtain ⟨w, ob, G, C, T, ib, R, K, ow, ak, ln, O, N, L, B, yb, mk, cn, gn, rfl, rfl, h, hs, hG, y⟩ := I
  rcases gr_st v1 with ⟨s, o, p, rfl⟩ | ⟨b0, b1, b2⟩
  · have q := gs_sw p
    have fy := gi_y y p
    unfold wpX_sum
    refine gx_no0 q ?_
    refine br_t rfl ?_
    refine gm_finish h hs ?_
    intro C1 T1 ib1 R1 ow1 ak1 ln1 O1 N1 L1 h1 s1 f1
    have fa := gi_facts h1 p (f1 s o p)
    have J := gi_mk h1 (fun j hj => (s1 j hj).1) hG y
    refine gx_cw q fa.1 ?_
    refine ⟨G s - K o + 1, ?_⟩
    refine gx_sum (c := fun i => B s (K o + i)) q (by omega) fa.2.2.1 ?_ (G s - K o) 0 (Nat.zero_add _)
    unfold wpY_sum
    refine gy_bad0 q ?_
    refine br_t rfl ?_
    refine ⟨G s - K o + 1, ?_⟩
    exact gy_sum (c := fun i => B s (K o + i)) q fa.2.1 fy.1 fy.2.2.1 ⟨rfl, J⟩ (G s - K o) 0 (Nat.zero_add _)
  · have hbad := trivial
    have J := gi_mk h hs hG y
    unfold wpX_sum
    refine gx_no1 b0 b1 ?_
    refine br_f (by decide) ?_
    unfold wpY_sum
    refine gy_bad1 b2 ?_
    exact br_f (by decide) ⟨rfl, J⟩
theorem i_vc_peek {k : Nat} {u : SX} {v : SY} (I : i_Rel k u v) (hk : k + 4 ≤ 2049) (v1 : Int32) (v2 : Int32) : wpX_peek (fun r u' => wpY_peek (fun r' => r' = r ∧ i_Rel (k + 4) u' v) v v1 v2) u v1 v2 := by
  obtain ⟨w, ob, G, C, T, ib, R, K, ow, ak, ln, O, N, L, B, yb, mk, cn, gn, rfl, rfl, h, hs, hG, y⟩ := I
  rcases gr_st v1 with ⟨s, o, p, rfl⟩ | ⟨b0, b1, b2⟩
  · have q := gs_sw p
    have fy := gi_y y p
    unfold wpX_peek
    refine gx_no0 q ?_
    refine br_t rfl ?_
    refine gm_finish h hs ?_
    intro C1 T1 ib1 R1 ow1 ak1 ln1 O1 N1 L1 h1 s1 f1
    have fa := gi_facts h1 p (f1 s o p)
    have J := gi_mk h1 (fun j hj => (s1 j hj).1) hG y
    refine gx_nw q fa.1 (by omega) (fun i hi ex => ?_) (fun hz => ?_)
    · subst ex
      refine br_t rfl ?_
      refine gx_cell q i ?_
      rw [fa.2.2.1 i hi, gn_m8]
      unfold wpY_peek
      refine gy_bad0 q ?_
      refine br_t rfl ?_
      refine br_f (nI_pos (by omega)) ⟨gm_i2 q, br_t ?_ ⟨?_, ?_, J⟩⟩
      · rw [gy_at q fy.1]; exact nI_lt hi (by omega)
      · rw [gy_x]; exact gy_i q (by omega)
      · rw [gy_x, gy_c q (by omega)]; exact fy.2.2.1 i hi
    · refine br_f (by decide) ?_
      unfold wpY_peek
      refine gy_bad0 q ?_
      refine br_t rfl ?_
      by_cases h0 : v2 < 0
      · exact br_t h0 ⟨rfl, J⟩
      · refine br_f h0 ⟨gm_i2 q, br_f ?_ ⟨rfl, J⟩⟩
        rw [gy_at q fy.1]; exact hz.resolve_left h0
  · have hbad := trivial
    have J := gi_mk h hs hG y
    unfold wpX_peek
    refine gx_no1 b0 b1 ?_
    refine br_f (by decide) ?_
    unfold wpY_peek
    refine gy_bad1 b2 ?_
    exact br_f (by decide) ⟨rfl, J⟩
theorem gi_ends {yb mk cn gn : Nat → Int32} {s o i n : Nat} (q : gs_p o s) (hc : cn o = nI n) (hi : i < n) (hn : n ≤ 30) (P : Int32 → Prop) (g0 : mk (30 * o + i) = 0 → P 0) (g1 : ¬ mk (30 * o + i) = 0 → P 1) : wpY_ends P (yb, mk, cn, gn) (nI o) (nI i) := by
  unfold wpY_ends
  refine gy_bad0 q ?_
  refine br_t rfl ?_
  refine br_f (nI_pos (by omega)) ⟨gm_i2 q, br_f ?_ ⟨?_, ?_⟩⟩
  · rw [gy_at q hc]; exact nI_ge hi (by omega)
  · rw [gy_x]; exact gy_i q (by omega)
  · rw [gy_x, gy_c q (by omega)]; exact br_c g0 g1
theorem i_vc_ends {k : Nat} {u : SX} {v : SY} (I : i_Rel k u v) (hk : k + 4 ≤ 2049) (v1 : Int32) (v2 : Int32) : wpX_ends (fun r u' => wpY_ends (fun r' => r' = r ∧ i_Rel (k + 4) u' v) v v1 v2) u v1 v2 := by
  obtain ⟨w, ob, G, C, T, ib, R, K, ow, ak, ln, O, N, L, B, yb, mk, cn, gn, rfl, rfl, h, hs, hG, y⟩ := I
  rcases gr_st v1 with ⟨s, o, p, rfl⟩ | ⟨b0, b1, b2⟩
  · have q := gs_sw p
    have fy := gi_y y p
    unfold wpX_ends
    refine gx_no0 q ?_
    refine br_t rfl ?_
    refine gm_finish h hs ?_
    intro C1 T1 ib1 R1 ow1 ak1 ln1 O1 N1 L1 h1 s1 f1
    have fa := gi_facts h1 p (f1 s o p)
    have J := gi_mk h1 (fun j hj => (s1 j hj).1) hG y
    refine gx_nw q fa.1 (by omega) (fun i hi ex => ?_) (fun hz => ?_)
    · subst ex
      refine br_t rfl ?_
      refine gx_cell q i ?_
      rw [fa.2.2.1 i hi]
      have hm := fy.2.2.2 i hi
      by_cases hb : B s (K o + i) / 256 % 2 = 0
      · rw [hb] at hm
        refine br_t ((gn_b8 _).mpr hb) ?_
        exact gi_ends q fy.1 hi fa.2.1 _ (fun _ => ⟨rfl, J⟩) (fun z => absurd hm z)
      · rw [show B s (K o + i) / 256 % 2 = 1 by omega] at hm
        refine br_f (fun z => hb ((gn_b8 _).mp z)) ?_
        exact gi_ends q fy.1 hi fa.2.1 _ (fun z => absurd (hm.symm.trans z) (by decide)) (fun _ => ⟨rfl, J⟩)
    · refine br_f (by decide) ?_
      unfold wpY_ends
      refine gy_bad0 q ?_
      refine br_t rfl ?_
      by_cases h0 : v2 < 0
      · exact br_t h0 ⟨rfl, J⟩
      · refine br_f h0 ⟨gm_i2 q, br_t ?_ ⟨rfl, J⟩⟩
        rw [gy_at q fy.1]; exact Int32.not_lt.mp (hz.resolve_left h0)
  · have hbad := trivial
    have J := gi_mk h hs hG y
    unfold wpX_ends
    refine gx_no1 b0 b1 ?_
    refine br_f (by decide) ?_
    unfold wpY_ends
    refine gy_bad1 b2 ?_
    exact br_f (by decide) ⟨rfl, J⟩
