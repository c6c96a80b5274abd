/- give -/
section
variable {w : Nat} {ob : Nat → Int32} {G C T : Nat → Nat} {ib : Nat → Int32} {R K : Nat → Nat} {ow ak : Nat → Bool} {ln : Nat → Int32} {O N : Nat → Nat} {L : Nat → List gb_F} {B : Nat → Nat → Nat} {s o k : Nat} {yb mk cn gn : Nat → Int32}
theorem gi_77 {post : Int32 → SX → Prop} {c : Nat} {x : Int32} (h : gs_Ok w ob G C T ib R K ln O N L B) (p : gs_p s o) (hs : ∀ j, j < 2 → gs_Sat G T ow ak L j) (hG : G s < K o + 30) (hM : G s < 4000) (hc : c < 512) (hp : ∀ (C1 T1 : Nat → Nat) (ib1 : Nat → Int32) (R1 : Nat → Nat) (ow1 ak1 : Nat → Bool) (ln1 : Nat → Int32) (O1 N1 : Nat → Nat) (L1 : Nat → List gb_F), gs_Ok w (upd ob (32 * s + G s % 32) (nI c)) (gb_u G s (G s + 1)) C1 T1 ib1 R1 K ln1 O1 N1 L1 (gb_u B s (gb_u (B s) (G s) c)) → (∀ j, j < 2 → gs_Sat (gb_u G s (G s + 1)) T1 ow1 ak1 L1 j) → post (x + 1) (gs_U w (upd ob (32 * s + G s % 32) (nI c)) (gb_u G s (G s + 1)) C1 T1 ib1 R1 K ow1 ak1 ln1 O1 N1)) : wX_give_77 post (nI s) x (nI c) (nI (32 * s + G s % 32)) (nI w) ob (fun j => nI (G j)) (fun j => nI (C j)) (fun j => nI (T j)) ib (fun j => nI (R j)) (fun j => nI (K j)) (fun j => gs_bi (ow j)) (fun j => gs_bi (ak j)) ln (fun j => nI (O j)) (fun j => nI (N j)) := by
  refine ⟨gm_i64 p _, nm_r (congrArg (fun z => upd ob z (nI c)) (gm_c64 p _)) ⟨gm_i2 p, gm_i2 p, nm_r (gm_ui p G (G s + 1) ?_) ?_⟩⟩
  · rw [gm_at p G]; exact nI_1 _
  · refine gm_send p (gs_give h p hG hM hc) ?_
    intro C1 T1 ib1 R1 ow1 ak1 ln1 O1 N1 L1 h1 m1 z1 s1
    refine hp C1 T1 ib1 R1 ow1 ak1 ln1 O1 N1 L1 h1 (fun j hj => s1 j ?_)
    by_cases e : j = s
    · exact Or.inl e
    · refine Or.inr (fun hL => ?_)
      rw [gb_un e]
      exact hs j hj hL
theorem gi_yg {post : Int32 → SY → Prop} {b e n : Nat} {g : Int32} (p : gs_p s o) (hc : cn o = nI n) (hn : n < 30) (hb : b < 256) (he : e < 2) (hg : g = nI e) (hp : post (nI (n + 1)) (upd yb (30 * o + n) (nI b), upd mk (30 * o + n) (nI e), upd cn o (nI (n + 1)), gn)) : wpY_give post (yb, mk, cn, gn) (nI s) (nI b) g := by
  have q := gs_sw p
  have hx : nI o * 30 + cn (nI o).toNatClampNeg = nI (30 * o + n) := by rw [gy_at q hc]; exact gy_x o n
  have i1 : vp_in (nI o * 30 + cn (nI o).toNatClampNeg) 60 := by rw [hx]; exact gy_i q hn
  have c1 : (nI o * 30 + cn (nI o).toNatClampNeg).toNatClampNeg = 30 * o + n := by rw [hx]; exact gy_c q hn
  unfold wpY_give
  refine gy_bad0 p ?_
  refine br_t rfl (br_f (nI_pos (by omega)) (br_t (nI_le (b := 255) (by omega) (by decide)) (nm_r (gm_sub p) ⟨gm_i2 q, br_f ?_ ⟨gm_i2 q, i1, nm_r (e' := upd yb (30 * o + n) (nI b)) ?_ ⟨gm_i2 q, i1, nm_r (e' := upd mk (30 * o + n) (nI e)) ?_ ⟨gm_i2 q, gm_i2 q, nm_r (e' := upd cn o (nI (n + 1))) ?_ ⟨gm_i2 q, ?_⟩⟩⟩⟩⟩)))
  · rw [gy_at q hc]; exact fun z => absurd ((nI_eq (b := 30) (by omega) (by decide)).mp z) (by omega)
  · rw [c1]
  · rw [c1, hg, gr_nar he]
  · rw [gy_at q hc, gm_c q]; exact congrArg (upd cn o) (nI_1 n)
  · rw [gm_c q, pk_us]; exact hp
end
theorem i_vc_give {k : Nat} {u : SX} {v : SY} (I : i_Rel k u v) (hk : k + 4 ≤ 2049) (v1 : Int32) (v2 : Int32) (v3 : Int32) : wpX_give (fun r u' => wpY_give (fun r' v' => r' = r ∧ i_Rel (k + 4) u' v') v v1 v2 (lw_bz v3)) u v1 v2 (lw_bz v3) := by
  obtain ⟨w, ob, G, C, T, ib, R, K, ow, ak, ln, O, N, L, B, yb, mk, cn, gn, rfl, rfl, h, hs, hG, y⟩ := I
  have J := gi_mk h hs hG y
  rcases gr_st v1 with ⟨o, s, q, rfl⟩ | ⟨b0, b1, b2⟩
  · have p := gs_sw q
    have fy := gi_y y p
    have hD := (h.2 s o p).1.1
    have hk1 := hG s (by unfold gs_p at p; omega)
    unfold wpX_give
    refine gx_no0 p ?_
    refine br_t rfl (br_c (fun h0 => ?_) (fun h0 => br_c (fun h255 => ?_) (fun h255 => ?_)))
    · unfold wpY_give
      refine gy_bad0 p ?_
      exact br_t rfl (br_t h0 ⟨rfl, J⟩)
    · obtain ⟨b, hb, rfl⟩ := nI_of2 (M := 255) (n := 255) (by decide) h0 h255
      have e4 : (fun j => nI (G j)) (nI s).toNatClampNeg - (fun j => nI (K j)) (1 - nI s).toNatClampNeg = nI (G s - K o) := by
        rw [gm_at p G, gm_sub p, gm_at q K, pk_sub (by omega)]
      refine ⟨gm_i2 p, ?_, nm_r e4 ?_⟩
      · rw [gm_sub p]; exact gm_i2 q
      · by_cases hf : G s - K o < 30
        · refine br_t (nI_lt (b := 30) hf (by decide)) ⟨gm_i2 p, ?_⟩
          rw [gm_at p G]
          refine gm_place _ s (G s) ?_
          have key : ∀ e, e < 2 → lw_bz v3 = nI e → wX_give_77 (fun r u' => wpY_give (fun r' v' => r' = r ∧ i_Rel (k + 4) u' v') (yb, mk, cn, gn) (nI s) (nI b) (lw_bz v3)) (nI s) (nI (G s - K o)) (nI (256 * e + b)) (nI (32 * s + G s % 32)) (nI w) ob (fun j => nI (G j)) (fun j => nI (C j)) (fun j => nI (T j)) ib (fun j => nI (R j)) (fun j => nI (K j)) (fun j => gs_bi (ow j)) (fun j => gs_bi (ak j)) ln (fun j => nI (O j)) (fun j => nI (N j)) := by
            intro e he hg
            refine gi_77 h p hs (by omega) (by omega) (by omega) ?_
            intro C1 T1 ib1 R1 ow1 ak1 ln1 O1 N1 L1 h1 s1
            rw [nI_1]
            refine gi_yg p fy.1 hf (by omega) he hg ⟨rfl, ?_⟩
            refine gi_mk4 h1 s1 (fun j hj => ?_) (gr_give h y p (by omega) (by omega) he)
            by_cases ej : j = s
            · rw [ej, gb_us]; omega
            · rw [gb_un ej]; have := hG j hj; omega
          rcases lw_bz_01 v3 with e3 | e3
          · have k0 := key 0 (by decide) e3
            rw [show 256 * 0 + b = b by omega] at k0
            exact br_t e3 k0
          · have k1 := key 1 (by decide) e3
            rw [show 256 * 1 + b = 256 + b by omega, ← gw_cell (by omega)] at k1
            exact br_f (by rw [e3]; decide) k1
        · refine br_f (nI_nlt (b := 30) (by omega) (by omega)) ?_
          unfold wpY_give
          refine gy_bad0 p ?_
          refine br_t rfl (br_f h0 (br_t h255 (nm_r (gm_sub p) ⟨gm_i2 q, br_t ?_ ⟨rfl, J⟩⟩)))
          rw [gy_at q fy.1, show G s - K o = 30 by omega]; rfl
    · unfold wpY_give
      refine gy_bad0 p ?_
      exact br_t rfl (br_f h0 (br_f h255 ⟨rfl, J⟩))
  · unfold wpX_give
    refine gx_no1 b0 b1 ?_
    refine br_f (by decide) ?_
    unfold wpY_give
    refine gy_bad1 b2 ?_
    exact br_f (by decide) ⟨rfl, J⟩
