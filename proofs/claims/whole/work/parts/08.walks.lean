/- the small walks: numbers, the check, one frame made, put and read -/
def gs_zz (G C T R : Nat → Nat) (ow ak : Nat → Bool) (L : Nat → List gb_F) (a : Nat) : Prop := ∀ b, gs_p a b → gs_Zd G C T R ow ak L a b
theorem gm_i2 {s o : Nat} (p : gs_p s o) : vp_in (nI s) 2 := vp_in_nI (by unfold gs_p at p; omega) (by decide)
theorem gm_c {s o : Nat} (p : gs_p s o) : (nI s).toNatClampNeg = s := nI_clamp (by unfold gs_p at p; omega)
theorem gm_i64 {s o : Nat} (p : gs_p s o) (n : Nat) : vp_in (nI (32 * s + n % 32)) 64 := vp_in_nI (by unfold gs_p at p; omega) (by decide)
theorem gm_c64 {s o : Nat} (p : gs_p s o) (n : Nat) : (nI (32 * s + n % 32)).toNatClampNeg = 32 * s + n % 32 := nI_clamp (by unfold gs_p at p; omega)
theorem gm_sub {s o : Nat} (p : gs_p s o) : (1 : Int32) - nI s = nI o := by
  rcases p with ⟨rfl, rfl⟩ | ⟨rfl, rfl⟩ <;> decide
theorem gm_n0 : vp_nar .boolean 0 = gs_bi false := by decide
theorem gm_n1 : vp_nar .boolean 1 = gs_bi true := by decide
theorem gm_ui {s o : Nat} (p : gs_p s o) (f : Nat → Nat) (n : Nat) {x : Int32} (hx : x = nI n) : upd (fun j => nI (f j)) (nI s).toNatClampNeg x = fun j => nI (gb_u f s n j) := by
  rw [gm_c p, hx, gb_uI]
theorem gm_ub {s o : Nat} (p : gs_p s o) (f : Nat → Bool) (b : Bool) {x : Int32} (hx : x = gs_bi b) : upd (fun j => gs_bi (f j)) (nI s).toNatClampNeg x = fun j => gs_bi (gb_u f s b j) := by
  rw [gm_c p, hx, gb_uB]
theorem gm_b0 {s o : Nat} (p : gs_p s o) (f : Nat → Bool) (h : f s = false) : (fun j => gs_bi (f j)) (nI s).toNatClampNeg = 0 := by
  rw [gm_c p]; show gs_bi (f s) = 0; rw [h]; rfl
theorem gm_b1 {s o : Nat} (p : gs_p s o) (f : Nat → Bool) (h : f s = true) : ¬ (fun j => gs_bi (f j)) (nI s).toNatClampNeg = 0 := by
  rw [gm_c p]; show ¬ gs_bi (f s) = 0; rw [h]; decide
theorem gm_at {s o : Nat} (p : gs_p s o) (f : Nat → Nat) : (fun j => nI (f j)) (nI s).toNatClampNeg = nI (f s) := congrArg (fun z => nI (f z)) (gm_c p)
theorem gm_place (post : Int32 → Prop) (s n : Nat) (h : post (nI (32 * s + n % 32))) : wpX_place post (nI s) (nI n) := by
  unfold wpX_place
  rw [gn_place]
  exact h
theorem gm_chk_l (post : Int32 → Prop) : ∀ (b r : Nat), r < 2147483648 → b ≤ 23 → post (nI (gc_run b r)) → wX_checkOf_8 post (b + 1) (nI r) (nI (b + 7)) := by
  intro b
  induction b with
  | zero =>
    intro r hr _ hp
    exact br_t (show nI 7 < nI 8 from nI_lt (by decide) (by decide)) hp
  | succ b ih =>
    intro r hr hb hp
    rw [show b + 1 + 7 = b + 8 by omega]
    have h8 : ¬ nI (b + 8) < 8 := nI_nlt (b := 8) (by omega) (by omega)
    have e1 : nI (b + 8) + (-1) = nI (b + 7) := pk_m1 (b + 7)
    have hp' : post (nI (gc_run b (gc_st b r))) := hp
    refine br_f h8 ?_
    cases t : r.testBit (b + 8) with
    | false =>
      have e : gc_st b r = r := by unfold gc_st; rw [t]; exact if_neg (by decide)
      rw [e] at hp'
      exact br_t ((gn_cbit hr (by omega)).mpr t) (nm_r e1 (ih r hr (by omega) hp'))
    | true =>
      have e : gc_st b r = r ^^^ (263 * 2 ^ b) := by unfold gc_st; exact if_pos t
      have hlt := gn_clt (b := b) hr (by omega)
      rw [e] at hp' hlt
      have e2 : nI r ^^^ ((263 : Int32) <<< ((nI (b + 8) - 8) &&& 31)) = nI (r ^^^ (263 * 2 ^ b)) := by
        have e3 : nI (b + 8) - 8 = nI b := pk_sub (a := b + 8) (b := 8) (by omega)
        rw [e3, gn_cst (by omega)]
      have hn : ¬ ((nI r >>> (nI (b + 8) &&& 31)) &&& 1) = 0 := by
        rw [gn_cbit hr (by omega), t]; decide
      exact br_f hn (nm_r e2 (nm_r e1 (ih _ hlt (by omega) hp')))
theorem gm_chk {post : Int32 → Prop} {c : Nat} (hc : c < 8388608) (h : post (nI (gc_crc c))) : wpX_checkOf post (nI c) := by
  refine nm_r (gn_c8 hc) ⟨24, ?_⟩
  exact gm_chk_l post 23 (c * 2 ^ 8) (by omega) (by decide) h
section
variable {w : Nat} {ob : Nat → Int32} {G C T : Nat → Nat} {ib : Nat → Int32} {R K : Nat → Nat} {ow ak : Nat → Bool} {ln : Nat → Int32} {O N : Nat → Nat} {L : Nat → List gb_F} {B : Nat → Nat → Nat} {s o : Nat}
theorem gm_put {post : SX → Prop} (p : gs_p s o) (v : Int32) (h : post (gs_U w ob G C T ib R K ow ak (upd ln (32 * s + (O s + N s) % 32) v) O (gb_u N s (N s + 1)))) : wpX_putOnLine post (gs_U w ob G C T ib R K ow ak ln O N) (nI s) v := by
  refine ⟨gm_i2 p, gm_i2 p, ?_⟩
  have e : nI (O (nI s).toNatClampNeg) + nI (N (nI s).toNatClampNeg) = nI (O s + N s) := by rw [gm_c p, nI_add]
  rw [e]
  refine gm_place _ s (O s + N s) ⟨gm_i64 p _, nm_r (congrArg (fun z => upd ln z v) (gm_c64 p _)) ⟨gm_i2 p, gm_i2 p, nm_r (gm_ui p N (N s + 1) ?_) h⟩⟩
  rw [gm_c p]; exact nI_1 _
theorem gm_next79 {post : Int32 → SX → Prop} (p : gs_p s o) {c : Nat} (hc : c < 8388608) (h : post (nI (c + gc_crc c * 8388608)) (gs_U w ob G C T ib R K (gb_u ow s false) (gb_u ak s false) ln O N)) : wX_nextFrame_79 post (nI s) (nI c) (nI w) ob (fun j => nI (G j)) (fun j => nI (C j)) (fun j => nI (T j)) ib (fun j => nI (R j)) (fun j => nI (K j)) (fun j => gs_bi (ow j)) (fun j => gs_bi (ak j)) ln (fun j => nI (O j)) (fun j => nI (N j)) := by
  refine ⟨gm_i2 p, nm_r (gm_ub p ow false gm_n0) ⟨gm_i2 p, nm_r (gm_ub p ak false gm_n0) ?_⟩⟩
  refine gm_chk hc ?_
  rw [gn_c23 (gc_crc_lt hc), gw_e5 hc]
  exact h
theorem gm_next28D {post : Int32 → SX → Prop} (p : gs_p s o) {e a b : Nat} (he : e < 64) (ha : a < 2) (hb : b < 512) (hcell : ob (32 * s + T s % 32) = nI b) (h : post (nI ((131072 * e + (2048 * (T s % 64) + (1024 * a + (512 + b)))) + gc_crc (131072 * e + (2048 * (T s % 64) + (1024 * a + (512 + b)))) * 8388608)) (gs_U w ob G C (gb_u T s (T s + 1)) ib R K (gb_u ow s false) (gb_u ak s false) ln O N)) : wX_nextFrame_28 post (nI s) 1 (nI (131072 * e + 1024 * a)) (nI w) ob (fun j => nI (G j)) (fun j => nI (C j)) (fun j => nI (T j)) ib (fun j => nI (R j)) (fun j => nI (K j)) (fun j => gs_bi (ow j)) (fun j => gs_bi (ak j)) ln (fun j => nI (O j)) (fun j => nI (N j)) := by
  refine br_f (by decide) ⟨gm_i2 p, nm_r (congrArg (fun z => nI (T z)) (gm_c p)) ?_⟩
  refine gm_place _ s (T s) ⟨gm_i64 p _, nm_r (e' := nI (131072 * e + (1024 * a + (512 + b)))) ?_ (nm_r (e' := nI (131072 * e + (2048 * (T s % 64) + (1024 * a + (512 + b))))) ?_ ⟨gm_i2 p, gm_i2 p, nm_r (gm_ui p T (T s + 1) ?_) ?_⟩)⟩
  · rw [gm_c64 p, hcell, gw_e3 hb, Nat.add_assoc]
  · rw [gn_s11]; exact gw_e4 (by omega) (by omega)
  · rw [gm_c p]; exact nI_1 _
  · exact gm_next79 p (by omega) h
theorem gm_nextD {post : Int32 → SX → Prop} (p : gs_p s o) (hB : ∀ j, B s j < 512) (hcell : ob (32 * s + T s % 32) = nI (B s (T s))) (h : post (nI (gw_w (B s) ((T s, R s), (true, ak s)))) (gs_U w ob G C (gb_u T s (T s + 1)) ib R K (gb_u ow s false) (gb_u ak s false) ln O N)) : wpX_nextFrame post (gs_U w ob G C T ib R K ow ak ln O N) (nI s) 1 := by
  have e0 : ((fun j => nI (R j)) (nI s).toNatClampNeg &&& 63) <<< ((17 : Int32) &&& 31) = nI (131072 * (R s % 64)) := by rw [gm_c p]; exact gn_s17
  refine ⟨gm_i2 p, nm_r e0 ⟨gm_i2 p, ?_⟩⟩
  cases hk : ak s with
  | false =>
    have ec : gw_w (B s) ((T s, R s), (true, ak s)) = (131072 * (R s % 64) + (2048 * (T s % 64) + (1024 * 0 + (512 + B s (T s))))) + gc_crc (131072 * (R s % 64) + (2048 * (T s % 64) + (1024 * 0 + (512 + B s (T s))))) * 8388608 := by
      rw [hk]; rfl
    rw [ec] at h
    refine br_t (gm_b0 p ak hk) ?_
    exact gm_next28D (a := 0) p (Nat.mod_lt _ (by decide)) (by decide) (hB _) hcell h
  | true =>
    have ec : gw_w (B s) ((T s, R s), (true, ak s)) = (131072 * (R s % 64) + (2048 * (T s % 64) + (1024 * 1 + (512 + B s (T s))))) + gc_crc (131072 * (R s % 64) + (2048 * (T s % 64) + (1024 * 1 + (512 + B s (T s))))) * 8388608 := by
      rw [hk]; rfl
    rw [ec] at h
    refine br_f (gm_b1 p ak hk) (nm_r (gw_e2 _) ?_)
    exact gm_next28D (a := 1) p (Nat.mod_lt _ (by decide)) (by decide) (hB _) hcell h
theorem gm_nextN {post : Int32 → SX → Prop} (p : gs_p s o) (h : post (nI (gw_w (B s) ((0, R s), (false, ak s)))) (gs_U w ob G C T ib R K (gb_u ow s false) (gb_u ak s false) ln O N)) : wpX_nextFrame post (gs_U w ob G C T ib R K ow ak ln O N) (nI s) 0 := by
  have e0 : ((fun j => nI (R j)) (nI s).toNatClampNeg &&& 63) <<< ((17 : Int32) &&& 31) = nI (131072 * (R s % 64)) := by rw [gm_c p]; exact gn_s17
  refine ⟨gm_i2 p, nm_r e0 ⟨gm_i2 p, ?_⟩⟩
  cases hk : ak s with
  | false =>
    have ec : gw_w (B s) ((0, R s), (false, ak s)) = 131072 * (R s % 64) + gc_crc (131072 * (R s % 64)) * 8388608 := by
      rw [hk]; rfl
    rw [ec] at h
    refine br_t (gm_b0 p ak hk) (br_t rfl ?_)
    exact gm_next79 p (by omega) h
  | true =>
    have ec : gw_w (B s) ((0, R s), (false, ak s)) = (131072 * (R s % 64) + 1024) + gc_crc (131072 * (R s % 64) + 1024) * 8388608 := by
      rw [hk]; rfl
    rw [ec] at h
    refine br_f (gm_b1 p ak hk) (nm_r (gw_e2 _) (br_t rfl ?_))
    exact gm_next79 p (by omega) h
end
