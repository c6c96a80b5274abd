/- a frame arrives and is read -/
section
variable {w : Nat} {ob : Nat → Int32} {G C T : Nat → Nat} {ib : Nat → Int32} {R K : Nat → Nat} {ow ak : Nat → Bool} {ln : Nat → Int32} {O N : Nat → Nat} {L : Nat → List gb_F} {B : Nat → Nat → Nat} {s o : Nat} {post : SX → Prop}
theorem gm_86 (q : gs_p o s) (hp : post (gs_U w ob G C (gb_u T o (C o)) ib R K ow ak ln O N)) : wX_readConfirmation_86 post (nI o) (nI w) ob (fun j => nI (G j)) (fun j => nI (C j)) (fun j => nI (T j)) ib (fun j => nI (R j)) (fun j => nI (K j)) (fun j => gs_bi (ow j)) (fun j => gs_bi (ak j)) ln (fun j => nI (O j)) (fun j => nI (N j)) :=
  ⟨gm_i2 q, gm_i2 q, nm_r (gm_ui q T (C o) (gm_at q C)) hp⟩
theorem gm_50 (q : gs_p o s) {c : Nat} {ask : Bool} (hT : T o < 1000000) (hC : C o < 1000000) (ha : c / 1024 % 2 = if ask = true then 1 else 0) (hp : post (gs_U w ob G C (gb_u T o (if T o < C o ∨ ask = true then C o else T o)) ib R K ow ak ln O N)) : wX_readConfirmation_50 post (nI o) (nI c) (nI w) ob (fun j => nI (G j)) (fun j => nI (C j)) (fun j => nI (T j)) ib (fun j => nI (R j)) (fun j => nI (K j)) (fun j => gs_bi (ow j)) (fun j => gs_bi (ak j)) ln (fun j => nI (O j)) (fun j => nI (N j)) := by
  refine ⟨gm_i2 q, gm_i2 q, ?_⟩
  have e : (fun j => nI (T j)) (nI o).toNatClampNeg - (fun j => nI (C j)) (nI o).toNatClampNeg = nI (T o) - nI (C o) := by
    rw [gm_at q T, gm_at q C]
  have hn := gn_neg (a := T o) (b := C o) (by omega) (by omega)
  by_cases hb : T o < C o
  · rw [if_pos (Or.inl hb)] at hp
    refine br_f ?_ (br_f (by decide) (gm_86 q hp))
    rw [e]; exact fun z => absurd (hn.mpr hb) (Int32.not_lt.mpr z)
  · refine br_t ?_ (br_t rfl ?_)
    · rw [e]; exact Int32.not_lt.mp (fun z => hb (hn.mp z))
    · cases ask with
      | true =>
        rw [if_pos (Or.inr rfl)] at hp
        refine br_f ?_ (gm_86 q hp)
        rw [gn_b10, ha]; decide
      | false =>
        have hc : ¬ (T o < C o ∨ false = true) := fun z => z.elim hb (by decide)
        rw [if_neg hc, gb_uid] at hp
        refine br_t ?_ hp
        rw [gn_b10, ha]; rfl
theorem gm_rc {f : gb_F} (p : gs_p s o) (h : gs_Ok w ob G C T ib R K ln O N L B) (he : K s ≤ f.1.2 ∧ f.1.2 ≤ R s) (hp : post (gs_U w ob G (gb_u C o (gb_C (C o) f)) (gb_u T o (gb_T (C o) (T o) f)) ib R K ow ak ln O N)) : wpX_readConfirmation post (gs_U w ob G C T ib R K ow ak ln O N) (nI o) (nI (gw_c (B s) f)) := by
  have q := gs_sw p
  have hB := (h.2 s o p).2.2.2.2.2
  have hE := (h.2 o s q).1.1
  have hG := (h.2 o s q).2.1.2.2
  have dec := gw_dec (f := f) hB
  have hnw := gn_news (K := K s) (C := C o) (R := R s) (G := G o) (e := f.1.2) (by omega) he
  have e3 : (nI (gw_c (B s) f) >>> ((17 : Int32) &&& 31)) &&& 63 = nI (f.1.2 % 64) := by rw [gn_r17 dec.1, dec.2.1]
  have e4 : (nI (f.1.2 % 64) - (fun j => nI (C j)) (nI o).toNatClampNeg) &&& 63 = nI ((f.1.2 % 64 + 63 * C o) % 64) := by rw [gm_at q C]; exact gw_sub63 (by omega)
  have e5 : (fun j => nI (G j)) (nI o).toNatClampNeg - (fun j => nI (C j)) (nI o).toNatClampNeg = nI (G o - C o) := by rw [gm_at q C, gm_at q G]; exact pk_sub (by omega)
  refine nm_r e3 ⟨gm_i2 q, nm_r e4 ⟨gm_i2 q, gm_i2 q, ?_⟩⟩
  have hlt : (f.1.2 % 64 + 63 * C o) % 64 < 64 := Nat.mod_lt _ (by decide)
  generalize (f.1.2 % 64 + 63 * C o) % 64 = d at hnw hlt
  by_cases hc : C o ≤ f.1.2
  · have eC : gb_C (C o) f = f.1.2 := if_pos hc
    have eT : gb_T (C o) (T o) f = if T o < (gb_u C o f.1.2) o ∨ f.2.2 = true then (gb_u C o f.1.2) o else T o := by unfold gb_T; rw [eC, gb_us]
    rw [eC, eT] at hp
    refine br_f ?_ ⟨gm_i2 q, gm_i2 q, nm_r (gm_ui q C f.1.2 ?_) (gm_50 q (by omega) (by rw [gb_us]; omega) dec.2.2.2.1 hp)⟩
    · rw [e5]; exact nI_nlt (hnw.1.mpr hc) (by omega)
    · rw [gm_at q C, nI_add]; exact congrArg nI (hnw.2 hc)
  · have eC : gb_C (C o) f = C o := if_neg hc
    have eT : gb_T (C o) (T o) f = if T o < C o ∨ f.2.2 = true then C o else T o := by unfold gb_T; rw [eC]
    rw [eC, eT, gb_uid] at hp
    refine br_t ?_ (gm_50 q (by omega) (by omega) dec.2.2.2.1 hp)
    rw [e5]
    have : ¬ d ≤ G o - C o := fun z => hc (hnw.1.mp z)
    exact nI_lt (by omega) (by omega)
theorem gm_rd {f : gb_F} (p : gs_p s o) (h : gs_Ok w ob G C T ib R K ln O N L B) (hd : f.2.1 = true) (hn : K o ≤ f.1.1 ∧ f.1.1 < G s) (hp : ∀ ib', gs_Ok w ob G C T ib' (gb_u R o (gb_R (R o) f)) K ln O N L B → post (gs_U w ob G C T ib' (gb_u R o (gb_R (R o) f)) K (gb_u ow o true) (gb_u ak o (gb_ak (R o) (ak o) f)) ln O N)) : wpX_readData post (gs_U w ob G C T ib R K ow ak ln O N) (nI o) (nI (gw_c (B s) f)) := by
  have q := gs_sw p
  have hB := (h.2 s o p).2.2.2.2.2
  have hD := (h.2 s o p).1.1
  have hG := (h.2 s o p).2.1.2.2
  have dec := gw_dec (f := f) hB
  have dd := dec.2.2.2.2 hd
  have hah := gn_ahead (K := K o) (R := R o) (G := G s) (n := f.1.1) (by omega) hn
  have e3 : (nI (gw_c (B s) f) >>> ((11 : Int32) &&& 31)) &&& 63 = nI (f.1.1 % 64) := by rw [gn_r11 dec.1, dd.1]
  have e4 : (nI (f.1.1 % 64) - (fun j => nI (R j)) (nI o).toNatClampNeg) &&& 63 = nI ((f.1.1 % 64 + 63 * R o) % 64) := by rw [gm_at q R]; exact gw_sub63 (by omega)
  refine nm_r e3 ⟨gm_i2 q, nm_r e4 ?_⟩
  have hlt : (f.1.1 % 64 + 63 * R o) % 64 < 64 := Nat.mod_lt _ (by decide)
  generalize (f.1.1 % 64 + 63 * R o) % 64 = d at hah hlt
  by_cases h0 : f.1.1 = R o
  · have eR : gb_R (R o) f = R o + 1 := if_pos ⟨hd, h0⟩
    have eA : gb_ak (R o) (ak o) f = ak o := by unfold gb_ak; rw [h0, decide_eq_false (Nat.lt_irrefl _), Bool.and_false, Bool.or_false]
    rw [eR, eA, gb_uid] at hp
    refine br_t ?_ ⟨gm_i2 q, ?_⟩
    · rw [hah.1.mpr h0]; rfl
    · rw [gm_at q R]
      refine gm_place _ o (R o) ⟨gm_i64 q _, nm_r (e' := upd ib (32 * o + R o % 32) (nI (B s f.1.1))) ?_ ⟨gm_i2 q, gm_i2 q, nm_r (gm_ui q R (R o + 1) ?_) ⟨gm_i2 q, nm_r (gm_ub q ow true gm_n1) (hp _ (gs_rd h p hd h0 (by omega)))⟩⟩⟩
      · rw [gm_c64 q, gn_m9, dd.2]
      · exact nI_1 _
  · have eR : gb_R (R o) f = R o := if_neg (fun z => h0 z.2)
    rw [eR, gb_uid] at hp
    refine br_f ?_ ?_
    · intro z; exact h0 (hah.1.mp ((nI_eq (by omega) (by decide)).mp z))
    · by_cases h1 : R o ≤ f.1.1
      · have eA : gb_ak (R o) (ak o) f = true := by unfold gb_ak; rw [hd, decide_eq_true (by omega : R o < f.1.1), Bool.and_true, Bool.or_true]
        rw [eA] at hp
        refine br_f ?_ ⟨gm_i2 q, nm_r (gm_ub q ak true gm_n1) ⟨gm_i2 q, nm_r (gm_ub q ow true gm_n1) (hp ib h)⟩⟩
        exact nI_ge (b := 32) (hah.2.mpr h1) (by decide)
      · have eA : gb_ak (R o) (ak o) f = ak o := by unfold gb_ak; rw [decide_eq_false (by omega : ¬ R o < f.1.1), Bool.and_false, Bool.or_false]
        rw [eA, gb_uid] at hp
        refine br_t ?_ ⟨gm_i2 q, nm_r (gm_ub q ow true gm_n1) (hp ib h)⟩
        have : ¬ d < 32 := fun z => h1 (hah.2.mp z)
        exact nI_le (a := 32) (by omega) (by omega)
theorem gm_arr {f : gb_F} (p : gs_p s o) (h : gs_Ok w ob G C T ib R K ln O N L B) (hd : f.2.1 = true → K o ≤ f.1.1 ∧ f.1.1 < G s) (he : K s ≤ f.1.2 ∧ f.1.2 ≤ R s) (hp : ∀ ib', gs_Ok w ob G (gb_u C o (gb_C (C o) f)) (gb_u T o (gb_T (C o) (T o) f)) ib' (gb_u R o (gb_R (R o) f)) K ln O N L B → post (gs_U w ob G (gb_u C o (gb_C (C o) f)) (gb_u T o (gb_T (C o) (T o) f)) ib' (gb_u R o (gb_R (R o) f)) K (gb_u ow o (ow o || f.2.1)) (gb_u ak o (gb_ak (R o) (ak o) f)) ln O N)) : wpX_arrive post (gs_U w ob G C T ib R K ow ak ln O N) (nI o) (nI (gw_w (B s) f)) := by
  have hB := (h.2 s o p).2.2.2.2.2
  have dec := gw_dec (f := f) hB
  have wd := gw_wd (f := f) hB
  have h1 := gs_rc h p he
  refine nm_r (e' := nI (gw_c (B s) f)) ?_ (gm_chk dec.1 (br_t ?_ (gm_rc p h he ?_)))
  · rw [gn_m23, wd.1]
  · rw [gn_r23 wd.2.2, wd.2.1]
  · cases hf : f.2.1 with
    | false =>
      have eR : gb_R (R o) f = R o := if_neg (fun z => by rw [hf] at z; exact absurd z.1 (by decide))
      have eA : gb_ak (R o) (ak o) f = ak o := by unfold gb_ak; rw [hf, Bool.false_and, Bool.or_false]
      rw [eR, eA, hf, Bool.or_false, gb_uid, gb_uid, gb_uid] at hp
      refine br_t ?_ (hp ib h1)
      rw [gn_b9, dec.2.2.1, hf]; rfl
    | true =>
      rw [hf, Bool.or_true] at hp
      refine br_f ?_ (gm_rd p h1 hf (hd hf) (fun ib' h2 => hp ib' h2))
      rw [gn_b9, dec.2.2.1, hf]; decide
theorem gm_arrX {c : Nat} (p : gs_p s o) (hc : c < 2147483648) (hx : gc_crc (c % 8388608) ≠ c / 8388608) (hp : post (gs_U w ob G C T ib R K ow (gb_u ak o true) ln O N)) : wpX_arrive post (gs_U w ob G C T ib R K ow ak ln O N) (nI o) (nI c) := by
  have q := gs_sw p
  have hm : c % 8388608 < 8388608 := Nat.mod_lt _ (by decide)
  have hl : gc_crc (c % 8388608) < 256 := gc_crc_lt hm
  refine nm_r (gn_m23 c) (gm_chk hm (br_f ?_ ⟨gm_i2 q, nm_r (gm_ub q ak true gm_n1) hp⟩))
  rw [gn_r23 hc, nI_eq (by omega) (by omega)]
  exact hx
end
