/- the oldest frame moves; the line finishes -/
section
variable {w : Nat} {ob : Nat → Int32} {G C T : Nat → Nat} {ib : Nat → Int32} {R K : Nat → Nat} {ow ak : Nat → Bool} {ln : Nat → Int32} {O N : Nat → Nat} {L : Nat → List gb_F} {B : Nat → Nat → Nat} {s o : Nat} {post : SX → Prop}
theorem gm_89 (p : gs_p s o) (h : gs_Ok w ob G C T ib R K ln O N L B) (hP : gs_Post w ob G K B (gs_mu G T R ow ak L) (gs_zz G C T R ow ak L) (fun j => j < 2) post) : wX_moveOldestFrame_89 post (nI s) (nI w) ob (fun j => nI (G j)) (fun j => nI (C j)) (fun j => nI (T j)) ib (fun j => nI (R j)) (fun j => nI (K j)) (fun j => gs_bi (ow j)) (fun j => gs_bi (ak j)) ln (fun j => nI (O j)) (fun j => nI (N j)) := by
  unfold wX_moveOldestFrame_89
  rw [gm_sub p]
  refine gm_send p h ?_
  intro C1 T1 ib1 R1 ow1 ak1 ln1 O1 N1 L1 h1 m1 z1 s1
  refine gm_send (gs_sw p) h1 ?_
  intro C2 T2 ib2 R2 ow2 ak2 ln2 O2 N2 L2 h2 m2 z2 s2
  refine hP C2 T2 ib2 R2 ow2 ak2 ln2 O2 N2 L2 h2 (Nat.le_trans m2 m1) (fun a b q z => z2 a b q (fun b' q' => z1 a b' q' z)) (fun j hj => s2 j ?_)
  by_cases e : j = o
  · exact Or.inl e
  · exact Or.inr (s1 j (Or.inl (by unfold gs_p at p; omega)))
theorem gm_75G {x : Int32} {f : gb_F} (p : gs_p s o) (h : gs_Ok w ob G C T ib R K ln O N L B) (hx : ¬ x = 1) (hd : f.2.1 = true → K o ≤ f.1.1 ∧ f.1.1 < G s) (he : K s ≤ f.1.2 ∧ f.1.2 ≤ R s) (hP : (∃ ib', gs_Ok w ob G (gb_u C o (gb_C (C o) f)) (gb_u T o (gb_T (C o) (T o) f)) ib' (gb_u R o (gb_R (R o) f)) K ln O N L B) → gs_Post w ob G K B (gs_mu G (gb_u T o (gb_T (C o) (T o) f)) (gb_u R o (gb_R (R o) f)) (gb_u ow o (ow o || f.2.1)) (gb_u ak o (gb_ak (R o) (ak o) f)) L) (gs_zz G (gb_u C o (gb_C (C o) f)) (gb_u T o (gb_T (C o) (T o) f)) (gb_u R o (gb_R (R o) f)) (gb_u ow o (ow o || f.2.1)) (gb_u ak o (gb_ak (R o) (ak o) f)) L) (fun j => j < 2) post) : wX_moveOldestFrame_75 post (nI s) x (nI (gw_w (B s) f)) (nI w) ob (fun j => nI (G j)) (fun j => nI (C j)) (fun j => nI (T j)) ib (fun j => nI (R j)) (fun j => nI (K j)) (fun j => gs_bi (ow j)) (fun j => gs_bi (ak j)) ln (fun j => nI (O j)) (fun j => nI (N j)) := by
  refine br_f hx ?_
  rw [gm_sub p]
  refine gm_arr p h hd he (fun ib' h1 => ?_)
  exact gm_89 p h1 (hP ⟨ib', h1⟩)
theorem gm_75X {x : Int32} {c : Nat} (p : gs_p s o) (h : gs_Ok w ob G C T ib R K ln O N L B) (hx : ¬ x = 1) (hc : c < 2147483648) (hb : gc_crc (c % 8388608) ≠ c / 8388608) (hP : gs_Post w ob G K B 11650 (fun _ => False) (fun j => j < 2) post) : wX_moveOldestFrame_75 post (nI s) x (nI c) (nI w) ob (fun j => nI (G j)) (fun j => nI (C j)) (fun j => nI (T j)) ib (fun j => nI (R j)) (fun j => nI (K j)) (fun j => gs_bi (ow j)) (fun j => gs_bi (ak j)) ln (fun j => nI (O j)) (fun j => nI (N j)) := by
  refine br_f hx ?_
  rw [gm_sub p]
  refine gm_arrX p hc hb ?_
  exact gm_89 p h (gs_Post_w hP (gs_mu_le h) (fun _ z => z.elim) (fun _ z => z))
theorem gm_mv {x y : Int32} {f : gb_F} {t : List gb_F} (p : gs_p s o) (h : gs_Ok w ob G C T ib R K ln O N L B) (hL : L s = f :: t) (h3 : x = 3 → wX_moveOldestFrame_59 post (nI s) x y (nI (gw_w (B s) f)) (nI w) ob (fun j => nI (G j)) (fun j => nI (C j)) (fun j => nI (T j)) ib (fun j => nI (R j)) (fun j => nI (K j)) (fun j => gs_bi (ow j)) (fun j => gs_bi (ak j)) (upd ln (32 * s + ((gb_u O s (O s + 1)) s + (gb_u N s t.length) s) % 32) (nI (gw_w (B s) f))) (fun j => nI ((gb_u O s (O s + 1)) j)) (fun j => nI ((gb_u (gb_u N s t.length) s ((gb_u N s t.length) s + 1)) j))) (hn : ¬ x = 3 → wX_moveOldestFrame_59 post (nI s) x y (nI (gw_w (B s) f)) (nI w) ob (fun j => nI (G j)) (fun j => nI (C j)) (fun j => nI (T j)) ib (fun j => nI (R j)) (fun j => nI (K j)) (fun j => gs_bi (ow j)) (fun j => gs_bi (ak j)) ln (fun j => nI ((gb_u O s (O s + 1)) j)) (fun j => nI ((gb_u N s t.length) j))) : wpX_moveOldestFrame post (gs_U w ob G C T ib R K ow ak ln O N) (nI s) x y := by
  obtain ⟨k1, k2, k3, k4, k5⟩ := gs_head h p hL
  have hw := h.1
  refine ⟨gm_i2 p, br_f ?_ ⟨gm_i2 p, ?_⟩⟩
  · rw [gm_at p N]; exact nI_ne0 (by omega) (by omega)
  rw [gm_at p O]
  refine gm_place _ s (O s) ⟨gm_i64 p _, nm_r (e' := nI (gw_w (B s) f)) ?_ ⟨gm_i2 p, gm_i2 p, nm_r (gm_ui p O (O s + 1) ?_) ⟨gm_i2 p, gm_i2 p, nm_r (gm_ui p N t.length ?_) ?_⟩⟩⟩
  · rw [gm_c64 p, k1]
  · exact nI_1 _
  · rw [gm_at p N, k4]; exact nI_pred _
  · refine br_c (fun hx => ?_) (fun hx => hn hx)
    exact gm_put p _ (h3 hx)
/-- a frame moves without a fault: the measure falls -/
theorem gm_mvN {m : Nat} {f : gb_F} {t : List gb_F} (p : gs_p s o) (h : gs_Ok w ob G C T ib R K ln O N L B) (hL : L s = f :: t) (hm : (gs_mu G T R ow ak L) ≤ m + 1) (hP : gs_Post w ob G K B m (gs_zz G C T R ow ak L) (fun j => j < 2) post) : wpX_moveOldestFrame post (gs_U w ob G C T ib R K ow ak ln O N) (nI s) 0 0 := by
  obtain ⟨k1, k2, k3, k4, k5⟩ := gs_head h p hL
  refine gm_mv p h hL (fun hx => absurd hx (by decide)) (fun _ => ?_)
  refine br_f (by decide) ?_
  refine gm_75G p (gs_pop h p hL) (by decide) k2 k3 (fun _ => ?_)
  have hmu := gs_ar_mu (ow := ow) (ak := ak) h p hL
  exact gs_Post_w hP (by omega) (fun a z b q => gs_ar_Z h p hL q (z b q)) (fun _ z => z)
theorem gm_mvE {x y : Int32} (p : gs_p s o) (h : gs_Ok w ob G C T ib R K ln O N L B) (hL : L s = []) (hp : post (gs_U w ob G C T ib R K ow ak ln O N)) : wpX_moveOldestFrame post (gs_U w ob G C T ib R K ow ak ln O N) (nI s) x y := by
  have hN := (h.2 s o p).2.1.1
  rw [hL] at hN
  refine ⟨gm_i2 p, br_t ?_ hp⟩
  rw [gm_at p N, hN]; rfl
theorem gm_mv0 (p : gs_p s o) (h : gs_Ok w ob G C T ib R K ln O N L B) (hs : ∀ j, j < 2 → gs_Sat G T ow ak L j) (hP : gs_Post w ob G K B (gs_mu G T R ow ak L) (gs_zz G C T R ow ak L) (fun j => j < 2) post) : wpX_moveOldestFrame post (gs_U w ob G C T ib R K ow ak ln O N) (nI s) 0 0 := by
  cases hL : L s with
  | nil => exact gm_mvE p h hL (hP C T ib R ow ak ln O N L h (Nat.le_refl _) (fun a b q z => z b q) hs)
  | cons f t => exact gm_mvN p h hL (Nat.le_succ _) hP
/-- with any fault at all -/
theorem gm_mvX {x y : Int32} (p : gs_p s o) (h : gs_Ok w ob G C T ib R K ln O N L B) (hs : ∀ j, j < 2 → gs_Sat G T ow ak L j) (hP : gs_Post w ob G K B 11650 (fun _ => False) (fun j => j < 2) post) : wpX_moveOldestFrame post (gs_U w ob G C T ib R K ow ak ln O N) (nI s) x y := by
  cases hL : L s with
  | nil => exact gm_mvE p h hL (hP C T ib R ow ak ln O N L h (gs_mu_le h) (fun a b q z => z.elim) hs)
  | cons f t =>
    obtain ⟨k1, k2, k3, k4, k5⟩ := gs_head h p hL
    have hB := (h.2 s o p).2.2.2.2.2
    have hpop := gs_pop h p hL
    refine gm_mv p h hL (fun hx => ?_) (fun hx => ?_)
    · refine br_f (by rw [hx]; decide) ?_
      have hput := gs_put (f := f) hpop p (by rw [gb_us]; omega) k2 k3
      refine gm_75G p hput (by rw [hx]; decide) k2 k3 (fun hE => ?_)
      obtain ⟨ib', h1⟩ := hE
      exact gs_Post_w hP (gs_mu_le h1) (fun _ z => z.elim) (fun _ z => z)
    · by_cases h2 : x = 2
      · refine br_t h2 ?_
        have key : ∀ k, k < 31 → wX_moveOldestFrame_75 post (nI s) x (nI (gw_w (B s) f) ^^^ ((1 : Int32) <<< (nI k &&& 31))) (nI w) ob (fun j => nI (G j)) (fun j => nI (C j)) (fun j => nI (T j)) ib (fun j => nI (R j)) (fun j => nI (K j)) (fun j => gs_bi (ow j)) (fun j => gs_bi (ak j)) ln (fun j => nI ((gb_u O s (O s + 1)) j)) (fun j => nI ((gb_u N s t.length) j)) := by
          intro k hk
          rw [gn_flip hk]
          have wd := gw_wd (f := f) hB
          refine gm_75X p hpop (by rw [h2]; decide) ?_ (gc_dam (gw_dec (f := f) hB).1 hk) hP
          exact Nat.xor_lt_two_pow (n := 31) wd.2.2 (Nat.pow_lt_pow_right (by decide) hk)
        have pf := gn_pif y
        refine ⟨by decide, nm_e (br_c (fun z => ?_) (fun z => ?_))⟩
        · obtain ⟨k, hk, e⟩ := pf.2 (Int32.not_lt.mpr z)
          refine nm_e ?_
          rw [e]; exact key k hk
        · obtain ⟨k, hk, e⟩ := pf.1 (Int32.not_le.mp z)
          refine nm_e ?_
          rw [e]; exact key k hk
      · refine br_f h2 ?_
        by_cases h1 : x = 1
        · exact br_t h1 (gm_89 p hpop (gs_Post_w hP (gs_mu_le hpop) (fun _ z => z.elim) (fun _ z => z)))
        · refine gm_75G p hpop h1 k2 k3 (fun hE => ?_)
          obtain ⟨ib', h5⟩ := hE
          exact gs_Post_w hP (gs_mu_le h5) (fun _ z => z.elim) (fun _ z => z)
end
