/- a station sends what fits -/
section
variable {w : Nat} {ob : Nat → Int32} {G C T : Nat → Nat} {ib : Nat → Int32} {R K : Nat → Nat} {ow ak : Nat → Bool} {ln : Nat → Int32} {O N : Nat → Nat} {L : Nat → List gb_F} {B : Nat → Nat → Nat} {s o : Nat} {post : SX → Prop}
theorem gm_81D (p : gs_p s o) {i n : Nat} (hB : ∀ j, B s j < 512) (hcell : ob (32 * s + T s % 32) = nI (B s (T s))) (h : wX_sendWhatFits_2 post (nI s) n (nI (i + 1)) (nI w) ob (fun j => nI (G j)) (fun j => nI (C j)) (fun j => nI ((gb_u T s (T s + 1)) j)) ib (fun j => nI (R j)) (fun j => nI (K j)) (fun j => gs_bi ((gb_u ow s false) j)) (fun j => gs_bi ((gb_u ak s false) j)) (upd ln (32 * s + (O s + N s) % 32) (nI (gw_w (B s) ((T s, R s), (true, ak s))))) (fun j => nI (O j)) (fun j => nI ((gb_u N s (N s + 1)) j))) : wX_sendWhatFits_81 post (wX_sendWhatFits_2 post (nI s) n) (nI s) (nI i) 1 (nI w) ob (fun j => nI (G j)) (fun j => nI (C j)) (fun j => nI (T j)) ib (fun j => nI (R j)) (fun j => nI (K j)) (fun j => gs_bi (ow j)) (fun j => gs_bi (ak j)) ln (fun j => nI (O j)) (fun j => nI (N j)) := by
  unfold wX_sendWhatFits_81
  refine gm_nextD p hB hcell ?_
  refine gm_put p _ ?_
  exact nm_r (nI_1 i) h
theorem gm_81N (p : gs_p s o) {i n : Nat} (h : wX_sendWhatFits_2 post (nI s) n (nI (i + 1)) (nI w) ob (fun j => nI (G j)) (fun j => nI (C j)) (fun j => nI (T j)) ib (fun j => nI (R j)) (fun j => nI (K j)) (fun j => gs_bi ((gb_u ow s false) j)) (fun j => gs_bi ((gb_u ak s false) j)) (upd ln (32 * s + (O s + N s) % 32) (nI (gw_w (B s) ((0, R s), (false, ak s))))) (fun j => nI (O j)) (fun j => nI ((gb_u N s (N s + 1)) j))) : wX_sendWhatFits_81 post (wX_sendWhatFits_2 post (nI s) n) (nI s) (nI i) 0 (nI w) ob (fun j => nI (G j)) (fun j => nI (C j)) (fun j => nI (T j)) ib (fun j => nI (R j)) (fun j => nI (K j)) (fun j => gs_bi (ow j)) (fun j => gs_bi (ak j)) ln (fun j => nI (O j)) (fun j => nI (N j)) := by
  unfold wX_sendWhatFits_81
  refine gm_nextN (B := B) p ?_
  refine gm_put p _ ?_
  exact nm_r (nI_1 i) h
theorem gm_54 (p : gs_p s o) {i n : Nat} (d r : Bool) (hw : w < 100) (hN : N s < 100) (h1 : w ≤ N s → post (gs_U w ob G C T ib R K ow ak ln O N)) (h2 : d = false → r = false → post (gs_U w ob G C T ib R K ow ak ln O N)) (h3 : N s < w → (d = true ∨ r = true) → wX_sendWhatFits_81 post (wX_sendWhatFits_2 post (nI s) n) (nI s) (nI i) (gs_bi d) (nI w) ob (fun j => nI (G j)) (fun j => nI (C j)) (fun j => nI (T j)) ib (fun j => nI (R j)) (fun j => nI (K j)) (fun j => gs_bi (ow j)) (fun j => gs_bi (ak j)) ln (fun j => nI (O j)) (fun j => nI (N j))) : wX_sendWhatFits_54 post (wX_sendWhatFits_2 post (nI s) n) (nI s) (nI i) (gs_bi d) (gs_bi r) (nI w) ob (fun j => nI (G j)) (fun j => nI (C j)) (fun j => nI (T j)) ib (fun j => nI (R j)) (fun j => nI (K j)) (fun j => gs_bi (ow j)) (fun j => gs_bi (ak j)) ln (fun j => nI (O j)) (fun j => nI (N j)) := by
  refine ⟨gm_i2 p, ?_⟩
  have e : (fun j => nI (N j)) (nI s).toNatClampNeg = nI (N s) := congrArg (fun z => nI (N z)) (gm_c p)
  by_cases hf : w ≤ N s
  · refine br_t ?_ (h1 hf)
    rw [e]; exact nI_le hf (by omega)
  · refine br_f ?_ ?_
    · rw [e]; exact nI_ge (by omega) (by omega)
    · cases d with
      | true => exact br_f (by decide) (h3 (by omega) (Or.inl rfl))
      | false =>
        refine br_t rfl ?_
        cases r with
        | true => exact br_f (by decide) (h3 (by omega) (Or.inr rfl))
        | false => exact br_t rfl (h2 rfl rfl)
theorem gm_30 (p : gs_p s o) {i n : Nat} {z : Int32} (h : wX_sendWhatFits_54 post (wX_sendWhatFits_2 post (nI s) n) (nI s) (nI i) z (gs_bi (ow s || ak s)) (nI w) ob (fun j => nI (G j)) (fun j => nI (C j)) (fun j => nI (T j)) ib (fun j => nI (R j)) (fun j => nI (K j)) (fun j => gs_bi (ow j)) (fun j => gs_bi (ak j)) ln (fun j => nI (O j)) (fun j => nI (N j))) : wX_sendWhatFits_30 post (wX_sendWhatFits_2 post (nI s) n) (nI s) (nI i) z (nI w) ob (fun j => nI (G j)) (fun j => nI (C j)) (fun j => nI (T j)) ib (fun j => nI (R j)) (fun j => nI (K j)) (fun j => gs_bi (ow j)) (fun j => gs_bi (ak j)) ln (fun j => nI (O j)) (fun j => nI (N j)) := by
  refine ⟨gm_i2 p, ?_⟩
  cases h1 : ow s with
  | true =>
    rw [h1] at h
    exact br_f (gm_b1 p ow h1) h
  | false =>
    rw [h1] at h
    refine br_t (gm_b0 p ow h1) ⟨gm_i2 p, ?_⟩
    cases h2 : ak s with
    | true =>
      rw [h2] at h
      exact br_f (gm_b1 p ak h2) h
    | false =>
      rw [h2] at h
      exact br_t (gm_b0 p ak h2) h
theorem gm_satk {T' : Nat → Nat} {ow' ak' : Nat → Bool} {L' : Nat → List gb_F} (j : Nat) (hj : j = s ∨ gs_Sat G T ow ak L j) (h : j ≠ s → T' j = T j ∧ ow' j = ow j ∧ ak' j = ak j ∧ L' j = L j) : j = s ∨ gs_Sat G T' ow' ak' L' j := by
  by_cases e : j = s
  · exact Or.inl e
  · refine Or.inr (fun hL => ?_)
    obtain ⟨e1, e2, e3, e4⟩ := h e
    rw [e4] at hL
    rw [e1, e2, e3]
    exact (hj.resolve_left e) hL
theorem gm_send_l (p : gs_p s o) : ∀ (d i : Nat) (T : Nat → Nat) (ow ak : Nat → Bool) (ln : Nat → Int32) (N : Nat → Nat) (L : Nat → List gb_F), i + d = w → i ≤ (L s).length → gs_Ok w ob G C T ib R K ln O N L B → gs_Post w ob G K B (gs_mu G T R ow ak L) (gs_zz G C T R ow ak L) (fun j => j = s ∨ gs_Sat G T ow ak L j) post → wX_sendWhatFits_2 post (nI s) (d + 1) (nI i) (nI w) ob (fun j => nI (G j)) (fun j => nI (C j)) (fun j => nI (T j)) ib (fun j => nI (R j)) (fun j => nI (K j)) (fun j => gs_bi (ow j)) (fun j => gs_bi (ak j)) ln (fun j => nI (O j)) (fun j => nI (N j)) := by
  intro d
  induction d with
  | zero =>
    intro i T ow ak ln N L hi hl h hP
    have hw := h.1
    refine br_t (nI_le (by omega) (by omega)) ?_
    refine hP C T ib R ow ak ln O N L h (Nat.le_refl _) (fun a b q z => z b q) (fun j hj => hj.elim (fun e hL => ?_) id)
    rw [e] at hL
    rw [hL] at hl
    exact absurd hl (by show ¬ i ≤ 0; omega)
  | succ d ih =>
    intro i T ow ak ln N L hi hl h hP
    have hw := h.1
    obtain ⟨d1, d2, d3, d4, d5, d6⟩ := h.2 s o p
    have hKR : K s ≤ R s := by have := (h.2 o s (gs_sw p)).1.1; omega
    have hPs : gs_Sat G T ow ak L s → post (gs_U w ob G C T ib R K ow ak ln O N) := fun hs => hP C T ib R ow ak ln O N L h (Nat.le_refl _) (fun a b q z => z b q) (fun j hj => hj.elim (fun e => by rw [e]; exact hs) id)
    have hfull : w ≤ N s → post (gs_U w ob G C T ib R K ow ak ln O N) := fun hf => hPs (fun hL => by
      rw [hL] at d2
      exact absurd d2.1 (by show ¬ N s = 0; omega))
    refine br_f (nI_ge (by omega) (by omega)) ⟨gm_i2 p, gm_i2 p, ?_⟩
    by_cases hT : T s = G s
    · refine br_t ((gm_at p T).trans ((congrArg nI hT).trans (gm_at p G).symm)) (gm_30 p ?_)
      refine gm_54 p false (ow s || ak s) (by omega) (by omega) hfull (fun _ hr => hPs (fun _ => ?_)) (fun hN hr => ?_)
      · refine ⟨hT, ?_⟩
        cases h1 : ow s <;> cases h2 : ak s <;> rw [h1, h2] at hr <;> first | exact ⟨rfl, rfl⟩ | cases hr
      · have hr' : (ow s || ak s) = true := hr.resolve_left (by decide)
        refine gm_81N (B := B) p ?_
        refine ih (i + 1) T (gb_u ow s false) (gb_u ak s false) _ (gb_u N s (N s + 1)) (gb_u L s (L s ++ [((0, R s), (false, ak s))])) (by omega) ?_ (gs_put h p hN (fun hd => by cases hd) ⟨hKR, Nat.le_refl _⟩) ?_
        · rw [gb_us, List.length_append]; show i + 1 ≤ (L s).length + 1; omega
        · exact gs_Post_w hP (gs_sn_mu p hr') (fun a z b q => gs_sn_Z h p q (z b q)) (fun j hj => gm_satk j hj (fun e => ⟨rfl, gb_un e, gb_un e, gb_un e⟩))
    · have hT' : T s < G s := by have := d1.1; omega
      refine br_f (fun z => hT ((nI_eq (by have := d1.1; omega) (by omega)).mp ((gm_at p T).symm.trans (z.trans (gm_at p G))))) (gm_30 p ?_)
      refine gm_54 p true (ow s || ak s) (by omega) (by omega) hfull (fun hd _ => by cases hd) (fun hN hr => ?_)
      refine gm_81D p d6 (d4 (T s) (by have := d1.1; omega) hT') ?_
      refine ih (i + 1) (gb_u T s (T s + 1)) (gb_u ow s false) (gb_u ak s false) _ (gb_u N s (N s + 1)) (gb_u L s (L s ++ [((T s, R s), (true, ak s))])) (by omega) ?_ (gs_setT (gs_put h p hN (fun _ => ?_) ⟨hKR, Nat.le_refl _⟩) p ?_) ?_
      · rw [gb_us, List.length_append]; show i + 1 ≤ (L s).length + 1; omega
      · have := d1.1; exact ⟨by show K o ≤ T s; omega, hT'⟩
      · have := d1.1; omega
      · exact gs_Post_w hP (gs_sd_mu p hT') (fun a z b q => gs_sd_Z h p q (z b q)) (fun j hj => gm_satk j hj (fun e => ⟨gb_un e, gb_un e, gb_un e, gb_un e⟩))
theorem gm_send (p : gs_p s o) (h : gs_Ok w ob G C T ib R K ln O N L B) (hP : gs_Post w ob G K B (gs_mu G T R ow ak L) (gs_zz G C T R ow ak L) (fun j => j = s ∨ gs_Sat G T ow ak L j) post) : wpX_sendWhatFits post (gs_U w ob G C T ib R K ow ak ln O N) (nI s) :=
  ⟨w + 1, gm_send_l p w 0 T ow ak ln N L (Nat.zero_add w) (Nat.zero_le _) h hP⟩
theorem gm_again (p : gs_p s o) (h : gs_Ok w ob G C T ib R K ln O N L B) (hP : gs_Post w ob G K B 11650 (fun a => a = s ∨ gs_zz G C T R ow ak L a) (fun j => j = s ∨ gs_Sat G T ow ak L j) post) : wpX_sendAgain post (gs_U w ob G C T ib R K ow ak ln O N) (nI s) := by
  have hD := (h.2 s o p).1.1
  have h1 : gs_Ok w ob G C (gb_u T s (C s)) ib R K ln O N L B := gs_setT h p ⟨Nat.le_refl _, by omega⟩
  refine ⟨gm_i2 p, gm_i2 p, nm_r (gm_ui p T (C s) (congrArg (fun z => nI (C z)) (gm_c p))) ?_⟩
  refine gm_send p h1 ?_
  intro C2 T2 ib2 R2 ow2 ak2 ln2 O2 N2 L2 h2 m2 z2 s2
  refine hP C2 T2 ib2 R2 ow2 ak2 ln2 O2 N2 L2 h2 (Nat.le_trans m2 (gs_mu_le h1)) (fun a b q z => z2 a b q ?_) (fun j hj => s2 j (gm_satk j hj (fun e => ⟨gb_un e, rfl, rfl, rfl⟩)))
  intro b' q'
  rcases gs_two p q' with ⟨ea, eb⟩ | ⟨ea, eb⟩
  · rw [ea, eb]; exact gs_bk_Z h p
  · rw [ea, eb]
    refine gs_bk_Zo p ?_
    have hz := z.resolve_left (by rw [ea]; exact gs_ne (gs_sw p))
    have := hz b' q'
    rw [ea, eb] at this
    exact this
end
