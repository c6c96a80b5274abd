/- the picture of both stations, and each step of the line upon it -/
def gb_u {α : Type} (f : Nat → α) (k : Nat) (x : α) : Nat → α := fun j => if j = k then x else f j
theorem gb_us {α : Type} {f : Nat → α} {k : Nat} {x : α} : gb_u f k x k = x := if_pos rfl
theorem gb_un {α : Type} {f : Nat → α} {k j : Nat} {x : α} (h : j ≠ k) : gb_u f k x j = f j := if_neg h
theorem gb_uid {α : Type} (f : Nat → α) (k : Nat) : gb_u f k (f k) = f := by
  funext j
  unfold gb_u
  split
  · rename_i h; rw [h]
  · rfl
theorem gb_uI (f : Nat → Nat) (k x : Nat) : upd (fun j => nI (f j)) k (nI x) = fun j => nI (gb_u f k x j) := by
  funext j; unfold upd gb_u; dsimp only; split <;> rfl
def gs_bi (b : Bool) : Int32 := if b = true then 1 else 0
theorem gb_uB (f : Nat → Bool) (k : Nat) (x : Bool) : upd (fun j => gs_bi (f j)) k (gs_bi x) = fun j => gs_bi (gb_u f k x j) := by
  funext j; unfold upd gb_u; dsimp only; split <;> rfl
def gs_p (s o : Nat) : Prop := (s = 0 ∧ o = 1) ∨ (s = 1 ∧ o = 0)
theorem gs_sw {s o : Nat} (h : gs_p s o) : gs_p o s := by unfold gs_p at *; omega
theorem gs_ne {s o : Nat} (h : gs_p s o) : s ≠ o := by unfold gs_p at *; omega
theorem gs_two {s o a b : Nat} (h : gs_p s o) (h2 : gs_p a b) : (a = s ∧ b = o) ∨ (a = o ∧ b = s) := by unfold gs_p at *; omega
/-- the words l lie on the line of s from place o on -/
def gl_At (ln : Nat → Int32) (s : Nat) : Nat → List Nat → Prop
  | _, [] => True
  | o, w :: l => ln (32 * s + o % 32) = nI w ∧ gl_At ln s (o + 1) l
theorem gl_fr {ln : Nat → Int32} {s p : Nat} {x : Int32} : ∀ (l : List Nat) (o : Nat), (∀ i, i < l.length → 32 * s + (o + i) % 32 ≠ p) → gl_At ln s o l → gl_At (upd ln p x) s o l := by
  intro l
  induction l with
  | nil => intro o _ _; trivial
  | cons w l ih =>
    intro o h hl
    refine ⟨?_, ih (o + 1) (fun i hi => ?_) hl.2⟩
    · have h0 : 32 * s + o % 32 ≠ p := h 0 (Nat.zero_lt_succ _)
      rw [pk_un h0]; exact hl.1
    · have h3 := h (i + 1) (Nat.succ_lt_succ hi)
      rw [show o + 1 + i = o + (i + 1) by omega]; exact h3
theorem gl_app {ln : Nat → Int32} {s w : Nat} : ∀ (l : List Nat) (o : Nat), gl_At ln s o l → ln (32 * s + (o + l.length) % 32) = nI w → gl_At ln s o (l ++ [w]) := by
  intro l
  induction l with
  | nil => intro o _ h; exact ⟨h, trivial⟩
  | cons a l ih =>
    intro o hl h
    refine ⟨hl.1, ih (o + 1) hl.2 ?_⟩
    rw [List.length_cons] at h
    rw [show o + 1 + l.length = o + (l.length + 1) by omega]; exact h
theorem gl_put {ln : Nat → Int32} {s w o : Nat} {l : List Nat} (h : gl_At ln s o l) (hl : l.length < 32) : gl_At (upd ln (32 * s + (o + l.length) % 32) (nI w)) s o (l ++ [w]) :=
  gl_app l o (gl_fr l o (fun i hi => by omega) h) pk_us
theorem gl_oth {ln : Nat → Int32} {s t o x : Nat} {v : Int32} {l : List Nat} (hs : gs_p s t) (h : gl_At ln t o l) : gl_At (upd ln (32 * s + x % 32) v) t o l :=
  gl_fr l o (fun i _ => by unfold gs_p at hs; omega) h
def gs_D (w : Nat) (ob : Nat → Int32) (G C T : Nat → Nat) (ib : Nat → Int32) (R K : Nat → Nat) (ln : Nat → Int32) (O N : Nat → Nat) (L : Nat → List gb_F) (B : Nat → Nat → Nat) (s o : Nat) : Prop :=
  gb_DS (G s) (C s) (T s) (R o) (K o) (L s) (L o) ∧ (N s = (L s).length ∧ (L s).length ≤ w ∧ G s ≤ 4000) ∧ gl_At ln s (O s) ((L s).map (gw_w (B s))) ∧ (∀ j, K o ≤ j → j < G s → ob (32 * s + j % 32) = nI (B s j)) ∧ (∀ j, K o ≤ j → j < R o → ib (32 * o + j % 32) = nI (B s j)) ∧ (∀ j, B s j < 512)
def gs_Ok (w : Nat) (ob : Nat → Int32) (G C T : Nat → Nat) (ib : Nat → Int32) (R K : Nat → Nat) (ln : Nat → Int32) (O N : Nat → Nat) (L : Nat → List gb_F) (B : Nat → Nat → Nat) : Prop :=
  (1 ≤ w ∧ w ≤ 32) ∧ ∀ s o, gs_p s o → gs_D w ob G C T ib R K ln O N L B s o
def gs_mu (G T R : Nat → Nat) (ow ak : Nat → Bool) (L : Nat → List gb_F) : Nat :=
  gb_mu (G 0) (T 0) (R 1) (ow 1) (ak 1) (L 0) (L 1) + gb_mu (G 1) (T 1) (R 0) (ow 0) (ak 0) (L 1) (L 0)
def gs_Zd (G C T R : Nat → Nat) (ow ak : Nat → Bool) (L : Nat → List gb_F) (s o : Nat) : Prop :=
  gb_Z (G s) (C s) (T s) (R o) (ow o) (ak o) (L s) (L o)
def gs_Sat (G T : Nat → Nat) (ow ak : Nat → Bool) (L : Nat → List gb_F) (s : Nat) : Prop :=
  L s = [] → T s = G s ∧ ow s = false ∧ ak s = false
section
variable {w : Nat} {ob : Nat → Int32} {G C T : Nat → Nat} {ib : Nat → Int32} {R K : Nat → Nat} {ln : Nat → Int32} {O N : Nat → Nat} {L : Nat → List gb_F} {B : Nat → Nat → Nat} {s o : Nat} {ow ak : Nat → Bool}
theorem gs_mu_p (p : gs_p s o) : gs_mu G T R ow ak L = gb_mu (G s) (T s) (R o) (ow o) (ak o) (L s) (L o) + gb_mu (G o) (T o) (R s) (ow s) (ak s) (L o) (L s) := by
  rcases p with ⟨rfl, rfl⟩ | ⟨rfl, rfl⟩
  · rfl
  · exact Nat.add_comm _ _
theorem gs_setT {t : Nat} (h : gs_Ok w ob G C T ib R K ln O N L B) (p : gs_p s o) (ht : C s ≤ t ∧ t ≤ G s) : gs_Ok w ob G C (gb_u T s t) ib R K ln O N L B := by
  refine ⟨h.1, fun a b q => ?_⟩
  have hD := h.2 a b q
  unfold gs_D at hD ⊢
  rcases gs_two p q with ⟨rfl, rfl⟩ | ⟨rfl, rfl⟩
  · rw [gb_us]
    exact ⟨⟨by have := hD.1.1; omega, hD.1.2⟩, hD.2⟩
  · rw [gb_un (gs_ne q)]
    exact hD
theorem gs_put {f : gb_F} (h : gs_Ok w ob G C T ib R K ln O N L B) (p : gs_p s o) (hN : N s < w) (hd : f.2.1 = true → K o ≤ f.1.1 ∧ f.1.1 < G s) (he : K s ≤ f.1.2 ∧ f.1.2 ≤ R s) : gs_Ok w ob G C T ib R K (upd ln (32 * s + (O s + N s) % 32) (nI (gw_w (B s) f))) O (gb_u N s (N s + 1)) (gb_u L s (L s ++ [f])) B := by
  refine ⟨h.1, fun a b q => ?_⟩
  have hD := h.2 a b q
  have hw := h.1
  unfold gs_D at hD ⊢
  obtain ⟨d1, d2, d3, d4, d5, d6⟩ := hD
  rcases gs_two p q with ⟨rfl, rfl⟩ | ⟨rfl, rfl⟩
  · simp only [gb_us, gb_un (gs_ne (gs_sw q))]
    refine ⟨gb_ys_DS d1 hd, ⟨?_, ?_, d2.2.2⟩, ?_, d4, d5, d6⟩
    · rw [List.length_append, d2.1]; rfl
    · rw [List.length_append]; show (L a).length + 1 ≤ w; omega
    · rw [List.map_append]
      have e : N a = ((L a).map (gw_w (B a))).length := by rw [List.length_map]; exact d2.1
      rw [e]
      exact gl_put d3 (by rw [← e]; omega)
  · simp only [gb_us, gb_un (gs_ne q)]
    exact ⟨gb_yo_DS d1 he, d2, gl_oth p d3, d4, d5, d6⟩
theorem gs_head {f : gb_F} {t : List gb_F} (h : gs_Ok w ob G C T ib R K ln O N L B) (p : gs_p s o) (hL : L s = f :: t) : ln (32 * s + O s % 32) = nI (gw_w (B s) f) ∧ (f.2.1 = true → K o ≤ f.1.1 ∧ f.1.1 < G s) ∧ (K s ≤ f.1.2 ∧ f.1.2 ≤ R s) ∧ N s = t.length + 1 ∧ t.length + 1 ≤ w := by
  have hD := h.2 s o p
  have hE := h.2 o s (gs_sw p)
  unfold gs_D at hD hE
  rw [hL] at hD hE
  obtain ⟨d1, d2, d3, _⟩ := hD
  exact ⟨d3.1, d1.2.1 f List.mem_cons_self, hE.1.2.2 f List.mem_cons_self, d2.1, d2.2.1⟩
theorem gs_pop {f : gb_F} {t : List gb_F} (h : gs_Ok w ob G C T ib R K ln O N L B) (p : gs_p s o) (hL : L s = f :: t) : gs_Ok w ob G C T ib R K ln (gb_u O s (O s + 1)) (gb_u N s t.length) (gb_u L s t) B := by
  refine ⟨h.1, fun a b q => ?_⟩
  have hD := h.2 a b q
  unfold gs_D at hD ⊢
  rcases gs_two p q with ⟨rfl, rfl⟩ | ⟨rfl, rfl⟩
  · rw [hL] at hD
    obtain ⟨d1, d2, d3, d4, d5, d6⟩ := hD
    simp only [gb_us, gb_un (gs_ne (gs_sw q))]
    exact ⟨gb_xs_DS d1, ⟨trivial, Nat.le_trans (Nat.le_succ _) d2.2.1, d2.2.2⟩, d3.2, d4, d5, d6⟩
  · rw [hL] at hD
    obtain ⟨d1, d2, d3, d4, d5, d6⟩ := hD
    simp only [gb_us, gb_un (gs_ne q)]
    exact ⟨gb_xo_DS d1, d2, d3, d4, d5, d6⟩
theorem gs_rc {f : gb_F} (h : gs_Ok w ob G C T ib R K ln O N L B) (p : gs_p s o) (he : K s ≤ f.1.2 ∧ f.1.2 ≤ R s) : gs_Ok w ob G (gb_u C o (gb_C (C o) f)) (gb_u T o (gb_T (C o) (T o) f)) ib R K ln O N L B := by
  refine ⟨h.1, fun a b q => ?_⟩
  have hD := h.2 a b q
  unfold gs_D at hD ⊢
  rcases gs_two p q with ⟨rfl, rfl⟩ | ⟨rfl, rfl⟩
  · rw [gb_un (gs_ne q), gb_un (gs_ne q)]
    exact hD
  · rw [gb_us, gb_us]
    exact ⟨gb_rc_DS hD.1 he, hD.2⟩
theorem gs_rd {f : gb_F} (h : gs_Ok w ob G C T ib R K ln O N L B) (p : gs_p s o) (hd : f.2.1 = true) (hn : f.1.1 = R o) (hG : R o < G s) : gs_Ok w ob G C T (upd ib (32 * o + R o % 32) (nI (B s f.1.1))) (gb_u R o (R o + 1)) K ln O N L B := by
  refine ⟨h.1, fun a b q => ?_⟩
  have hD := h.2 a b q
  unfold gs_D at hD ⊢
  obtain ⟨d1, d2, d3, d4, d5, d6⟩ := hD
  rcases gs_two p q with ⟨rfl, rfl⟩ | ⟨rfl, rfl⟩
  · rw [gb_us]
    have e : gb_R (R b) f = R b + 1 := by unfold gb_R; exact if_pos ⟨hd, hn⟩
    have k := gb_rd_DS d1 (f := f) (fun _ => by have := d1.1; omega)
    rw [e] at k
    refine ⟨k, d2, d3, d4, ?_, d6⟩
    intro j h1 h2
    rcases Nat.lt_or_ge j (R b) with h3 | h3
    · rw [pk_un (by have := d1.1; omega)]
      exact d5 j h1 h3
    · have h4 : j = R b := by omega
      rw [h4, pk_us, hn]
  · rw [gb_un (gs_ne p)]
    exact ⟨d1, d2, d3, d4, fun j h1 h2 => by rw [pk_un (by unfold gs_p at p; omega)]; exact d5 j h1 h2, d6⟩
theorem gs_K {k : Nat} (h : gs_Ok w ob G C T ib R K ln O N L B) (p : gs_p s o) (hs : L s = []) (ho : L o = []) (hk : K o ≤ k ∧ k ≤ C s) : gs_Ok w ob G C T ib R (gb_u K o k) ln O N L B := by
  refine ⟨h.1, fun a b q => ?_⟩
  have hD := h.2 a b q
  unfold gs_D at hD ⊢
  obtain ⟨d1, d2, d3, d4, d5, d6⟩ := hD
  rcases gs_two p q with ⟨rfl, rfl⟩ | ⟨rfl, rfl⟩
  · rw [gb_us]
    refine ⟨⟨by have := d1.1; omega, ?_, ?_⟩, d2, d3, fun j h1 h2 => d4 j (by omega) h2, fun j h1 h2 => d5 j (by omega) h2, d6⟩
    · rw [hs]; intro g hg; cases hg
    · rw [ho]; intro g hg; cases hg
  · rw [gb_un (gs_ne (gs_sw q))]
    exact ⟨d1, d2, d3, d4, d5, d6⟩
theorem gs_give {c : Nat} (h : gs_Ok w ob G C T ib R K ln O N L B) (p : gs_p s o) (hG : G s < K o + 30) (hM : G s < 4000) (hc : c < 512) : gs_Ok w (upd ob (32 * s + G s % 32) (nI c)) (gb_u G s (G s + 1)) C T ib R K ln O N L (gb_u B s (gb_u (B s) (G s) c)) := by
  refine ⟨h.1, fun a b q => ?_⟩
  have hD := h.2 a b q
  unfold gs_D at hD ⊢
  obtain ⟨d1, d2, d3, d4, d5, d6⟩ := hD
  rcases gs_two p q with ⟨rfl, rfl⟩ | ⟨rfl, rfl⟩
  · simp only [gb_us]
    have hne : ∀ j, j < G a → gb_u (B a) (G a) c j = B a j := fun j hj => gb_un (by omega)
    refine ⟨⟨by have := d1.1; omega, fun g hg hd => ?_, d1.2.2⟩, ⟨d2.1, d2.2.1, by omega⟩, ?_, ?_, ?_, ?_⟩
    · have := d1.2.1 g hg hd; omega
    · have e : (L a).map (gw_w (gb_u (B a) (G a) c)) = (L a).map (gw_w (B a)) := by
        apply List.map_congr_left
        intro g hg
        exact gw_same (fun hd => hne _ (d1.2.1 g hg hd).2)
      rw [e]; exact d3
    · intro j h1 h2
      rcases Nat.lt_or_ge j (G a) with h3 | h3
      · rw [pk_un (by omega), hne j h3]; exact d4 j h1 h3
      · have h4 : j = G a := by omega
        rw [h4, pk_us, gb_us]
    · intro j h1 h2
      rw [hne j (by have := d1.1; omega)]; exact d5 j h1 h2
    · intro j
      by_cases hj : j = G a
      · rw [hj, gb_us]; exact hc
      · rw [gb_un hj]; exact d6 j
  · simp only [gb_un (gs_ne q)]
    exact ⟨d1, d2, d3, fun j h1 h2 => by rw [pk_un (by unfold gs_p at p; omega)]; exact d4 j h1 h2, d5, d6⟩
theorem gs_fresh (hw : 1 ≤ w ∧ w ≤ 32) (h : ∀ j, j < 2 → (G j = 0 ∧ C j = 0 ∧ T j = 0 ∧ R j = 0) ∧ K j = 0 ∧ N j = 0) : gs_Ok w ob G C T ib R K ln O N (fun _ => []) (fun _ _ => 0) := by
  refine ⟨hw, fun a b q => ?_⟩
  have h1 := h a (by unfold gs_p at q; omega)
  have h2 := h b (by unfold gs_p at q; omega)
  refine ⟨⟨by omega, fun g hg => (by cases hg), fun g hg => (by cases hg)⟩, ⟨h1.2.2, Nat.zero_le w, by omega⟩, trivial, fun j _ hj => ?_, fun j _ hj => ?_, fun j => (by decide : 0 < 512)⟩
  · omega
  · omega
theorem gs_sd_mu (p : gs_p s o) (hT : T s < G s) : gs_mu G (gb_u T s (T s + 1)) R (gb_u ow s false) (gb_u ak s false) (gb_u L s (L s ++ [((T s, R s), (true, ak s))])) ≤ gs_mu G T R ow ak L := by
  rw [gs_mu_p p, gs_mu_p p]
  simp only [gb_us, gb_un (gs_ne (gs_sw p))]
  have h1 := gb_sd_mu (R := R o) (ow := ow o) (ak := ak o) (Ls := L s) (Lo := L o) (e := R s) (a := ak s) hT
  have h2 := gb_so_mu (G := G o) (T := T o) (R := R s) (ow := ow s) (ak := ak s) (Ls := L o) (Lo := L s) (n := T s) (e := R s) (d := true)
  omega
theorem gs_sn_mu (p : gs_p s o) (hf : (ow s || ak s) = true) : gs_mu G T R (gb_u ow s false) (gb_u ak s false) (gb_u L s (L s ++ [((0, R s), (false, ak s))])) ≤ gs_mu G T R ow ak L := by
  rw [gs_mu_p p, gs_mu_p p]
  simp only [gb_us, gb_un (gs_ne (gs_sw p))]
  have h1 := gb_sn_mu (G := G s) (T := T s) (R := R o) (ow := ow o) (ak := ak o) (Ls := L s) (Lo := L o) (n := 0) (e := R s) (a := ak s)
  have h2 := gb_so_mu (G := G o) (T := T o) (R := R s) (ow := ow s) (ak := ak s) (Ls := L o) (Lo := L s) (n := 0) (e := R s) (d := false)
  have h3 : gb_b (ow s || ak s) = 1 := by rw [hf]; rfl
  omega
theorem gs_sd_Z (h : gs_Ok w ob G C T ib R K ln O N L B) (p : gs_p s o) {a b : Nat} (q : gs_p a b) (z : gs_Zd G C T R ow ak L a b) : gs_Zd G C (gb_u T s (T s + 1)) R (gb_u ow s false) (gb_u ak s false) (gb_u L s (L s ++ [((T s, R s), (true, ak s))])) a b := by
  have hD := (h.2 a b q).1
  unfold gs_Zd at z ⊢
  rcases gs_two p q with ⟨rfl, rfl⟩ | ⟨rfl, rfl⟩
  · simp only [gb_us, gb_un (gs_ne (gs_sw q))]
    exact gb_sd_Z z
  · simp only [gb_us, gb_un (gs_ne q)]
    exact gb_so_Z hD z
theorem gs_sn_Z (h : gs_Ok w ob G C T ib R K ln O N L B) (p : gs_p s o) {a b : Nat} (q : gs_p a b) (z : gs_Zd G C T R ow ak L a b) : gs_Zd G C T R (gb_u ow s false) (gb_u ak s false) (gb_u L s (L s ++ [((0, R s), (false, ak s))])) a b := by
  have hD := (h.2 a b q).1
  unfold gs_Zd at z ⊢
  rcases gs_two p q with ⟨rfl, rfl⟩ | ⟨rfl, rfl⟩
  · simp only [gb_us, gb_un (gs_ne (gs_sw q))]
    exact gb_sn_Z z
  · simp only [gb_us, gb_un (gs_ne q)]
    exact gb_so_Z hD z
/-- the oldest frame of s arrives -/
theorem gs_ar_mu {f : gb_F} {t : List gb_F} (h : gs_Ok w ob G C T ib R K ln O N L B) (p : gs_p s o) (hL : L s = f :: t) : gs_mu G (gb_u T o (gb_T (C o) (T o) f)) (gb_u R o (gb_R (R o) f)) (gb_u ow o (ow o || f.2.1)) (gb_u ak o (gb_ak (R o) (ak o) f)) (gb_u L s t) + 1 ≤ gs_mu G T R ow ak L := by
  have hE := (h.2 o s (gs_sw p)).1
  rw [gs_mu_p p, gs_mu_p p]
  simp only [gb_us, gb_un (gs_ne p), gb_un (gs_ne (gs_sw p))]
  rw [hL] at hE ⊢
  have h1 := gb_pd_mu (G := G s) (T := T s) (R := R o) (ow := ow o) (ak := ak o) (f := f) (t := t) (Lo := L o)
  have h2 := gb_pc_mu (ow := ow s) (ak := ak s) hE
  omega
theorem gs_ar_Z {f : gb_F} {t : List gb_F} (h : gs_Ok w ob G C T ib R K ln O N L B) (p : gs_p s o) (hL : L s = f :: t) {a b : Nat} (q : gs_p a b) (z : gs_Zd G C T R ow ak L a b) : gs_Zd G (gb_u C o (gb_C (C o) f)) (gb_u T o (gb_T (C o) (T o) f)) (gb_u R o (gb_R (R o) f)) (gb_u ow o (ow o || f.2.1)) (gb_u ak o (gb_ak (R o) (ak o) f)) (gb_u L s t) a b := by
  have hD := (h.2 a b q).1
  unfold gs_Zd at z ⊢
  rcases gs_two p q with ⟨rfl, rfl⟩ | ⟨rfl, rfl⟩
  · simp only [gb_us, gb_un (gs_ne q), gb_un (gs_ne (gs_sw q))]
    rw [hL] at hD z
    exact gb_pd_Z hD z
  · simp only [gb_us, gb_un (gs_ne q), gb_un (gs_ne (gs_sw q))]
    rw [hL] at hD z
    exact gb_pc_Z hD z
theorem gs_bk_Z (h : gs_Ok w ob G C T ib R K ln O N L B) (p : gs_p s o) : gs_Zd G C (gb_u T s (C s)) R ow ak L s o := by
  unfold gs_Zd
  rw [gb_us]
  exact gb_bk_Z (h.2 s o p).1
theorem gs_bk_Zo (p : gs_p s o) {t : Nat} (z : gs_Zd G C T R ow ak L o s) : gs_Zd G C (gb_u T s t) R ow ak L o s := by
  unfold gs_Zd at z ⊢
  rw [gb_un (gs_ne (gs_sw p))]
  exact z
theorem gs_mu_le (h : gs_Ok w ob G C T ib R K ln O N L B) : gs_mu G T R ow ak L ≤ 11650 := by
  have p : gs_p 0 1 := Or.inl ⟨rfl, rfl⟩
  have h0 := h.2 0 1 p
  have h1 := h.2 1 0 (gs_sw p)
  have hw := h.1
  have l0 := h0.2.1
  have l1 := h1.2.1
  have m0 := gb_mu_le (ow := ow 1) (ak := ak 1) h0.1 (by omega) (by omega)
  have m1 := gb_mu_le (ow := ow 0) (ak := ak 0) h1.1 (by omega) (by omega)
  unfold gs_mu
  omega
/-- dry lines, nothing left to send, nothing lost: all is confirmed -/
theorem gs_fin (h : gs_Ok w ob G C T ib R K ln O N L B) (p : gs_p s o) (hs : L s = []) (ho : L o = []) (ss : gs_Sat G T ow ak L s) (so : gs_Sat G T ow ak L o) (z : gs_Zd G C T R ow ak L s o) : C s = G s ∧ R o = G s := by
  have hD := (h.2 s o p).1
  have e1 := ss hs
  have e2 := so ho
  unfold gs_Zd at z
  rw [hs, ho, e1.1] at hD z
  rw [e2.2.1, e2.2.2] at z
  exact gb_fin hD z
end
