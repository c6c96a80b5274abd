/- the line finishes: it runs dry at most once with bytes left, and the measure falls at every turn -/
def gm_K (post : SX → Prop) (n t : Nat) : SX → Prop := fun u => match u with
  | (a1, a2, a3, a4, a5, a6, a7, a8, a9, a10, a11, a12, a13) => wX_letLineFinish_2 post n (nI t) a1 a2 a3 a4 a5 a6 a7 a8 a9 a10 a11 a12 a13
theorem gm_p0 : gs_p 0 1 := Or.inl ⟨rfl, rfl⟩
theorem gm_p1 : gs_p 1 0 := Or.inr ⟨rfl, rfl⟩
section
variable {w : Nat} {ob : Nat → Int32} {G C T : Nat → Nat} {ib : Nat → Int32} {R K : Nat → Nat} {ow ak : Nat → Bool} {ln : Nat → Int32} {O N : Nat → Nat} {L : Nat → List gb_F} {B : Nat → Nat → Nat} {s o : Nat} {post : SX → Prop}
theorem gm_all {post : Int32 → Prop} (h : gs_Ok w ob G C T ib R K ln O N L B) (h1 : C 0 = G 0 → C 1 = G 1 → post 1) (h0 : ¬ (C 0 = G 0 ∧ C 1 = G 1) → post 0) : wpX_isAllConfirmed post (gs_U w ob G C T ib R K ow ak ln O N) := by
  have b0 := (h.2 0 1 gm_p0).1.1
  have b1 := (h.2 1 0 gm_p1).1.1
  have c0 := (h.2 0 1 gm_p0).2.1.2.2
  have c1 := (h.2 1 0 gm_p1).2.1.2.2
  by_cases e0 : C 0 = G 0
  · refine br_t (congrArg nI e0) ?_
    by_cases e1 : C 1 = G 1
    · exact br_t (congrArg nI e1) (h1 e0 e1)
    · exact br_f (fun z => e1 ((nI_eq (by omega) (by omega)).mp z)) (h0 (fun z => e1 z.2))
  · exact br_f (fun z => e0 ((nI_eq (by omega) (by omega)).mp z)) (h0 (fun z => e0 z.1))
theorem gm_46w {n t : Nat} (h : gs_Ok w ob G C T ib R K ln O N L B) (hs : ∀ j, j < 2 → gs_Sat G T ow ak L j) (hP : gs_Post w ob G K B (gs_mu G T R ow ak L) (gs_zz G C T R ow ak L) (fun j => j < 2) (gm_K post n (t + 1))) : wX_letLineFinish_46 post (wX_letLineFinish_2 post n) (nI t) (nI w) ob (fun j => nI (G j)) (fun j => nI (C j)) (fun j => nI (T j)) ib (fun j => nI (R j)) (fun j => nI (K j)) (fun j => gs_bi (ow j)) (fun j => gs_bi (ak j)) ln (fun j => nI (O j)) (fun j => nI (N j)) := by
  unfold wX_letLineFinish_46
  refine gm_mv0 (s := 0) gm_p0 h hs ?_
  intro C1 T1 ib1 R1 ow1 ak1 ln1 O1 N1 L1 h1 m1 z1 s1
  refine gm_mv0 (s := 1) gm_p1 h1 s1 ?_
  intro C2 T2 ib2 R2 ow2 ak2 ln2 O2 N2 L2 h2 m2 z2 s2
  refine nm_r (nI_1 t) ?_
  exact hP C2 T2 ib2 R2 ow2 ak2 ln2 O2 N2 L2 h2 (Nat.le_trans m2 m1) (fun a b q z => z2 a b q (fun b' q' => z1 a b' q' z)) s2
theorem gm_46 {n t m : Nat} (h : gs_Ok w ob G C T ib R K ln O N L B) (hs : ∀ j, j < 2 → gs_Sat G T ow ak L j) (hL : ¬ (L 0 = [] ∧ L 1 = [])) (hm : (gs_mu G T R ow ak L) ≤ m + 1) (hP : gs_Post w ob G K B m (gs_zz G C T R ow ak L) (fun j => j < 2) (gm_K post n (t + 1))) : wX_letLineFinish_46 post (wX_letLineFinish_2 post n) (nI t) (nI w) ob (fun j => nI (G j)) (fun j => nI (C j)) (fun j => nI (T j)) ib (fun j => nI (R j)) (fun j => nI (K j)) (fun j => gs_bi (ow j)) (fun j => gs_bi (ak j)) ln (fun j => nI (O j)) (fun j => nI (N j)) := by
  unfold wX_letLineFinish_46
  cases h0 : L 0 with
  | cons f l =>
    refine gm_mvN (s := 0) gm_p0 h h0 hm ?_
    intro C1 T1 ib1 R1 ow1 ak1 ln1 O1 N1 L1 h1 m1 z1 s1
    refine gm_mv0 (s := 1) gm_p1 h1 s1 ?_
    intro C2 T2 ib2 R2 ow2 ak2 ln2 O2 N2 L2 h2 m2 z2 s2
    refine nm_r (nI_1 t) ?_
    exact hP C2 T2 ib2 R2 ow2 ak2 ln2 O2 N2 L2 h2 (Nat.le_trans m2 m1) (fun a b q z => z2 a b q (fun b' q' => z1 a b' q' z)) s2
  | nil =>
    refine gm_mvE (s := 0) gm_p0 h h0 ?_
    cases h1 : L 1 with
    | nil => exact absurd ⟨h0, h1⟩ hL
    | cons f l =>
      refine gm_mvN (s := 1) gm_p1 h h1 hm ?_
      intro C2 T2 ib2 R2 ow2 ak2 ln2 O2 N2 L2 h2 m2 z2 s2
      refine nm_r (nI_1 t) ?_
      exact hP C2 T2 ib2 R2 ow2 ak2 ln2 O2 N2 L2 h2 m2 z2 s2
/-- the head of a turn: dry, or at work -/
theorem gm_head {n t : Nat} (h : gs_Ok w ob G C T ib R K ln O N L B) (ht : t < 1000000) (hd : L 0 = [] → L 1 = [] → wpX_isAllConfirmed (fun r => (r = 0 → wpX_sendAgain (fun u => match u with | (a1, a2, a3, a4, a5, a6, a7, a8, a9, a10, a11, a12, a13) => wpX_sendAgain (fun u => match u with | (a1, a2, a3, a4, a5, a6, a7, a8, a9, a10, a11, a12, a13) => wX_letLineFinish_46 post (wX_letLineFinish_2 post n) (nI t) a1 a2 a3 a4 a5 a6 a7 a8 a9 a10 a11 a12 a13) (a1, a2, a3, a4, a5, a6, a7, a8, a9, a10, a11, a12, a13) 1) (gs_U w ob G C T ib R K ow ak ln O N) 0) ∧ (¬ r = 0 → post (gs_U w ob G C T ib R K ow ak ln O N))) (gs_U w ob G C T ib R K ow ak ln O N)) (hw : ¬ (L 0 = [] ∧ L 1 = []) → wX_letLineFinish_46 post (wX_letLineFinish_2 post n) (nI t) (nI w) ob (fun j => nI (G j)) (fun j => nI (C j)) (fun j => nI (T j)) ib (fun j => nI (R j)) (fun j => nI (K j)) (fun j => gs_bi (ow j)) (fun j => gs_bi (ak j)) ln (fun j => nI (O j)) (fun j => nI (N j))) : wX_letLineFinish_2 post (n + 1) (nI t) (nI w) ob (fun j => nI (G j)) (fun j => nI (C j)) (fun j => nI (T j)) ib (fun j => nI (R j)) (fun j => nI (K j)) (fun j => gs_bi (ow j)) (fun j => gs_bi (ak j)) ln (fun j => nI (O j)) (fun j => nI (N j)) := by
  have n0 := (h.2 0 1 gm_p0).2.1
  have n1 := (h.2 1 0 gm_p1).2.1
  have hw32 := h.1
  refine br_f (nI_ge (b := 1000000) ht (by decide)) ?_
  cases h0 : L 0 with
  | cons f l =>
    refine br_f ?_ (hw (fun z => by rw [h0] at z; cases z.1))
    rw [h0, List.length_cons] at n0
    exact nI_ne0 (by omega) (by omega)
  | nil =>
    rw [h0] at n0
    refine br_t (congrArg nI n0.1) ?_
    cases h1 : L 1 with
    | cons f l =>
      refine br_f ?_ (hw (fun z => by rw [h1] at z; cases z.2))
      rw [h1, List.length_cons] at n1
      exact nI_ne0 (by omega) (by omega)
    | nil =>
      rw [h1] at n1
      exact br_t (congrArg nI n1.1) (hd h0 h1)
end
section
variable {w : Nat} {ob : Nat → Int32} {G K : Nat → Nat} {B : Nat → Nat → Nat} {post : SX → Prop}
theorem gm_mupos {T R : Nat → Nat} {ow ak : Nat → Bool} {L : Nat → List gb_F} (hL : ¬ (L 0 = [] ∧ L 1 = [])) : 0 < (gs_mu G T R ow ak L) := by
  have h : 0 < (L 0).length + (L 1).length := by
    cases h0 : L 0 with
    | cons f l => rw [List.length_cons]; omega
    | nil =>
      cases h1 : L 1 with
      | cons f l => rw [List.length_cons]; omega
      | nil => exact absurd ⟨h0, h1⟩ hL
  unfold gs_mu gb_mu
  omega
/-- nothing is lost any more -/
theorem gm_fA (hF : gs_Fin w ob G K B post) : ∀ (n t : Nat) (C T : Nat → Nat) (ib : Nat → Int32) (R : Nat → Nat) (ow ak : Nat → Bool) (ln : Nat → Int32) (O N : Nat → Nat) (L : Nat → List gb_F), gs_Ok w ob G C T ib R K ln O N L B → (∀ j, j < 2 → gs_Sat G T ow ak L j) → (∀ a b, gs_p a b → gs_Zd G C T R ow ak L a b) → (gs_mu G T R ow ak L) < n → (gs_mu G T R ow ak L) + t < 1000000 → wX_letLineFinish_2 post n (nI t) (nI w) ob (fun j => nI (G j)) (fun j => nI (C j)) (fun j => nI (T j)) ib (fun j => nI (R j)) (fun j => nI (K j)) (fun j => gs_bi (ow j)) (fun j => gs_bi (ak j)) ln (fun j => nI (O j)) (fun j => nI (N j)) := by
  intro n
  induction n with
  | zero => intro t C T ib R ow ak ln O N L h hs hz hn _; exact absurd hn (Nat.not_lt_zero _)
  | succ n ih =>
    intro t C T ib R ow ak ln O N L h hs hz hn ht
    refine gm_head h (by omega) (fun h0 h1 => ?_) (fun hL => ?_)
    · have f0 := gs_fin h gm_p0 h0 h1 (hs 0 (by decide)) (hs 1 (by decide)) (hz 0 1 gm_p0)
      have f1 := gs_fin h gm_p1 h1 h0 (hs 1 (by decide)) (hs 0 (by decide)) (hz 1 0 gm_p1)
      refine gm_all h (fun _ _ => br_f (by decide) ?_) (fun z => absurd ⟨f0.1, f1.1⟩ z)
      refine hF C T ib R ow ak ln O N L h (fun j hj => ⟨hs j hj, ?_⟩) (fun a b q => ?_)
      · rcases Nat.lt_or_ge j 1 with e | e
        · rw [show j = 0 by omega]; exact h0
        · rw [show j = 1 by omega]; exact h1
      · rcases q with ⟨rfl, rfl⟩ | ⟨rfl, rfl⟩
        · exact f0
        · exact f1
    · have hm := gm_mupos (G := G) (T := T) (R := R) (ow := ow) (ak := ak) hL
      refine gm_46 (m := (gs_mu G T R ow ak L) - 1) h hs hL (by omega) ?_
      intro C1 T1 ib1 R1 ow1 ak1 ln1 O1 N1 L1 h1 m1 z1 s1
      exact ih (t + 1) C1 T1 ib1 R1 ow1 ak1 ln1 O1 N1 L1 h1 s1 (fun a b q => z1 a b q (fun b' q' => hz a b' q')) (by omega) (by omega)
theorem gm_done (hF : gs_Fin w ob G K B post) {C T : Nat → Nat} {ib : Nat → Int32} {R : Nat → Nat} {ow ak : Nat → Bool} {ln : Nat → Int32} {O N : Nat → Nat} {L : Nat → List gb_F} (h : gs_Ok w ob G C T ib R K ln O N L B) (hs : ∀ j, j < 2 → gs_Sat G T ow ak L j) (h0 : L 0 = []) (h1 : L 1 = []) (e0 : C 0 = G 0) (e1 : C 1 = G 1) : post (gs_U w ob G C T ib R K ow ak ln O N) := by
  have b0 := (h.2 0 1 gm_p0).1.1
  have b1 := (h.2 1 0 gm_p1).1.1
  refine hF C T ib R ow ak ln O N L h (fun j hj => ⟨hs j hj, ?_⟩) (fun a b q => ?_)
  · rcases Nat.lt_or_ge j 1 with e | e
    · rw [show j = 0 by omega]; exact h0
    · rw [show j = 1 by omega]; exact h1
  · rcases q with ⟨rfl, rfl⟩ | ⟨rfl, rfl⟩
    · exact ⟨e0, by omega⟩
    · exact ⟨e1, by omega⟩
/-- from any state -/
theorem gm_fB (hF : gs_Fin w ob G K B post) : ∀ (n t : Nat) (C T : Nat → Nat) (ib : Nat → Int32) (R : Nat → Nat) (ow ak : Nat → Bool) (ln : Nat → Int32) (O N : Nat → Nat) (L : Nat → List gb_F), gs_Ok w ob G C T ib R K ln O N L B → (∀ j, j < 2 → gs_Sat G T ow ak L j) → (gs_mu G T R ow ak L) + 11651 < n → (gs_mu G T R ow ak L) + t + 11651 < 1000000 → wX_letLineFinish_2 post n (nI t) (nI w) ob (fun j => nI (G j)) (fun j => nI (C j)) (fun j => nI (T j)) ib (fun j => nI (R j)) (fun j => nI (K j)) (fun j => gs_bi (ow j)) (fun j => gs_bi (ak j)) ln (fun j => nI (O j)) (fun j => nI (N j)) := by
  intro n
  induction n with
  | zero => intro t C T ib R ow ak ln O N L h hs hn _; exact absurd hn (Nat.not_lt_zero _)
  | succ n ih =>
    intro t C T ib R ow ak ln O N L h hs hn ht
    refine gm_head h (by omega) (fun h0 h1 => ?_) (fun hL => ?_)
    · refine gm_all h (fun e0 e1 => br_f (by decide) (gm_done hF h hs h0 h1 e0 e1)) (fun _ => br_t rfl ?_)
      refine gm_again (s := 0) gm_p0 h ?_
      intro C1 T1 ib1 R1 ow1 ak1 ln1 O1 N1 L1 h1 m1 z1 s1
      refine gm_again (s := 1) gm_p1 h1 ?_
      intro C2 T2 ib2 R2 ow2 ak2 ln2 O2 N2 L2 h2 m2 z2 s2
      refine gm_46w h2 (fun j hj => s2 j ?_) ?_
      · by_cases e : j = 1
        · exact Or.inl e
        · exact Or.inr (s1 j (Or.inl (by omega)))
      · intro C3 T3 ib3 R3 ow3 ak3 ln3 O3 N3 L3 h3 m3 z3 s3
        refine gm_fA hF n (t + 1) C3 T3 ib3 R3 ow3 ak3 ln3 O3 N3 L3 h3 s3 (fun a b q => z3 a b q (fun b' q' => z2 a b' q' ?_)) (by omega) (by omega)
        by_cases e : a = 1
        · exact Or.inl e
        · exact Or.inr (fun b2 q2 => z1 a b2 q2 (Or.inl (by unfold gs_p at q; omega)))
    · have hm := gm_mupos (G := G) (T := T) (R := R) (ow := ow) (ak := ak) hL
      refine gm_46 (m := (gs_mu G T R ow ak L) - 1) h hs hL (by omega) ?_
      intro C1 T1 ib1 R1 ow1 ak1 ln1 O1 N1 L1 h1 m1 z1 s1
      exact ih (t + 1) C1 T1 ib1 R1 ow1 ak1 ln1 O1 N1 L1 h1 s1 (by omega) (by omega)
theorem gm_finish {C T : Nat → Nat} {ib : Nat → Int32} {R : Nat → Nat} {ow ak : Nat → Bool} {ln : Nat → Int32} {O N : Nat → Nat} {L : Nat → List gb_F} (h : gs_Ok w ob G C T ib R K ln O N L B) (hs : ∀ j, j < 2 → gs_Sat G T ow ak L j) (hF : gs_Fin w ob G K B post) : wpX_letLineFinish post (gs_U w ob G C T ib R K ow ak ln O N) := by
  have hm := gs_mu_le (ow := ow) (ak := ak) h
  exact ⟨23302, gm_fB hF 23302 0 C T ib R ow ak ln O N L h hs (by omega) (by omega)⟩
end
