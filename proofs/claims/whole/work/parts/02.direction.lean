/- one direction: s is given bytes (G given, C confirmed, T next to send), o receives them (R received, K taken; ow, ak its flags);
   Ls the frames from s (data), Lo those from o (replies) -/
def gb_DS (G C T R K : Nat) (Ls Lo : List gb_F) : Prop :=
  (K ≤ C ∧ C ≤ R ∧ R ≤ G ∧ G ≤ K + 30 ∧ C ≤ T ∧ T ≤ G) ∧ (∀ f, f ∈ Ls → f.2.1 = true → K ≤ f.1.1 ∧ f.1.1 < G) ∧ (∀ f, f ∈ Lo → K ≤ f.1.2 ∧ f.1.2 ≤ R)
def gb_b (b : Bool) : Nat := if b = true then 1 else 0
def gb_Q (G T R : Nat) (ak : Bool) (Ls Lo : List gb_F) : Nat :=
  gb_asks Lo + gb_b ak + gb_bad Ls R + (if gb_adv Ls R < T then G - T else 0)
def gb_mu (G T R : Nat) (ow ak : Bool) (Ls Lo : List gb_F) : Nat :=
  60 * gb_Q G T R ak Ls Lo + 2 * (G - T) + gb_dats Ls + gb_b (ow || ak) + Ls.length
def gb_Z (G C T R : Nat) (ow ak : Bool) (Ls Lo : List gb_F) : Prop :=
  T ≤ gb_adv Ls R ∧ (gb_conf Lo C = R ∨ (ow || ak) = true ∨ 0 < gb_dats Ls ∨ T < G)
theorem gb_b_le (b : Bool) : gb_b b ≤ 1 := by cases b <;> decide
/-- s puts a frame with data on its line -/
theorem gb_sd_DS {G C T R K : Nat} {Ls Lo : List gb_F} {e : Nat} {a : Bool} (h : gb_DS G C T R K Ls Lo) (hT : T < G) : gb_DS G C (T + 1) R K (Ls ++ [((T, e), (true, a))]) Lo := by
  obtain ⟨h1, h2, h3⟩ := h
  refine ⟨by omega, ?_, h3⟩
  intro f hf hd
  rcases List.mem_append.mp hf with hf | hf
  · exact h2 f hf hd
  · rw [List.mem_singleton.mp hf]; exact ⟨by show K ≤ T; omega, hT⟩
theorem gb_sd_mu {G T R : Nat} {ow ak : Bool} {Ls Lo : List gb_F} {e : Nat} {a : Bool} (hT : T < G) : gb_mu G (T + 1) R ow ak (Ls ++ [((T, e), (true, a))]) Lo ≤ gb_mu G T R ow ak Ls Lo := by
  unfold gb_mu gb_Q
  rw [gb_bad_app, gb_adv_app, gb_dats_app, List.length_append]
  simp only [true_and, if_true, List.length_cons, List.length_nil]
  generalize gb_adv Ls R = m
  by_cases h1 : T = m
  · subst h1
    rw [if_pos rfl, if_neg (Nat.lt_irrefl T), if_neg (Nat.lt_irrefl (T + 1)), if_neg (Nat.lt_irrefl T)]
    omega
  · rw [if_neg h1]
    by_cases h2 : m < T
    · rw [if_pos h2, if_pos (by omega), if_pos h2]; omega
    · rw [if_neg h2, if_neg (by omega), if_neg h2]; omega
theorem gb_sd_Z {G C T R : Nat} {ow ak : Bool} {Ls Lo : List gb_F} {e : Nat} {a : Bool} (h : gb_Z G C T R ow ak Ls Lo) : gb_Z G C (T + 1) R ow ak (Ls ++ [((T, e), (true, a))]) Lo := by
  obtain ⟨h1, _⟩ := h
  refine ⟨?_, Or.inr (Or.inr (Or.inl ?_))⟩
  · rw [gb_adv_app]
    simp only [true_and]
    by_cases h2 : T = gb_adv Ls R
    · rw [if_pos h2]; omega
    · rw [if_neg h2]; omega
  · rw [gb_dats_app]; simp only [if_true]; omega
/-- s puts a frame without data on its line -/
theorem gb_sn_DS {G C T R K : Nat} {Ls Lo : List gb_F} {n e : Nat} {a : Bool} (h : gb_DS G C T R K Ls Lo) : gb_DS G C T R K (Ls ++ [((n, e), (false, a))]) Lo := by
  obtain ⟨h1, h2, h3⟩ := h
  refine ⟨h1, ?_, h3⟩
  intro f hf hd
  rcases List.mem_append.mp hf with hf | hf
  · exact h2 f hf hd
  · rw [List.mem_singleton.mp hf] at hd; cases hd
theorem gb_sn_mu {G T R : Nat} {ow ak : Bool} {Ls Lo : List gb_F} {n e : Nat} {a : Bool} : gb_mu G T R ow ak (Ls ++ [((n, e), (false, a))]) Lo = gb_mu G T R ow ak Ls Lo + 1 := by
  unfold gb_mu gb_Q
  rw [gb_bad_app, gb_adv_app, gb_dats_app, List.length_append]
  simp only [Bool.false_eq_true, false_and, if_false, List.length_cons, List.length_nil, Nat.add_zero]
  omega
theorem gb_sn_Z {G C T R : Nat} {ow ak : Bool} {Ls Lo : List gb_F} {n e : Nat} {a : Bool} (h : gb_Z G C T R ow ak Ls Lo) : gb_Z G C T R ow ak (Ls ++ [((n, e), (false, a))]) Lo := by
  obtain ⟨h1, h2⟩ := h
  unfold gb_Z
  rw [gb_adv_app, gb_dats_app]
  simp only [Bool.false_eq_true, false_and, if_false, Nat.add_zero]
  exact ⟨h1, h2⟩
/-- o puts a frame on its line -/
theorem gb_so_DS {G C T R K : Nat} {Ls Lo : List gb_F} {n : Nat} {d a : Bool} (h : gb_DS G C T R K Ls Lo) : gb_DS G C T R K Ls (Lo ++ [((n, R), (d, a))]) := by
  obtain ⟨h1, h2, h3⟩ := h
  refine ⟨h1, h2, ?_⟩
  intro f hf
  rcases List.mem_append.mp hf with hf | hf
  · exact h3 f hf
  · rw [List.mem_singleton.mp hf]; exact ⟨by show K ≤ R; omega, Nat.le_refl R⟩
theorem gb_so_mu {G T R : Nat} {ow ak : Bool} {Ls Lo : List gb_F} {n e : Nat} {d : Bool} : gb_mu G T R false false Ls (Lo ++ [((n, e), (d, ak))]) + gb_b (ow || ak) = gb_mu G T R ow ak Ls Lo := by
  unfold gb_mu gb_Q
  rw [gb_asks_app]
  have h : (if ak = true then 1 else 0) = gb_b ak := rfl
  have h0 : gb_b false = 0 := rfl
  have h1 : gb_b (false || false) = 0 := rfl
  simp only [h, h0, h1]
  omega
theorem gb_so_Z {G C T R K : Nat} {ow ak : Bool} {Ls Lo : List gb_F} {n : Nat} {d a : Bool} (hs : gb_DS G C T R K Ls Lo) (h : gb_Z G C T R ow ak Ls Lo) : gb_Z G C T R false false Ls (Lo ++ [((n, R), (d, a))]) := by
  refine ⟨h.1, Or.inl ?_⟩
  rw [gb_conf_app]
  have hc : gb_conf Lo C ≤ R := gb_conf_le R Lo C hs.1.2.1 (fun f hf => (hs.2.2 f hf).2)
  exact if_pos hc
/-- the oldest frame of s arrives at o -/
def gb_R (R : Nat) (f : gb_F) : Nat := if f.2.1 = true ∧ f.1.1 = R then R + 1 else R
def gb_ak (R : Nat) (ak : Bool) (f : gb_F) : Bool := ak || (f.2.1 && decide (R < f.1.1))
theorem gb_pd_DS {G C T R K : Nat} {f : gb_F} {t Lo : List gb_F} (h : gb_DS G C T R K (f :: t) Lo) : gb_DS G C T (gb_R R f) K t Lo := by
  obtain ⟨h1, h2, h3⟩ := h
  have hf := h2 f List.mem_cons_self
  have hR : R ≤ gb_R R f ∧ gb_R R f ≤ G := by
    unfold gb_R
    by_cases hc : f.2.1 = true ∧ f.1.1 = R
    · rw [if_pos hc]; have := hf hc.1; omega
    · rw [if_neg hc]; omega
  exact ⟨by omega, fun g hg => h2 g (List.mem_cons_of_mem f hg), fun g hg => ⟨(h3 g hg).1, Nat.le_trans (h3 g hg).2 hR.1⟩⟩
theorem gb_pd_mu {G T R : Nat} {ow ak : Bool} {f : gb_F} {t Lo : List gb_F} : gb_mu G T (gb_R R f) (ow || f.2.1) (gb_ak R ak f) t Lo + 1 ≤ gb_mu G T R ow ak (f :: t) Lo := by
  have ea : gb_adv (f :: t) R = gb_adv t (gb_R R f) := rfl
  have eb : gb_bad (f :: t) R = (if f.2.1 = true ∧ R < f.1.1 then 1 else 0) + gb_bad t (gb_R R f) := rfl
  have ed : gb_dats (f :: t) = (if f.2.1 = true then 1 else 0) + gb_dats t := rfl
  unfold gb_mu gb_Q
  rw [ea, eb, ed, List.length_cons]
  generalize (if gb_adv t (gb_R R f) < T then G - T else 0) = q
  generalize gb_bad t (gb_R R f) = b
  unfold gb_ak
  generalize hd : f.2.1 = d
  by_cases hn : R < f.1.1
  · cases d <;> cases ow <;> cases ak <;> simp [gb_b, hn] <;> omega
  · cases d <;> cases ow <;> cases ak <;> simp [gb_b, hn] <;> omega
theorem gb_pd_Z {G C T R K : Nat} {ow ak : Bool} {f : gb_F} {t Lo : List gb_F} (_ : gb_DS G C T R K (f :: t) Lo) (h : gb_Z G C T R ow ak (f :: t) Lo) : gb_Z G C T (gb_R R f) (ow || f.2.1) (gb_ak R ak f) t Lo := by
  obtain ⟨h1, h2⟩ := h
  refine ⟨h1, ?_⟩
  unfold gb_ak
  cases hd : f.2.1 with
  | true => right; left; simp
  | false =>
    have eR : gb_R R f = R := by unfold gb_R; rw [hd]; simp
    rw [eR]
    simp only [gb_dats, hd, Bool.false_eq_true, if_false, Nat.zero_add] at h2
    simpa using h2
/-- the oldest frame of o arrives at s -/
def gb_C (C : Nat) (f : gb_F) : Nat := if C ≤ f.1.2 then f.1.2 else C
def gb_T (C T : Nat) (f : gb_F) : Nat := if T < gb_C C f ∨ f.2.2 = true then gb_C C f else T
theorem gb_pc_DS {G C T R K : Nat} {f : gb_F} {Ls t : List gb_F} (h : gb_DS G C T R K Ls (f :: t)) : gb_DS G (gb_C C f) (gb_T C T f) R K Ls t := by
  obtain ⟨h1, h2, h3⟩ := h
  have hf := h3 f List.mem_cons_self
  have hC : C ≤ gb_C C f ∧ gb_C C f ≤ R := by
    unfold gb_C; split <;> omega
  have hT : gb_C C f ≤ gb_T C T f ∧ gb_T C T f ≤ G := by
    unfold gb_T
    by_cases hc : T < gb_C C f ∨ f.2.2 = true
    · rw [if_pos hc]; omega
    · rw [if_neg hc]
      have : ¬ T < gb_C C f := fun z => hc (Or.inl z)
      omega
  exact ⟨by omega, h2, fun g hg => h3 g (List.mem_cons_of_mem f hg)⟩
theorem gb_pc_mu {G C T R K : Nat} {ow ak : Bool} {f : gb_F} {Ls t : List gb_F} (h : gb_DS G C T R K Ls (f :: t)) : gb_mu G (gb_T C T f) R ow ak Ls t ≤ gb_mu G T R ow ak Ls (f :: t) := by
  obtain ⟨h1, h2, h3⟩ := h
  have hf := h3 f List.mem_cons_self
  have hC : C ≤ gb_C C f ∧ gb_C C f ≤ R := by
    unfold gb_C; split <;> omega
  have hm := gb_adv_ge Ls R
  have ea : gb_asks (f :: t) = (if f.2.2 = true then 1 else 0) + gb_asks t := rfl
  unfold gb_mu gb_Q
  rw [ea]
  generalize gb_adv Ls R = m at hm ⊢
  generalize gb_bad Ls R = b
  generalize gb_b ak = k1
  generalize gb_b (ow || ak) = k2
  unfold gb_T
  generalize gb_C C f = C' at hC ⊢
  by_cases ha : f.2.2 = true
  · rw [if_pos (Or.inr ha), if_pos ha, if_neg (by omega)]
    generalize (if m < T then G - T else 0) = q
    omega
  · rw [if_neg ha]
    by_cases hb : T < C'
    · rw [if_pos (Or.inl hb), if_neg (by omega)]
      generalize (if m < T then G - T else 0) = q
      omega
    · have hc : ¬ (T < C' ∨ f.2.2 = true) := fun z => z.elim hb ha
      rw [if_neg hc]
      generalize (if m < T then G - T else 0) = q
      omega
theorem gb_pc_Z {G C T R K : Nat} {ow ak : Bool} {f : gb_F} {Ls t : List gb_F} (hs : gb_DS G C T R K Ls (f :: t)) (h : gb_Z G C T R ow ak Ls (f :: t)) : gb_Z G (gb_C C f) (gb_T C T f) R ow ak Ls t := by
  have hs' := gb_pc_DS hs
  obtain ⟨h1, h2⟩ := h
  have hm := gb_adv_ge Ls R
  have hle : gb_conf t (gb_C C f) ≤ R := gb_conf_le R t _ hs'.1.2.1 (fun g hg => (hs'.2.2 g hg).2)
  have hge := gb_conf_ge t (gb_C C f)
  obtain ⟨k1, _, _⟩ := hs'
  have ec : gb_conf (f :: t) C = gb_conf t (gb_C C f) := rfl
  rw [ec] at h2
  by_cases hc : T < gb_C C f ∨ f.2.2 = true
  · have eT : gb_T C T f = gb_C C f := by unfold gb_T; exact if_pos hc
    rw [eT] at k1 ⊢
    refine ⟨by omega, ?_⟩
    by_cases hg : gb_C C f < G
    · exact Or.inr (Or.inr (Or.inr hg))
    · left; omega
  · have eT : gb_T C T f = T := by unfold gb_T; exact if_neg hc
    rw [eT]
    exact ⟨h1, h2⟩
/-- s goes back -/
theorem gb_bk_DS {G C T R K : Nat} {Ls Lo : List gb_F} (h : gb_DS G C T R K Ls Lo) : gb_DS G C C R K Ls Lo :=
  ⟨by have := h.1; omega, h.2⟩
theorem gb_bk_Z {G C T R K : Nat} {ow ak : Bool} {Ls Lo : List gb_F} (h : gb_DS G C T R K Ls Lo) : gb_Z G C C R ow ak Ls Lo := by
  have h2 : gb_conf Lo C ≤ R := gb_conf_le R Lo C h.1.2.1 (fun f hf => (h.2.2 f hf).2)
  have h3 := gb_conf_ge Lo C
  have h4 := gb_adv_ge Ls R
  obtain ⟨h1, _⟩ := h
  refine ⟨by omega, ?_⟩
  by_cases hg : C < G
  · exact Or.inr (Or.inr (Or.inr hg))
  · left; omega
/-- a frame leaves its line -/
theorem gb_xs_DS {G C T R K : Nat} {f : gb_F} {t Lo : List gb_F} (h : gb_DS G C T R K (f :: t) Lo) : gb_DS G C T R K t Lo :=
  ⟨h.1, fun g hg => h.2.1 g (List.mem_cons_of_mem f hg), h.2.2⟩
theorem gb_xo_DS {G C T R K : Nat} {f : gb_F} {Ls t : List gb_F} (h : gb_DS G C T R K Ls (f :: t)) : gb_DS G C T R K Ls t :=
  ⟨h.1, h.2.1, fun g hg => h.2.2 g (List.mem_cons_of_mem f hg)⟩
/-- a frame is put behind the others once more -/
theorem gb_ys_DS {G C T R K : Nat} {f : gb_F} {t Lo : List gb_F} (h : gb_DS G C T R K t Lo) (hf : f.2.1 = true → K ≤ f.1.1 ∧ f.1.1 < G) : gb_DS G C T R K (t ++ [f]) Lo := by
  refine ⟨h.1, fun g hg hd => ?_, h.2.2⟩
  rcases List.mem_append.mp hg with hg | hg
  · exact h.2.1 g hg hd
  · rw [List.mem_singleton.mp hg] at hd ⊢; exact hf hd
theorem gb_yo_DS {G C T R K : Nat} {f : gb_F} {Ls t : List gb_F} (h : gb_DS G C T R K Ls t) (hf : K ≤ f.1.2 ∧ f.1.2 ≤ R) : gb_DS G C T R K Ls (t ++ [f]) := by
  refine ⟨h.1, h.2.1, fun g hg => ?_⟩
  rcases List.mem_append.mp hg with hg | hg
  · exact h.2.2 g hg
  · rw [List.mem_singleton.mp hg]; exact hf
/-- a frame is read -/
theorem gb_rd_DS {G C T R K : Nat} {f : gb_F} {Ls Lo : List gb_F} (h : gb_DS G C T R K Ls Lo) (hf : f.2.1 = true → K ≤ f.1.1 ∧ f.1.1 < G) : gb_DS G C T (gb_R R f) K Ls Lo := by
  obtain ⟨h1, h2, h3⟩ := h
  have hR : R ≤ gb_R R f ∧ gb_R R f ≤ G := by
    unfold gb_R
    by_cases hc : f.2.1 = true ∧ f.1.1 = R
    · rw [if_pos hc]; have := hf hc.1; omega
    · rw [if_neg hc]; omega
  exact ⟨by omega, h2, fun g hg => ⟨(h3 g hg).1, Nat.le_trans (h3 g hg).2 hR.1⟩⟩
theorem gb_rc_DS {G C T R K : Nat} {f : gb_F} {Ls Lo : List gb_F} (h : gb_DS G C T R K Ls Lo) (hf : K ≤ f.1.2 ∧ f.1.2 ≤ R) : gb_DS G (gb_C C f) (gb_T C T f) R K Ls Lo := by
  obtain ⟨h1, h2, h3⟩ := h
  have hC : C ≤ gb_C C f ∧ gb_C C f ≤ R := by
    unfold gb_C; split <;> omega
  have hT : gb_C C f ≤ gb_T C T f ∧ gb_T C T f ≤ G := by
    unfold gb_T
    by_cases hc : T < gb_C C f ∨ f.2.2 = true
    · rw [if_pos hc]; omega
    · rw [if_neg hc]
      have : ¬ T < gb_C C f := fun z => hc (Or.inl z)
      omega
  exact ⟨by omega, h2, h3⟩
/-- dry lines and nothing left to send: all is over -/
theorem gb_fin {G C R K : Nat} (h : gb_DS G C G R K [] []) (z : gb_Z G C G R false false [] []) : C = G ∧ R = G := by
  obtain ⟨h1, _⟩ := h
  obtain ⟨z1, z2⟩ := z
  have z1' : G ≤ R := z1
  have hR : R = G := by omega
  rcases z2 with z | z | z | z
  · have z' : C = R := z
    omega
  · cases z
  · exact absurd z (Nat.lt_irrefl 0)
  · exact absurd z (Nat.lt_irrefl G)
theorem gb_mu_le {G C T R K : Nat} {ow ak : Bool} {Ls Lo : List gb_F} (h : gb_DS G C T R K Ls Lo) (h1 : Ls.length ≤ 32) (h2 : Lo.length ≤ 32) : gb_mu G T R ow ak Ls Lo ≤ 5825 := by
  unfold gb_mu gb_Q
  have a1 := gb_asks_le Lo
  have a2 := gb_bad_le Ls R
  have a3 := gb_dats_le Ls
  have a4 := gb_b_le ak
  have a5 := gb_b_le (ow || ak)
  have a6 : (if gb_adv Ls R < T then G - T else 0) ≤ 30 := by
    have := h.1
    split <;> omega
  have a7 := h.1
  omega
