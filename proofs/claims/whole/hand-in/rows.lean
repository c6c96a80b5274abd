section
/- rows of kit/rows, pasted -/
theorem pk_us {f : Nat → Int32} {k : Nat} {x : Int32} : upd f k x k = x := if_pos rfl
theorem pk_un {f : Nat → Int32} {k j : Nat} {x : Int32} (h : j ≠ k) : upd f k x j = f j := if_neg h
theorem pk_sub {a b : Nat} (h : b ≤ a) : nI a - nI b = nI (a - b) := by
  obtain ⟨c, rfl⟩ : ∃ c, a = c + b := ⟨a - b, by omega⟩
  rw [← nI_add, Int32.add_sub_cancel, Nat.add_sub_cancel]
theorem pk_m1 (n : Nat) : nI (n + 1) + (-1) = nI n := by
  rw [← nI_1, Int32.add_assoc, show (1 : Int32) + (-1) = 0 from rfl, Int32.add_zero]
theorem pk_mul (a b : Nat) : nI a * nI b = nI (a * b) := (Int32.ofNat_mul a b).symm
theorem pk_div {a d : Nat} (ha : a < 2 ^ 31) (h0 : 0 < d) (hd : d < 2 ^ 31) : nI a / nI d = nI (a / d) := by
  apply Int32.toInt_inj.mp
  rw [lg_idiv_nonneg (by rw [nI_toInt ha]; omega) (by rw [nI_toInt hd]; omega), nI_toInt ha, nI_toInt hd, nI_toInt (Nat.lt_of_le_of_lt (Nat.div_le_self a d) ha)]
  first | rfl | exact (Int.natCast_ediv _ _).symm
theorem pk_rem {a d : Nat} (ha : a < 2 ^ 31) (h0 : 0 < d) (hd : d < 2 ^ 31) : nI a - nI a / nI d * nI d = nI (a % d) := by
  rw [pk_div ha h0 hd, pk_mul, pk_sub (Nat.div_mul_le_self a d)]
  exact congrArg nI (by have := Nat.div_add_mod' a d; omega)
theorem pk_sub_toInt {a b : Nat} (ha : a < 2 ^ 30) (hb : b < 2 ^ 30) : (nI a - nI b).toInt = (a : Int) - b := by
  rw [Int32.toInt_sub, nI_toInt (by omega), nI_toInt (by omega)]
  exact Int.bmod_eq_of_le (by omega) (by omega)
theorem pk_sneg {a b : Nat} (hb : b < 2 ^ 30) (h : a < b) : nI a - nI b < 0 := by
  rw [Int32.lt_iff_toInt_lt, pk_sub_toInt (by omega) hb, show (0 : Int32).toInt = 0 from by decide]
  omega
theorem pk_ix (x : Int32) {n : Nat} (hn : n < 2 ^ 31) : x < 0 ∨ nI n ≤ x ∨ ∃ j : Nat, j < n ∧ x = nI j := by
  by_cases h : x < 0
  · exact Or.inl h
  · obtain ⟨j, hj, rfl⟩ := nI_of h
    by_cases h2 : j < n
    · exact Or.inr (Or.inr ⟨j, h2, rfl⟩)
    · exact Or.inr (Or.inl (nI_le (by omega) hj))
theorem pk_le {x y : Int32} {A B : Prop} (a b : Nat) (f : a ≤ b → A) (g : b < a → B) (hx : x = nI a := by rfl) (hy : y = nI b := by rfl) (ha : a < 2 ^ 31 := by omega) (hb : b < 2 ^ 31 := by omega) : (x ≤ y → A) ∧ (¬ x ≤ y → B) := by
  subst hx hy
  rw [nI_leI ha hb]
  exact ⟨f, fun z => g (by omega)⟩
theorem pk_lt {x y : Int32} {A B : Prop} (a b : Nat) (f : a < b → A) (g : b ≤ a → B) (hx : x = nI a := by rfl) (hy : y = nI b := by rfl) (ha : a < 2 ^ 31 := by omega) (hb : b < 2 ^ 31 := by omega) : (x < y → A) ∧ (¬ x < y → B) := by
  subst hx hy
  rw [nI_ltI ha hb]
  exact ⟨f, fun z => g (by omega)⟩
theorem pk_eq {x y : Int32} {A B : Prop} (a b : Nat) (f : a = b → A) (g : a ≠ b → B) (hx : x = nI a := by rfl) (hy : y = nI b := by rfl) (ha : a < 2 ^ 31 := by omega) (hb : b < 2 ^ 31 := by omega) : (x = y → A) ∧ (¬ x = y → B) := by
  subst hx hy
  rw [nI_eq ha hb]
  exact ⟨f, g⟩
theorem pk_in {x : Int32} (n N : Nat) (h : n < N) (hx : x = nI n := by rfl) (hN : N < 2 ^ 31 := by omega) : vp_in x N := by
  subst hx
  exact vp_in_nI h hN
theorem pk_cl {x : Int32} (n : Nat) (hx : x = nI n := by rfl) (h : n < 2 ^ 31 := by omega) : x.toNatClampNeg = n := by
  subst hx
  exact nI_clamp h
theorem pk_tn {n : Nat} (h : n < 2 ^ 32) : (nI n).toBitVec.toNat = n := Nat.mod_eq_of_lt h
theorem pk_and (x : Int32) {m : Int32} (k : Nat) (hm : m.toBitVec.toNat = 2 ^ k - 1) : x &&& m = nI (x.toBitVec.toNat % 2 ^ k) := by
  apply Int32.toBitVec_inj.mp
  apply BitVec.eq_of_toNat_eq
  rw [Int32.toBitVec_and, BitVec.toNat_and, hm, Nat.and_two_pow_sub_one_eq_mod]
  show _ = (BitVec.ofNat 32 _).toNat
  rw [BitVec.toNat_ofNat]
  exact (Nat.mod_eq_of_lt (Nat.lt_of_le_of_lt (Nat.mod_le _ _) x.toBitVec.isLt)).symm
theorem pk_andN {n : Nat} (h : n < 2 ^ 32) {m : Int32} (k : Nat) (hm : m.toBitVec.toNat = 2 ^ k - 1) : nI n &&& m = nI (n % 2 ^ k) := by
  rw [pk_and _ k hm, pk_tn h]
theorem pk_shl (a s : Int32) (k : Nat) (hs : (s.toBitVec.smod 32).toNat = k) : (a <<< s).toBitVec.toNat = a.toBitVec.toNat * 2 ^ k % 2 ^ 32 := by
  show (a.toBitVec <<< (s.toBitVec.smod 32).toNat).toNat = _
  rw [hs, BitVec.toNat_shiftLeft, Nat.shiftLeft_eq]
theorem pk_shlN {n : Nat} (s : Int32) (k : Nat) (hs : (s.toBitVec.smod 32).toNat = k) (h : n * 2 ^ k < 2 ^ 32) : nI n <<< s = nI (n * 2 ^ k) := by
  apply Int32.toBitVec_inj.mp
  apply BitVec.eq_of_toNat_eq
  have hn : n < 2 ^ 32 := Nat.lt_of_le_of_lt (Nat.le_mul_of_pos_right n (Nat.two_pow_pos k)) h
  rw [pk_shl _ _ k hs, pk_tn hn, pk_tn h, Nat.mod_eq_of_lt h]
theorem pk_shr (a s : Int32) (k : Nat) (hs : (s.toBitVec.smod 32).toNat = k) : (a >>> s).toInt = a.toInt >>> k := by
  show (a.toBitVec.sshiftRight (s.toBitVec.smod 32).toNat).toInt = _
  rw [hs, BitVec.toInt_sshiftRight]
  rfl
theorem pk_shrN {n : Nat} (h : n < 2 ^ 31) (s : Int32) (k : Nat) (hs : (s.toBitVec.smod 32).toNat = k) : nI n >>> s = nI (n / 2 ^ k) := by
  apply Int32.toInt_inj.mp
  have h2 : n / 2 ^ k ≤ n := Nat.div_le_self _ _
  rw [pk_shr _ _ k hs, nI_toInt h, nI_toInt (by omega), Int.shiftRight_eq_div_pow]
  rfl
theorem s_l : ∀ n, n < 32 → ((nI n &&& 31).toBitVec.smod 32).toNat = n := by decide +kernel
theorem nx_and (a b : Nat) : nI a &&& nI b = nI (a &&& b) := by
  apply Int32.toBitVec_inj.1
  show BitVec.ofNat 32 a &&& BitVec.ofNat 32 b = BitVec.ofNat 32 (a &&& b)
  apply BitVec.eq_of_getLsbD_eq
  intro i hi
  simp [hi]
theorem nx_xor (a b : Nat) : nI a ^^^ nI b = nI (a ^^^ b) := by
  apply Int32.toBitVec_inj.1
  show BitVec.ofNat 32 a ^^^ BitVec.ofNat 32 b = BitVec.ofNat 32 (a ^^^ b)
  apply BitVec.eq_of_getLsbD_eq
  intro i hi
  simp [hi]
theorem wb_of32 (x : Int32) : ∃ n, n < 2 ^ 32 ∧ x = nI n := ⟨x.toBitVec.toNat, x.toBitVec.isLt, Int32.toBitVec_inj.mp (by show _ = BitVec.ofNat 32 _; simp)⟩
end
section
/- frames under way: ((number, expected), (holds data, asks again)) -/
abbrev gb_F : Type := (Nat × Nat) × (Bool × Bool)
/-- what the receiver expects after all of l has arrived -/
def gb_adv : List gb_F → Nat → Nat
  | [], m => m
  | f :: l, m => gb_adv l (if f.2.1 = true ∧ f.1.1 = m then m + 1 else m)
/-- how many of l come too early -/
def gb_bad : List gb_F → Nat → Nat
  | [], _ => 0
  | f :: l, m => (if f.2.1 = true ∧ m < f.1.1 then 1 else 0) + gb_bad l (if f.2.1 = true ∧ f.1.1 = m then m + 1 else m)
def gb_dats : List gb_F → Nat
  | [] => 0
  | f :: l => (if f.2.1 = true then 1 else 0) + gb_dats l
def gb_asks : List gb_F → Nat
  | [] => 0
  | f :: l => (if f.2.2 = true then 1 else 0) + gb_asks l
/-- what the sender knows as confirmed after all of l has arrived -/
def gb_conf : List gb_F → Nat → Nat
  | [], c => c
  | f :: l, c => gb_conf l (if c ≤ f.1.2 then f.1.2 else c)
theorem gb_adv_app (f : gb_F) (l : List gb_F) : ∀ m, gb_adv (l ++ [f]) m = (if f.2.1 = true ∧ f.1.1 = gb_adv l m then gb_adv l m + 1 else gb_adv l m) := by
  induction l with
  | nil => intro m; rfl
  | cons a l ih => intro m; simp only [List.cons_append, gb_adv]; exact ih _
theorem gb_bad_app (f : gb_F) (l : List gb_F) : ∀ m, gb_bad (l ++ [f]) m = gb_bad l m + (if f.2.1 = true ∧ gb_adv l m < f.1.1 then 1 else 0) := by
  induction l with
  | nil => intro m; simp only [List.nil_append, gb_bad, gb_adv, Nat.add_zero, Nat.zero_add]; rfl
  | cons a l ih => intro m; simp only [List.cons_append, gb_bad, gb_adv]; rw [ih, Nat.add_assoc]; rfl
theorem gb_dats_app (f : gb_F) (l : List gb_F) : gb_dats (l ++ [f]) = gb_dats l + (if f.2.1 = true then 1 else 0) := by
  induction l with
  | nil => simp only [List.nil_append, gb_dats, Nat.add_zero, Nat.zero_add]
  | cons a l ih => simp only [List.cons_append, gb_dats]; rw [ih, Nat.add_assoc]
theorem gb_asks_app (f : gb_F) (l : List gb_F) : gb_asks (l ++ [f]) = gb_asks l + (if f.2.2 = true then 1 else 0) := by
  induction l with
  | nil => simp only [List.nil_append, gb_asks, Nat.add_zero, Nat.zero_add]
  | cons a l ih => simp only [List.cons_append, gb_asks]; rw [ih, Nat.add_assoc]
theorem gb_conf_app (f : gb_F) (l : List gb_F) : ∀ c, gb_conf (l ++ [f]) c = (if gb_conf l c ≤ f.1.2 then f.1.2 else gb_conf l c) := by
  induction l with
  | nil => intro c; rfl
  | cons a l ih => intro c; simp only [List.cons_append, gb_conf]; exact ih _
theorem gb_adv_ge (l : List gb_F) : ∀ m, m ≤ gb_adv l m := by
  induction l with
  | nil => intro m; exact Nat.le_refl _
  | cons a l ih =>
    intro m
    simp only [gb_adv]
    split
    · exact Nat.le_trans (Nat.le_succ m) (ih _)
    · exact ih _
theorem gb_bad_le (l : List gb_F) : ∀ m, gb_bad l m ≤ l.length := by
  induction l with
  | nil => intro m; exact Nat.le_refl _
  | cons a l ih =>
    intro m
    simp only [gb_bad, List.length_cons]
    have h := ih (if a.2.1 = true ∧ a.1.1 = m then m + 1 else m)
    have h1 : (if a.2.1 = true ∧ m < a.1.1 then 1 else 0) ≤ 1 := by split <;> omega
    omega
theorem gb_dats_le (l : List gb_F) : gb_dats l ≤ l.length := by
  induction l with
  | nil => exact Nat.le_refl _
  | cons a l ih =>
    simp only [gb_dats, List.length_cons]
    have h1 : (if a.2.1 = true then 1 else 0) ≤ 1 := by split <;> omega
    omega
theorem gb_asks_le (l : List gb_F) : gb_asks l ≤ l.length := by
  induction l with
  | nil => exact Nat.le_refl _
  | cons a l ih =>
    simp only [gb_asks, List.length_cons]
    have h1 : (if a.2.2 = true then 1 else 0) ≤ 1 := by split <;> omega
    omega
theorem gb_conf_ge (l : List gb_F) : ∀ c, c ≤ gb_conf l c := by
  induction l with
  | nil => intro m; exact Nat.le_refl _
  | cons a l ih =>
    intro c
    simp only [gb_conf]
    split
    · rename_i h; exact Nat.le_trans h (ih _)
    · exact ih _
theorem gb_conf_le (R : Nat) (l : List gb_F) : ∀ c, c ≤ R → (∀ f, f ∈ l → f.1.2 ≤ R) → gb_conf l c ≤ R := by
  induction l with
  | nil => intro c hc _; exact hc
  | cons a l ih =>
    intro c hc h
    simp only [gb_conf]
    have ha := h a (List.mem_cons_self)
    have ht : ∀ f, f ∈ l → f.1.2 ≤ R := fun f hf => h f (List.mem_cons_of_mem a hf)
    split
    · exact ih _ ha ht
    · exact ih _ hc ht
end
section
/- one direction: s is given bytes (G given, C confirmed, T next to send), o receives them (R received, K taken; ow, ak its flags);
   Ls the frames from s (data), Lo those from o (replies) -/
def gb_DS (G C T R K : Nat) (Ls Lo : List gb_F) : Prop :=
  (K ≤ C ∧ C ≤ R ∧ R ≤ G ∧ G ≤ K + 30 ∧ C ≤ T ∧ T ≤ G) ∧ (∀ f, f ∈ Ls → f.2.1 = true → K ≤ f.1.1 ∧ f.1.1 < G) ∧ (∀ f, f ∈ Lo → K ≤ f.1.2 ∧ f.1.2 ≤ R)
def gb_b (b : Bool) : Nat := if b = true then 1 else 0
def gb_Q (G T R : Nat) (ak : Bool) (Ls Lo : List gb_F) : Nat :=
  gb_asks Lo + gb_b ak + gb_bad Ls R + (if gb_adv Ls R < T then G - T else 0)
def gb_mu (G T R : Nat) (ow ak : Bool) (Ls Lo : List gb_F) : Nat :=
  60 * gb_Q G T R ak Ls Lo + 2 * (G - T) + gb_dats Ls + gb_b (ow || ak) + Ls.length
def gb_Z (G C T R : Nat) (ow ak : Bool) (Ls Lo : List gb_F) : Prop :=
  T ≤ gb_adv Ls R ∧ (gb_conf Lo C = R ∨ (ow || ak) = true ∨ 0 < gb_dats Ls ∨ T < G)
theorem gb_b_le (b : Bool) : gb_b b ≤ 1 := by cases b <;> decide
/-- s puts a frame with data on its line -/
theorem gb_sd_DS {G C T R K : Nat} {Ls Lo : List gb_F} {e : Nat} {a : Bool} (h : gb_DS G C T R K Ls Lo) (hT : T < G) : gb_DS G C (T + 1) R K (Ls ++ [((T, e), (true, a))]) Lo := by
  obtain ⟨h1, h2, h3⟩ := h
  refine ⟨by omega, ?_, h3⟩
  intro f hf hd
  rcases List.mem_append.mp hf with hf | hf
  · exact h2 f hf hd
  · rw [List.mem_singleton.mp hf]; exact ⟨by show K ≤ T; omega, hT⟩
theorem gb_sd_mu {G T R : Nat} {ow ak : Bool} {Ls Lo : List gb_F} {e : Nat} {a : Bool} (hT : T < G) : gb_mu G (T + 1) R ow ak (Ls ++ [((T, e), (true, a))]) Lo ≤ gb_mu G T R ow ak Ls Lo := by
  unfold gb_mu gb_Q
  rw [gb_bad_app, gb_adv_app, gb_dats_app, List.length_append]
  simp only [true_and, if_true, List.length_cons, List.length_nil]
  generalize gb_adv Ls R = m
  by_cases h1 : T = m
  · subst h1
    rw [if_pos rfl, if_neg (Nat.lt_irrefl T), if_neg (Nat.lt_irrefl (T + 1)), if_neg (Nat.lt_irrefl T)]
    omega
  · rw [if_neg h1]
    by_cases h2 : m < T
    · rw [if_pos h2, if_pos (by omega), if_pos h2]; omega
    · rw [if_neg h2, if_neg (by omega), if_neg h2]; omega
theorem gb_sd_Z {G C T R : Nat} {ow ak : Bool} {Ls Lo : List gb_F} {e : Nat} {a : Bool} (h : gb_Z G C T R ow ak Ls Lo) : gb_Z G C (T + 1) R ow ak (Ls ++ [((T, e), (true, a))]) Lo := by
  obtain ⟨h1, _⟩ := h
  refine ⟨?_, Or.inr (Or.inr (Or.inl ?_))⟩
  · rw [gb_adv_app]
    simp only [true_and]
    by_cases h2 : T = gb_adv Ls R
    · rw [if_pos h2]; omega
    · rw [if_neg h2]; omega
  · rw [gb_dats_app]; simp only [if_true]; omega
/-- s puts a frame without data on its line -/
theorem gb_sn_DS {G C T R K : Nat} {Ls Lo : List gb_F} {n e : Nat} {a : Bool} (h : gb_DS G C T R K Ls Lo) : gb_DS G C T R K (Ls ++ [((n, e), (false, a))]) Lo := by
  obtain ⟨h1, h2, h3⟩ := h
  refine ⟨h1, ?_, h3⟩
  intro f hf hd
  rcases List.mem_append.mp hf with hf | hf
  · exact h2 f hf hd
  · rw [List.mem_singleton.mp hf] at hd; cases hd
theorem gb_sn_mu {G T R : Nat} {ow ak : Bool} {Ls Lo : List gb_F} {n e : Nat} {a : Bool} : gb_mu G T R ow ak (Ls ++ [((n, e), (false, a))]) Lo = gb_mu G T R ow ak Ls Lo + 1 := by
  unfold gb_mu gb_Q
  rw [gb_bad_app, gb_adv_app, gb_dats_app, List.length_append]
  simp only [Bool.false_eq_true, false_and, if_false, List.length_cons, List.length_nil, Nat.add_zero]
  omega
theorem gb_sn_Z {G C T R : Nat} {ow ak : Bool} {Ls Lo : List gb_F} {n e : Nat} {a : Bool} (h : gb_Z G C T R ow ak Ls Lo) : gb_Z G C T R ow ak (Ls ++ [((n, e), (false, a))]) Lo := by
  obtain ⟨h1, h2⟩ := h
  unfold gb_Z
  rw [gb_adv_app, gb_dats_app]
  simp only [Bool.false_eq_true, false_and, if_false, Nat.add_zero]
  exact ⟨h1, h2⟩
/-- o puts a frame on its line -/
theorem gb_so_DS {G C T R K : Nat} {Ls Lo : List gb_F} {n : Nat} {d a : Bool} (h : gb_DS G C T R K Ls Lo) : gb_DS G C T R K Ls (Lo ++ [((n, R), (d, a))]) := by
  obtain ⟨h1, h2, h3⟩ := h
  refine ⟨h1, h2, ?_⟩
  intro f hf
  rcases List.mem_append.mp hf with hf | hf
  · exact h3 f hf
  · rw [List.mem_singleton.mp hf]; exact ⟨by show K ≤ R; omega, Nat.le_refl R⟩
theorem gb_so_mu {G T R : Nat} {ow ak : Bool} {Ls Lo : List gb_F} {n e : Nat} {d : Bool} : gb_mu G T R false false Ls (Lo ++ [((n, e), (d, ak))]) + gb_b (ow || ak) = gb_mu G T R ow ak Ls Lo := by
  unfold gb_mu gb_Q
  rw [gb_asks_app]
  have h : (if ak = true then 1 else 0) = gb_b ak := rfl
  have h0 : gb_b false = 0 := rfl
  have h1 : gb_b (false || false) = 0 := rfl
  simp only [h, h0, h1]
  omega
theorem gb_so_Z {G C T R K : Nat} {ow ak : Bool} {Ls Lo : List gb_F} {n : Nat} {d a : Bool} (hs : gb_DS G C T R K Ls Lo) (h : gb_Z G C T R ow ak Ls Lo) : gb_Z G C T R false false Ls (Lo ++ [((n, R), (d, a))]) := by
  refine ⟨h.1, Or.inl ?_⟩
  rw [gb_conf_app]
  have hc : gb_conf Lo C ≤ R := gb_conf_le R Lo C hs.1.2.1 (fun f hf => (hs.2.2 f hf).2)
  exact if_pos hc
/-- the oldest frame of s arrives at o -/
def gb_R (R : Nat) (f : gb_F) : Nat := if f.2.1 = true ∧ f.1.1 = R then R + 1 else R
def gb_ak (R : Nat) (ak : Bool) (f : gb_F) : Bool := ak || (f.2.1 && decide (R < f.1.1))
theorem gb_pd_DS {G C T R K : Nat} {f : gb_F} {t Lo : List gb_F} (h : gb_DS G C T R K (f :: t) Lo) : gb_DS G C T (gb_R R f) K t Lo := by
  obtain ⟨h1, h2, h3⟩ := h
  have hf := h2 f List.mem_cons_self
  have hR : R ≤ gb_R R f ∧ gb_R R f ≤ G := by
    unfold gb_R
    by_cases hc : f.2.1 = true ∧ f.1.1 = R
    · rw [if_pos hc]; have := hf hc.1; omega
    · rw [if_neg hc]; omega
  exact ⟨by omega, fun g hg => h2 g (List.mem_cons_of_mem f hg), fun g hg => ⟨(h3 g hg).1, Nat.le_trans (h3 g hg).2 hR.1⟩⟩
theorem gb_pd_mu {G T R : Nat} {ow ak : Bool} {f : gb_F} {t Lo : List gb_F} : gb_mu G T (gb_R R f) (ow || f.2.1) (gb_ak R ak f) t Lo + 1 ≤ gb_mu G T R ow ak (f :: t) Lo := by
  have ea : gb_adv (f :: t) R = gb_adv t (gb_R R f) := rfl
  have eb : gb_bad (f :: t) R = (if f.2.1 = true ∧ R < f.1.1 then 1 else 0) + gb_bad t (gb_R R f) := rfl
  have ed : gb_dats (f :: t) = (if f.2.1 = true then 1 else 0) + gb_dats t := rfl
  unfold gb_mu gb_Q
  rw [ea, eb, ed, List.length_cons]
  generalize (if gb_adv t (gb_R R f) < T then G - T else 0) = q
  generalize gb_bad t (gb_R R f) = b
  unfold gb_ak
  generalize hd : f.2.1 = d
  by_cases hn : R < f.1.1
  · cases d <;> cases ow <;> cases ak <;> simp [gb_b, hn] <;> omega
  · cases d <;> cases ow <;> cases ak <;> simp [gb_b, hn] <;> omega
theorem gb_pd_Z {G C T R K : Nat} {ow ak : Bool} {f : gb_F} {t Lo : List gb_F} (_ : gb_DS G C T R K (f :: t) Lo) (h : gb_Z G C T R ow ak (f :: t) Lo) : gb_Z G C T (gb_R R f) (ow || f.2.1) (gb_ak R ak f) t Lo := by
  obtain ⟨h1, h2⟩ := h
  refine ⟨h1, ?_⟩
  unfold gb_ak
  cases hd : f.2.1 with
  | true => right; left; simp
  | false =>
    have eR : gb_R R f = R := by unfold gb_R; rw [hd]; simp
    rw [eR]
    simp only [gb_dats, hd, Bool.false_eq_true, if_false, Nat.zero_add] at h2
    simpa using h2
/-- the oldest frame of o arrives at s -/
def gb_C (C : Nat) (f : gb_F) : Nat := if C ≤ f.1.2 then f.1.2 else C
def gb_T (C T : Nat) (f : gb_F) : Nat := if T < gb_C C f ∨ f.2.2 = true then gb_C C f else T
theorem gb_pc_DS {G C T R K : Nat} {f : gb_F} {Ls t : List gb_F} (h : gb_DS G C T R K Ls (f :: t)) : gb_DS G (gb_C C f) (gb_T C T f) R K Ls t := by
  obtain ⟨h1, h2, h3⟩ := h
  have hf := h3 f List.mem_cons_self
  have hC : C ≤ gb_C C f ∧ gb_C C f ≤ R := by
    unfold gb_C; split <;> omega
  have hT : gb_C C f ≤ gb_T C T f ∧ gb_T C T f ≤ G := by
    unfold gb_T
    by_cases hc : T < gb_C C f ∨ f.2.2 = true
    · rw [if_pos hc]; omega
    · rw [if_neg hc]
      have : ¬ T < gb_C C f := fun z => hc (Or.inl z)
      omega
  exact ⟨by omega, h2, fun g hg => h3 g (List.mem_cons_of_mem f hg)⟩
theorem gb_pc_mu {G C T R K : Nat} {ow ak : Bool} {f : gb_F} {Ls t : List gb_F} (h : gb_DS G C T R K Ls (f :: t)) : gb_mu G (gb_T C T f) R ow ak Ls t ≤ gb_mu G T R ow ak Ls (f :: t) := by
  obtain ⟨h1, h2, h3⟩ := h
  have hf := h3 f List.mem_cons_self
  have hC : C ≤ gb_C C f ∧ gb_C C f ≤ R := by
    unfold gb_C; split <;> omega
  have hm := gb_adv_ge Ls R
  have ea : gb_asks (f :: t) = (if f.2.2 = true then 1 else 0) + gb_asks t := rfl
  unfold gb_mu gb_Q
  rw [ea]
  generalize gb_adv Ls R = m at hm ⊢
  generalize gb_bad Ls R = b
  generalize gb_b ak = k1
  generalize gb_b (ow || ak) = k2
  unfold gb_T
  generalize gb_C C f = C' at hC ⊢
  by_cases ha : f.2.2 = true
  · rw [if_pos (Or.inr ha), if_pos ha, if_neg (by omega)]
    generalize (if m < T then G - T else 0) = q
    omega
  · rw [if_neg ha]
    by_cases hb : T < C'
    · rw [if_pos (Or.inl hb), if_neg (by omega)]
      generalize (if m < T then G - T else 0) = q
      omega
    · have hc : ¬ (T < C' ∨ f.2.2 = true) := fun z => z.elim hb ha
      rw [if_neg hc]
      generalize (if m < T then G - T else 0) = q
      omega
theorem gb_pc_Z {G C T R K : Nat} {ow ak : Bool} {f : gb_F} {Ls t : List gb_F} (hs : gb_DS G C T R K Ls (f :: t)) (h : gb_Z G C T R ow ak Ls (f :: t)) : gb_Z G (gb_C C f) (gb_T C T f) R ow ak Ls t := by
  have hs' := gb_pc_DS hs
  obtain ⟨h1, h2⟩ := h
  have hm := gb_adv_ge Ls R
  have hle : gb_conf t (gb_C C f) ≤ R := gb_conf_le R t _ hs'.1.2.1 (fun g hg => (hs'.2.2 g hg).2)
  have hge := gb_conf_ge t (gb_C C f)
  obtain ⟨k1, _, _⟩ := hs'
  have ec : gb_conf (f :: t) C = gb_conf t (gb_C C f) := rfl
  rw [ec] at h2
  by_cases hc : T < gb_C C f ∨ f.2.2 = true
  · have eT : gb_T C T f = gb_C C f := by unfold gb_T; exact if_pos hc
    rw [eT] at k1 ⊢
    refine ⟨by omega, ?_⟩
    by_cases hg : gb_C C f < G
    · exact Or.inr (Or.inr (Or.inr hg))
    · left; omega
  · have eT : gb_T C T f = T := by unfold gb_T; exact if_neg hc
    rw [eT]
    exact ⟨h1, h2⟩
/-- s goes back -/
theorem gb_bk_DS {G C T R K : Nat} {Ls Lo : List gb_F} (h : gb_DS G C T R K Ls Lo) : gb_DS G C C R K Ls Lo :=
  ⟨by have := h.1; omega, h.2⟩
theorem gb_bk_Z {G C T R K : Nat} {ow ak : Bool} {Ls Lo : List gb_F} (h : gb_DS G C T R K Ls Lo) : gb_Z G C C R ow ak Ls Lo := by
  have h2 : gb_conf Lo C ≤ R := gb_conf_le R Lo C h.1.2.1 (fun f hf => (h.2.2 f hf).2)
  have h3 := gb_conf_ge Lo C
  have h4 := gb_adv_ge Ls R
  obtain ⟨h1, _⟩ := h
  refine ⟨by omega, ?_⟩
  by_cases hg : C < G
  · exact Or.inr (Or.inr (Or.inr hg))
  · left; omega
/-- a frame leaves its line -/
theorem gb_xs_DS {G C T R K : Nat} {f : gb_F} {t Lo : List gb_F} (h : gb_DS G C T R K (f :: t) Lo) : gb_DS G C T R K t Lo :=
  ⟨h.1, fun g hg => h.2.1 g (List.mem_cons_of_mem f hg), h.2.2⟩
theorem gb_xo_DS {G C T R K : Nat} {f : gb_F} {Ls t : List gb_F} (h : gb_DS G C T R K Ls (f :: t)) : gb_DS G C T R K Ls t :=
  ⟨h.1, h.2.1, fun g hg => h.2.2 g (List.mem_cons_of_mem f hg)⟩
/-- a frame is put behind the others once more -/
theorem gb_ys_DS {G C T R K : Nat} {f : gb_F} {t Lo : List gb_F} (h : gb_DS G C T R K t Lo) (hf : f.2.1 = true → K ≤ f.1.1 ∧ f.1.1 < G) : gb_DS G C T R K (t ++ [f]) Lo := by
  refine ⟨h.1, fun g hg hd => ?_, h.2.2⟩
  rcases List.mem_append.mp hg with hg | hg
  · exact h.2.1 g hg hd
  · rw [List.mem_singleton.mp hg] at hd ⊢; exact hf hd
theorem gb_yo_DS {G C T R K : Nat} {f : gb_F} {Ls t : List gb_F} (h : gb_DS G C T R K Ls t) (hf : K ≤ f.1.2 ∧ f.1.2 ≤ R) : gb_DS G C T R K Ls (t ++ [f]) := by
  refine ⟨h.1, h.2.1, fun g hg => ?_⟩
  rcases List.mem_append.mp hg with hg | hg
  · exact h.2.2 g hg
  · rw [List.mem_singleton.mp hg]; exact hf
/-- a frame is read -/
theorem gb_rd_DS {G C T R K : Nat} {f : gb_F} {Ls Lo : List gb_F} (h : gb_DS G C T R K Ls Lo) (hf : f.2.1 = true → K ≤ f.1.1 ∧ f.1.1 < G) : gb_DS G C T (gb_R R f) K Ls Lo := by
  obtain ⟨h1, h2, h3⟩ := h
  have hR : R ≤ gb_R R f ∧ gb_R R f ≤ G := by
    unfold gb_R
    by_cases hc : f.2.1 = true ∧ f.1.1 = R
    · rw [if_pos hc]; have := hf hc.1; omega
    · rw [if_neg hc]; omega
  exact ⟨by omega, h2, fun g hg => ⟨(h3 g hg).1, Nat.le_trans (h3 g hg).2 hR.1⟩⟩
theorem gb_rc_DS {G C T R K : Nat} {f : gb_F} {Ls Lo : List gb_F} (h : gb_DS G C T R K Ls Lo) (hf : K ≤ f.1.2 ∧ f.1.2 ≤ R) : gb_DS G (gb_C C f) (gb_T C T f) R K Ls Lo := by
  obtain ⟨h1, h2, h3⟩ := h
  have hC : C ≤ gb_C C f ∧ gb_C C f ≤ R := by
    unfold gb_C; split <;> omega
  have hT : gb_C C f ≤ gb_T C T f ∧ gb_T C T f ≤ G := by
    unfold gb_T
    by_cases hc : T < gb_C C f ∨ f.2.2 = true
    · rw [if_pos hc]; omega
    · rw [if_neg hc]
      have : ¬ T < gb_C C f := fun z => hc (Or.inl z)
      omega
  exact ⟨by omega, h2, h3⟩
/-- dry lines and nothing left to send: all is over -/
theorem gb_fin {G C R K : Nat} (h : gb_DS G C G R K [] []) (z : gb_Z G C G R false false [] []) : C = G ∧ R = G := by
  obtain ⟨h1, _⟩ := h
  obtain ⟨z1, z2⟩ := z
  have z1' : G ≤ R := z1
  have hR : R = G := by omega
  rcases z2 with z | z | z | z
  · have z' : C = R := z
    omega
  · cases z
  · exact absurd z (Nat.lt_irrefl 0)
  · exact absurd z (Nat.lt_irrefl G)
theorem gb_mu_le {G C T R K : Nat} {ow ak : Bool} {Ls Lo : List gb_F} (h : gb_DS G C T R K Ls Lo) (h1 : Ls.length ≤ 32) (h2 : Lo.length ≤ 32) : gb_mu G T R ow ak Ls Lo ≤ 5825 := by
  unfold gb_mu gb_Q
  have a1 := gb_asks_le Lo
  have a2 := gb_bad_le Ls R
  have a3 := gb_dats_le Ls
  have a4 := gb_b_le ak
  have a5 := gb_b_le (ow || ak)
  have a6 : (if gb_adv Ls R < T then G - T else 0) ≤ 30 := by
    have := h.1
    split <;> omega
  have a7 := h.1
  omega
end
section
/- the check, over naturals: bit b + 8 of the rest, cleared by 263 * 2^b -/
def gc_st (b r : Nat) : Nat := if r.testBit (b + 8) = true then r ^^^ (263 * 2 ^ b) else r
def gc_run : Nat → Nat → Nat
  | 0, r => r
  | n + 1, r => gc_run n (gc_st n r)
def gc_crc (c : Nat) : Nat := gc_run 23 (c * 2 ^ 8)
theorem gc_x4 (x y p : Nat) : x ^^^ y = (x ^^^ p) ^^^ (y ^^^ p) := by
  apply Nat.eq_of_testBit_eq
  intro i
  simp only [Nat.testBit_xor]
  cases x.testBit i <;> cases y.testBit i <;> cases p.testBit i <;> rfl
theorem gc_x3 (x y p : Nat) : (x ^^^ y) ^^^ p = x ^^^ (y ^^^ p) := Nat.xor_assoc x y p
theorem gc_x3' (x y p : Nat) : (x ^^^ y) ^^^ p = (x ^^^ p) ^^^ y := by
  apply Nat.eq_of_testBit_eq
  intro i
  simp only [Nat.testBit_xor]
  cases x.testBit i <;> cases y.testBit i <;> cases p.testBit i <;> rfl
theorem gc_st_lin (b x y : Nat) : gc_st b (x ^^^ y) = gc_st b x ^^^ gc_st b y := by
  unfold gc_st
  rw [Nat.testBit_xor]
  cases x.testBit (b + 8) <;> cases y.testBit (b + 8)
  · rfl
  · exact gc_x3 x y _
  · exact gc_x3' x y _
  · exact gc_x4 x y _
theorem gc_run_lin (n : Nat) : ∀ x y, gc_run n (x ^^^ y) = gc_run n x ^^^ gc_run n y := by
  induction n with
  | zero => intro x y; rfl
  | succ n ih => intro x y; show gc_run n (gc_st n (x ^^^ y)) = _; rw [gc_st_lin]; exact ih _ _
theorem gc_lin (x y : Nat) : gc_crc (x ^^^ y) = gc_crc x ^^^ gc_crc y := by
  unfold gc_crc
  have h : (x ^^^ y) * 2 ^ 8 = (x * 2 ^ 8) ^^^ (y * 2 ^ 8) := by
    apply Nat.eq_of_testBit_eq
    intro i
    simp only [Nat.testBit_xor, Nat.testBit_mul_two_pow]
    cases decide (8 ≤ i) <;> simp
  rw [h, gc_run_lin]
theorem gc_low {n x : Nat} (h : x < 2 ^ (n + 1)) (hb : x.testBit n = false) : x < 2 ^ n := by
  apply Nat.lt_pow_two_of_testBit
  intro i hi
  rcases Nat.lt_or_ge n i with h1 | h1
  · exact Nat.testBit_lt_two_pow (Nat.lt_of_lt_of_le h (Nat.pow_le_pow_right (by decide) h1))
  · rw [Nat.le_antisymm h1 hi]; exact hb
theorem gc_p (b : Nat) : 263 * 2 ^ b < 2 ^ (b + 9) ∧ (263 * 2 ^ b).testBit (b + 8) = true := by
  have h9 : 2 ^ (b + 9) = 2 ^ b * 512 := Nat.pow_add 2 b 9
  have h8 : 2 ^ (b + 8) = 2 ^ b * 256 := Nat.pow_add 2 b 8
  have h0 : 0 < 2 ^ b := Nat.two_pow_pos b
  have hlt : 263 * 2 ^ b < 2 ^ (b + 9) := by rw [h9]; omega
  refine ⟨hlt, Nat.testBit_of_two_pow_le_and_two_pow_add_one_gt ?_ hlt⟩
  rw [h8]; omega
theorem gc_st_lt {b r : Nat} (h : r < 2 ^ (b + 9)) : gc_st b r < 2 ^ (b + 8) := by
  unfold gc_st
  have hp := gc_p b
  cases hb : r.testBit (b + 8) with
  | false => rw [if_neg (by decide)]; exact gc_low h hb
  | true =>
    rw [if_pos rfl]
    apply gc_low (Nat.xor_lt_two_pow h hp.1)
    rw [Nat.testBit_xor, hb, hp.2]
    rfl
theorem gc_run_lt (n : Nat) : ∀ r, r < 2 ^ (n + 8) → gc_run n r < 256 := by
  induction n with
  | zero => intro r h; exact h
  | succ n ih => intro r h; exact ih _ (gc_st_lt (b := n) (by rw [show n + 9 = n + 1 + 8 by omega]; exact h))
theorem gc_crc_lt {c : Nat} (h : c < 2 ^ 23) : gc_crc c < 256 := gc_run_lt 23 _ (by rw [show 2 ^ (23 + 8) = 2 ^ 23 * 2 ^ 8 from Nat.pow_add 2 23 8]; exact Nat.mul_lt_mul_of_pos_right h (by decide))
theorem gc_one : ∀ k, k < 23 → gc_crc (2 ^ k) ≠ 0 := by decide +kernel
theorem gc_xne {x y : Nat} (h : y ≠ 0) : x ^^^ y ≠ x := by
  intro e
  apply h
  have e2 : x ^^^ (x ^^^ y) = x ^^^ x := congrArg (fun z => x ^^^ z) e
  rw [← Nat.xor_assoc, Nat.xor_self, Nat.zero_xor] at e2
  exact e2
/-- one bit of a frame turned round: the check fails -/
theorem gc_dam {c k : Nat} (hc : c < 2 ^ 23) (hk : k < 31) : gc_crc (((c + gc_crc c * 2 ^ 23) ^^^ 2 ^ k) % 2 ^ 23) ≠ ((c + gc_crc c * 2 ^ 23) ^^^ 2 ^ k) / 2 ^ 23 := by
  rw [Nat.xor_mod_two_pow, Nat.xor_div_two_pow]
  have e1 : (c + gc_crc c * 2 ^ 23) % 2 ^ 23 = c := by rw [Nat.add_mul_mod_self_right]; exact Nat.mod_eq_of_lt hc
  have e2 : (c + gc_crc c * 2 ^ 23) / 2 ^ 23 = gc_crc c := by rw [Nat.add_mul_div_right _ _ (by decide), Nat.div_eq_of_lt hc, Nat.zero_add]
  rw [e1, e2]
  rcases Nat.lt_or_ge k 23 with h | h
  · have h1 : 2 ^ k < 2 ^ 23 := Nat.pow_lt_pow_right (by decide) h
    rw [Nat.mod_eq_of_lt h1, Nat.div_eq_of_lt h1, Nat.xor_zero, gc_lin]
    exact gc_xne (gc_one k h)
  · obtain ⟨j, rfl⟩ : ∃ j, k = 23 + j := ⟨k - 23, by omega⟩
    have h1 : 2 ^ (23 + j) = 2 ^ 23 * 2 ^ j := Nat.pow_add 2 23 j
    rw [h1, Nat.mul_mod_right, Nat.mul_div_cancel_left _ (by decide), Nat.xor_zero]
    exact (gc_xne (Nat.ne_of_gt (Nat.two_pow_pos j))).symm
end
section
/- words: or of parts that don't meet is their sum -/
theorem gw_or (a b : Nat) : nI a ||| nI b = nI (a ||| b) := by
  apply Int32.toBitVec_inj.mp
  show BitVec.ofNat 32 a ||| BitVec.ofNat 32 b = BitVec.ofNat 32 (a ||| b)
  exact BitVec.ofNat_or.symm
theorem gw_dis (i : Nat) {a b : Nat} (h : b < 2 ^ i) : nI (2 ^ i * a) ||| nI b = nI (2 ^ i * a + b) := by
  rw [gw_or, Nat.two_pow_add_eq_or_of_lt h]
theorem gw_dis' (i : Nat) {a b : Nat} (h : b < 2 ^ i) : nI b ||| nI (2 ^ i * a) = nI (2 ^ i * a + b) := by
  rw [gw_or, Nat.or_comm, Nat.two_pow_add_eq_or_of_lt h]
theorem gw_e2 (e : Nat) : nI (131072 * e) ||| 1024 = nI (131072 * e + 1024) := gw_dis 17 (a := e) (b := 1024) (by decide)
theorem gw_cell {b : Nat} (h : b < 256) : nI b ||| 256 = nI (256 + b) := gw_dis' 8 (a := 1) (b := b) (by omega)
theorem gw_e3 {e a b : Nat} (hb : b < 512) : nI (131072 * e + 1024 * a) ||| (512 ||| nI b) = nI (131072 * e + 1024 * a + (512 + b)) := by
  have h1 : (512 : Int32) ||| nI b = nI (512 + b) := gw_dis 9 (a := 1) (b := b) (by omega)
  rw [h1]
  have h2 : 131072 * e + 1024 * a = 2 ^ 10 * (128 * e + a) := by omega
  rw [h2]
  exact gw_dis 10 (by omega)
theorem gw_e4 {e y n : Nat} (hy : y < 2048) (hn : n < 64) : nI (131072 * e + y) ||| nI (2048 * n) = nI (131072 * e + (2048 * n + y)) := by
  have h1 : 131072 * e + y = 131072 * e ||| y := Nat.two_pow_add_eq_or_of_lt (i := 17) (by omega) e
  have h2 : 2048 * n + y = 2048 * n ||| y := Nat.two_pow_add_eq_or_of_lt (i := 11) (by omega) n
  have h3 : 131072 * e + (2048 * n + y) = 131072 * e ||| (2048 * n + y) := Nat.two_pow_add_eq_or_of_lt (i := 17) (by omega) e
  rw [gw_or, h3, h2, h1, Nat.or_assoc, Nat.or_comm y]
theorem gw_e5 {c r : Nat} (hc : c < 8388608) : nI c ||| nI (r * 8388608) = nI (c + r * 8388608) := by
  have h := gw_dis' 23 (a := r) (b := c) hc
  rw [show (2 : Nat) ^ 23 * r = r * 8388608 by omega] at h
  rw [h, Nat.add_comm]
theorem gw_bit (c i : Nat) (hi : i < 31) : (nI c &&& nI (2 ^ i)) = 0 ↔ c / 2 ^ i % 2 = 0 := by
  have hp : 2 ^ i ≤ 2 ^ 30 := Nat.pow_le_pow_right (by decide) (by omega)
  have hle : c &&& 2 ^ i ≤ 2 ^ i := Nat.and_le_right
  rw [nx_and, ← nI_0, nI_eq (by omega) (by decide)]
  have ht : c.testBit i = decide (c / 2 ^ i % 2 = 1) := Nat.testBit_eq_decide_div_mod_eq
  constructor
  · intro h
    have h2 : (c &&& 2 ^ i).testBit i = false := by rw [h]; exact Nat.zero_testBit i
    rw [Nat.testBit_and, Nat.testBit_two_pow, ht] at h2
    simp only [decide_true, Bool.and_true, decide_eq_false_iff_not] at h2
    generalize c / 2 ^ i = z at h2 ⊢
    omega
  · intro h
    apply Nat.eq_of_testBit_eq
    intro j
    rw [Nat.testBit_and, Nat.testBit_two_pow, Nat.zero_testBit]
    by_cases e : i = j
    · subst e
      rw [ht, h]; rfl
    · rw [decide_eq_false e, Bool.and_false]
/-- the difference of two numbers, by 64 -/
theorem gw_sub63 {a b : Nat} (hb : b < 2 ^ 31) : (nI a - nI b) &&& 63 = nI ((a + 63 * b) % 64) := by
  have h : nI a - nI b = nI (a + (4294967296 - b)) := by
    rw [← nI_add]
    have h2 : nI (4294967296 - b) = - nI b := by
      have h3 : nI (4294967296 - b) + nI b = 0 := by
        rw [nI_add, show 4294967296 - b + b = 4294967296 by omega]; decide
      have h4 := congrArg (fun z => z - nI b) h3
      simp only [Int32.add_sub_cancel, Int32.zero_sub] at h4
      exact h4
    rw [h2, Int32.sub_eq_add_neg]
  rw [h, pk_and _ 6 (by decide)]
  apply congrArg nI
  show (a + (4294967296 - b)) % 2 ^ 32 % 2 ^ 6 = _
  omega
theorem gw_mod (n i : Nat) (hi : i ≤ 32) {m : Int32} (hm : m.toBitVec.toNat = 2 ^ i - 1) : nI n &&& m = nI (n % 2 ^ i) := by
  rw [pk_and _ i hm]
  apply congrArg nI
  show n % 2 ^ 32 % 2 ^ i = n % 2 ^ i
  exact Nat.mod_mod_of_dvd _ (Nat.pow_dvd_pow 2 hi)
/-- the content of a frame, and the whole word; B holds the cells -/
def gw_c (B : Nat → Nat) (f : gb_F) : Nat := 131072 * (f.1.2 % 64) + (2048 * (if f.2.1 = true then f.1.1 % 64 else 0) + (1024 * (if f.2.2 = true then 1 else 0) + (if f.2.1 = true then 512 + B f.1.1 else 0)))
def gw_w (B : Nat → Nat) (f : gb_F) : Nat := gw_c B f + gc_crc (gw_c B f) * 8388608
theorem gw_dec {B : Nat → Nat} {f : gb_F} (h : ∀ j, B j < 512) : gw_c B f < 8388608 ∧ gw_c B f / 131072 % 64 = f.1.2 % 64 ∧ gw_c B f / 512 % 2 = (if f.2.1 = true then 1 else 0) ∧ gw_c B f / 1024 % 2 = (if f.2.2 = true then 1 else 0) ∧ (f.2.1 = true → gw_c B f / 2048 % 64 = f.1.1 % 64 ∧ gw_c B f % 512 = B f.1.1) := by
  have hb := h f.1.1
  unfold gw_c
  generalize B f.1.1 = b at hb ⊢
  generalize f.1.1 = n
  generalize f.1.2 = e
  generalize f.2.1 = d
  generalize f.2.2 = a
  cases d <;> cases a <;> simp only [Bool.false_eq_true, if_false, if_true, false_imp_iff, true_imp_iff, and_true] <;> omega
theorem gw_wd {B : Nat → Nat} {f : gb_F} (h : ∀ j, B j < 512) : gw_w B f % 8388608 = gw_c B f ∧ gw_w B f / 8388608 = gc_crc (gw_c B f) ∧ gw_w B f < 2147483648 := by
  have h1 := (gw_dec (f := f) h).1
  have h2 : gc_crc (gw_c B f) < 256 := gc_crc_lt h1
  unfold gw_w
  generalize gc_crc (gw_c B f) = r at h2 ⊢
  generalize gw_c B f = c at h1 ⊢
  omega
theorem gw_same {B B' : Nat → Nat} {f : gb_F} (h : f.2.1 = true → B f.1.1 = B' f.1.1) : gw_w B f = gw_w B' f := by
  have e : gw_c B f = gw_c B' f := by
    unfold gw_c
    by_cases hd : f.2.1 = true
    · rw [h hd]
    · rw [if_neg hd, if_neg hd, if_neg hd]
  unfold gw_w
  rw [e]
end
section
/- the picture of both stations, and each step of the line upon it -/
def gb_u {α : Type} (f : Nat → α) (k : Nat) (x : α) : Nat → α := fun j => if j = k then x else f j
theorem gb_us {α : Type} {f : Nat → α} {k : Nat} {x : α} : gb_u f k x k = x := if_pos rfl
theorem gb_un {α : Type} {f : Nat → α} {k j : Nat} {x : α} (h : j ≠ k) : gb_u f k x j = f j := if_neg h
theorem gb_uid {α : Type} (f : Nat → α) (k : Nat) : gb_u f k (f k) = f := by
  funext j
  unfold gb_u
  split
  · rename_i h; rw [h]
  · rfl
theorem gb_uI (f : Nat → Nat) (k x : Nat) : upd (fun j => nI (f j)) k (nI x) = fun j => nI (gb_u f k x j) := by
  funext j; unfold upd gb_u; dsimp only; split <;> rfl
def gs_bi (b : Bool) : Int32 := if b = true then 1 else 0
theorem gb_uB (f : Nat → Bool) (k : Nat) (x : Bool) : upd (fun j => gs_bi (f j)) k (gs_bi x) = fun j => gs_bi (gb_u f k x j) := by
  funext j; unfold upd gb_u; dsimp only; split <;> rfl
def gs_p (s o : Nat) : Prop := (s = 0 ∧ o = 1) ∨ (s = 1 ∧ o = 0)
theorem gs_sw {s o : Nat} (h : gs_p s o) : gs_p o s := by unfold gs_p at *; omega
theorem gs_ne {s o : Nat} (h : gs_p s o) : s ≠ o := by unfold gs_p at *; omega
theorem gs_two {s o a b : Nat} (h : gs_p s o) (h2 : gs_p a b) : (a = s ∧ b = o) ∨ (a = o ∧ b = s) := by unfold gs_p at *; omega
/-- the words l lie on the line of s from place o on -/
def gl_At (ln : Nat → Int32) (s : Nat) : Nat → List Nat → Prop
  | _, [] => True
  | o, w :: l => ln (32 * s + o % 32) = nI w ∧ gl_At ln s (o + 1) l
theorem gl_fr {ln : Nat → Int32} {s p : Nat} {x : Int32} : ∀ (l : List Nat) (o : Nat), (∀ i, i < l.length → 32 * s + (o + i) % 32 ≠ p) → gl_At ln s o l → gl_At (upd ln p x) s o l := by
  intro l
  induction l with
  | nil => intro o _ _; trivial
  | cons w l ih =>
    intro o h hl
    refine ⟨?_, ih (o + 1) (fun i hi => ?_) hl.2⟩
    · have h0 : 32 * s + o % 32 ≠ p := h 0 (Nat.zero_lt_succ _)
      rw [pk_un h0]; exact hl.1
    · have h3 := h (i + 1) (Nat.succ_lt_succ hi)
      rw [show o + 1 + i = o + (i + 1) by omega]; exact h3
theorem gl_app {ln : Nat → Int32} {s w : Nat} : ∀ (l : List Nat) (o : Nat), gl_At ln s o l → ln (32 * s + (o + l.length) % 32) = nI w → gl_At ln s o (l ++ [w]) := by
  intro l
  induction l with
  | nil => intro o _ h; exact ⟨h, trivial⟩
  | cons a l ih =>
    intro o hl h
    refine ⟨hl.1, ih (o + 1) hl.2 ?_⟩
    rw [List.length_cons] at h
    rw [show o + 1 + l.length = o + (l.length + 1) by omega]; exact h
theorem gl_put {ln : Nat → Int32} {s w o : Nat} {l : List Nat} (h : gl_At ln s o l) (hl : l.length < 32) : gl_At (upd ln (32 * s + (o + l.length) % 32) (nI w)) s o (l ++ [w]) :=
  gl_app l o (gl_fr l o (fun i hi => by omega) h) pk_us
theorem gl_oth {ln : Nat → Int32} {s t o x : Nat} {v : Int32} {l : List Nat} (hs : gs_p s t) (h : gl_At ln t o l) : gl_At (upd ln (32 * s + x % 32) v) t o l :=
  gl_fr l o (fun i _ => by unfold gs_p at hs; omega) h
def gs_D (w : Nat) (ob : Nat → Int32) (G C T : Nat → Nat) (ib : Nat → Int32) (R K : Nat → Nat) (ln : Nat → Int32) (O N : Nat → Nat) (L : Nat → List gb_F) (B : Nat → Nat → Nat) (s o : Nat) : Prop :=
  gb_DS (G s) (C s) (T s) (R o) (K o) (L s) (L o) ∧ (N s = (L s).length ∧ (L s).length ≤ w ∧ G s ≤ 4000) ∧ gl_At ln s (O s) ((L s).map (gw_w (B s))) ∧ (∀ j, K o ≤ j → j < G s → ob (32 * s + j % 32) = nI (B s j)) ∧ (∀ j, K o ≤ j → j < R o → ib (32 * o + j % 32) = nI (B s j)) ∧ (∀ j, B s j < 512)
def gs_Ok (w : Nat) (ob : Nat → Int32) (G C T : Nat → Nat) (ib : Nat → Int32) (R K : Nat → Nat) (ln : Nat → Int32) (O N : Nat → Nat) (L : Nat → List gb_F) (B : Nat → Nat → Nat) : Prop :=
  (1 ≤ w ∧ w ≤ 32) ∧ ∀ s o, gs_p s o → gs_D w ob G C T ib R K ln O N L B s o
def gs_mu (G T R : Nat → Nat) (ow ak : Nat → Bool) (L : Nat → List gb_F) : Nat :=
  gb_mu (G 0) (T 0) (R 1) (ow 1) (ak 1) (L 0) (L 1) + gb_mu (G 1) (T 1) (R 0) (ow 0) (ak 0) (L 1) (L 0)
def gs_Zd (G C T R : Nat → Nat) (ow ak : Nat → Bool) (L : Nat → List gb_F) (s o : Nat) : Prop :=
  gb_Z (G s) (C s) (T s) (R o) (ow o) (ak o) (L s) (L o)
def gs_Sat (G T : Nat → Nat) (ow ak : Nat → Bool) (L : Nat → List gb_F) (s : Nat) : Prop :=
  L s = [] → T s = G s ∧ ow s = false ∧ ak s = false
section
variable {w : Nat} {ob : Nat → Int32} {G C T : Nat → Nat} {ib : Nat → Int32} {R K : Nat → Nat} {ln : Nat → Int32} {O N : Nat → Nat} {L : Nat → List gb_F} {B : Nat → Nat → Nat} {s o : Nat} {ow ak : Nat → Bool}
theorem gs_mu_p (p : gs_p s o) : gs_mu G T R ow ak L = gb_mu (G s) (T s) (R o) (ow o) (ak o) (L s) (L o) + gb_mu (G o) (T o) (R s) (ow s) (ak s) (L o) (L s) := by
  rcases p with ⟨rfl, rfl⟩ | ⟨rfl, rfl⟩
  · rfl
  · exact Nat.add_comm _ _
theorem gs_setT {t : Nat} (h : gs_Ok w ob G C T ib R K ln O N L B) (p : gs_p s o) (ht : C s ≤ t ∧ t ≤ G s) : gs_Ok w ob G C (gb_u T s t) ib R K ln O N L B := by
  refine ⟨h.1, fun a b q => ?_⟩
  have hD := h.2 a b q
  unfold gs_D at hD ⊢
  rcases gs_two p q with ⟨rfl, rfl⟩ | ⟨rfl, rfl⟩
  · rw [gb_us]
    exact ⟨⟨by have := hD.1.1; omega, hD.1.2⟩, hD.2⟩
  · rw [gb_un (gs_ne q)]
    exact hD
theorem gs_put {f : gb_F} (h : gs_Ok w ob G C T ib R K ln O N L B) (p : gs_p s o) (hN : N s < w) (hd : f.2.1 = true → K o ≤ f.1.1 ∧ f.1.1 < G s) (he : K s ≤ f.1.2 ∧ f.1.2 ≤ R s) : gs_Ok w ob G C T ib R K (upd ln (32 * s + (O s + N s) % 32) (nI (gw_w (B s) f))) O (gb_u N s (N s + 1)) (gb_u L s (L s ++ [f])) B := by
  refine ⟨h.1, fun a b q => ?_⟩
  have hD := h.2 a b q
  have hw := h.1
  unfold gs_D at hD ⊢
  obtain ⟨d1, d2, d3, d4, d5, d6⟩ := hD
  rcases gs_two p q with ⟨rfl, rfl⟩ | ⟨rfl, rfl⟩
  · simp only [gb_us, gb_un (gs_ne (gs_sw q))]
    refine ⟨gb_ys_DS d1 hd, ⟨?_, ?_, d2.2.2⟩, ?_, d4, d5, d6⟩
    · rw [List.length_append, d2.1]; rfl
    · rw [List.length_append]; show (L a).length + 1 ≤ w; omega
    · rw [List.map_append]
      have e : N a = ((L a).map (gw_w (B a))).length := by rw [List.length_map]; exact d2.1
      rw [e]
      exact gl_put d3 (by rw [← e]; omega)
  · simp only [gb_us, gb_un (gs_ne q)]
    exact ⟨gb_yo_DS d1 he, d2, gl_oth p d3, d4, d5, d6⟩
theorem gs_head {f : gb_F} {t : List gb_F} (h : gs_Ok w ob G C T ib R K ln O N L B) (p : gs_p s o) (hL : L s = f :: t) : ln (32 * s + O s % 32) = nI (gw_w (B s) f) ∧ (f.2.1 = true → K o ≤ f.1.1 ∧ f.1.1 < G s) ∧ (K s ≤ f.1.2 ∧ f.1.2 ≤ R s) ∧ N s = t.length + 1 ∧ t.length + 1 ≤ w := by
  have hD := h.2 s o p
  have hE := h.2 o s (gs_sw p)
  unfold gs_D at hD hE
  rw [hL] at hD hE
  obtain ⟨d1, d2, d3, _⟩ := hD
  exact ⟨d3.1, d1.2.1 f List.mem_cons_self, hE.1.2.2 f List.mem_cons_self, d2.1, d2.2.1⟩
theorem gs_pop {f : gb_F} {t : List gb_F} (h : gs_Ok w ob G C T ib R K ln O N L B) (p : gs_p s o) (hL : L s = f :: t) : gs_Ok w ob G C T ib R K ln (gb_u O s (O s + 1)) (gb_u N s t.length) (gb_u L s t) B := by
  refine ⟨h.1, fun a b q => ?_⟩
  have hD := h.2 a b q
  unfold gs_D at hD ⊢
  rcases gs_two p q with ⟨rfl, rfl⟩ | ⟨rfl, rfl⟩
  · rw [hL] at hD
    obtain ⟨d1, d2, d3, d4, d5, d6⟩ := hD
    simp only [gb_us, gb_un (gs_ne (gs_sw q))]
    exact ⟨gb_xs_DS d1, ⟨trivial, Nat.le_trans (Nat.le_succ _) d2.2.1, d2.2.2⟩, d3.2, d4, d5, d6⟩
  · rw [hL] at hD
    obtain ⟨d1, d2, d3, d4, d5, d6⟩ := hD
    simp only [gb_us, gb_un (gs_ne q)]
    exact ⟨gb_xo_DS d1, d2, d3, d4, d5, d6⟩
theorem gs_rc {f : gb_F} (h : gs_Ok w ob G C T ib R K ln O N L B) (p : gs_p s o) (he : K s ≤ f.1.2 ∧ f.1.2 ≤ R s) : gs_Ok w ob G (gb_u C o (gb_C (C o) f)) (gb_u T o (gb_T (C o) (T o) f)) ib R K ln O N L B := by
  refine ⟨h.1, fun a b q => ?_⟩
  have hD := h.2 a b q
  unfold gs_D at hD ⊢
  rcases gs_two p q with ⟨rfl, rfl⟩ | ⟨rfl, rfl⟩
  · rw [gb_un (gs_ne q), gb_un (gs_ne q)]
    exact hD
  · rw [gb_us, gb_us]
    exact ⟨gb_rc_DS hD.1 he, hD.2⟩
theorem gs_rd {f : gb_F} (h : gs_Ok w ob G C T ib R K ln O N L B) (p : gs_p s o) (hd : f.2.1 = true) (hn : f.1.1 = R o) (hG : R o < G s) : gs_Ok w ob G C T (upd ib (32 * o + R o % 32) (nI (B s f.1.1))) (gb_u R o (R o + 1)) K ln O N L B := by
  refine ⟨h.1, fun a b q => ?_⟩
  have hD := h.2 a b q
  unfold gs_D at hD ⊢
  obtain ⟨d1, d2, d3, d4, d5, d6⟩ := hD
  rcases gs_two p q with ⟨rfl, rfl⟩ | ⟨rfl, rfl⟩
  · rw [gb_us]
    have e : gb_R (R b) f = R b + 1 := by unfold gb_R; exact if_pos ⟨hd, hn⟩
    have k := gb_rd_DS d1 (f := f) (fun _ => by have := d1.1; omega)
    rw [e] at k
    refine ⟨k, d2, d3, d4, ?_, d6⟩
    intro j h1 h2
    rcases Nat.lt_or_ge j (R b) with h3 | h3
    · rw [pk_un (by have := d1.1; omega)]
      exact d5 j h1 h3
    · have h4 : j = R b := by omega
      rw [h4, pk_us, hn]
  · rw [gb_un (gs_ne p)]
    exact ⟨d1, d2, d3, d4, fun j h1 h2 => by rw [pk_un (by unfold gs_p at p; omega)]; exact d5 j h1 h2, d6⟩
theorem gs_K {k : Nat} (h : gs_Ok w ob G C T ib R K ln O N L B) (p : gs_p s o) (hs : L s = []) (ho : L o = []) (hk : K o ≤ k ∧ k ≤ C s) : gs_Ok w ob G C T ib R (gb_u K o k) ln O N L B := by
  refine ⟨h.1, fun a b q => ?_⟩
  have hD := h.2 a b q
  unfold gs_D at hD ⊢
  obtain ⟨d1, d2, d3, d4, d5, d6⟩ := hD
  rcases gs_two p q with ⟨rfl, rfl⟩ | ⟨rfl, rfl⟩
  · rw [gb_us]
    refine ⟨⟨by have := d1.1; omega, ?_, ?_⟩, d2, d3, fun j h1 h2 => d4 j (by omega) h2, fun j h1 h2 => d5 j (by omega) h2, d6⟩
    · rw [hs]; intro g hg; cases hg
    · rw [ho]; intro g hg; cases hg
  · rw [gb_un (gs_ne (gs_sw q))]
    exact ⟨d1, d2, d3, d4, d5, d6⟩
theorem gs_give {c : Nat} (h : gs_Ok w ob G C T ib R K ln O N L B) (p : gs_p s o) (hG : G s < K o + 30) (hM : G s < 4000) (hc : c < 512) : gs_Ok w (upd ob (32 * s + G s % 32) (nI c)) (gb_u G s (G s + 1)) C T ib R K ln O N L (gb_u B s (gb_u (B s) (G s) c)) := by
  refine ⟨h.1, fun a b q => ?_⟩
  have hD := h.2 a b q
  unfold gs_D at hD ⊢
  obtain ⟨d1, d2, d3, d4, d5, d6⟩ := hD
  rcases gs_two p q with ⟨rfl, rfl⟩ | ⟨rfl, rfl⟩
  · simp only [gb_us]
    have hne : ∀ j, j < G a → gb_u (B a) (G a) c j = B a j := fun j hj => gb_un (by omega)
    refine ⟨⟨by have := d1.1; omega, fun g hg hd => ?_, d1.2.2⟩, ⟨d2.1, d2.2.1, by omega⟩, ?_, ?_, ?_, ?_⟩
    · have := d1.2.1 g hg hd; omega
    · have e : (L a).map (gw_w (gb_u (B a) (G a) c)) = (L a).map (gw_w (B a)) := by
        apply List.map_congr_left
        intro g hg
        exact gw_same (fun hd => hne _ (d1.2.1 g hg hd).2)
      rw [e]; exact d3
    · intro j h1 h2
      rcases Nat.lt_or_ge j (G a) with h3 | h3
      · rw [pk_un (by omega), hne j h3]; exact d4 j h1 h3
      · have h4 : j = G a := by omega
        rw [h4, pk_us, gb_us]
    · intro j h1 h2
      rw [hne j (by have := d1.1; omega)]; exact d5 j h1 h2
    · intro j
      by_cases hj : j = G a
      · rw [hj, gb_us]; exact hc
      · rw [gb_un hj]; exact d6 j
  · simp only [gb_un (gs_ne q)]
    exact ⟨d1, d2, d3, fun j h1 h2 => by rw [pk_un (by unfold gs_p at p; omega)]; exact d4 j h1 h2, d5, d6⟩
theorem gs_fresh (hw : 1 ≤ w ∧ w ≤ 32) (h : ∀ j, j < 2 → (G j = 0 ∧ C j = 0 ∧ T j = 0 ∧ R j = 0) ∧ K j = 0 ∧ N j = 0) : gs_Ok w ob G C T ib R K ln O N (fun _ => []) (fun _ _ => 0) := by
  refine ⟨hw, fun a b q => ?_⟩
  have h1 := h a (by unfold gs_p at q; omega)
  have h2 := h b (by unfold gs_p at q; omega)
  refine ⟨⟨by omega, fun g hg => (by cases hg), fun g hg => (by cases hg)⟩, ⟨h1.2.2, Nat.zero_le w, by omega⟩, trivial, fun j _ hj => ?_, fun j _ hj => ?_, fun j => (by decide : 0 < 512)⟩
  · omega
  · omega
theorem gs_sd_mu (p : gs_p s o) (hT : T s < G s) : gs_mu G (gb_u T s (T s + 1)) R (gb_u ow s false) (gb_u ak s false) (gb_u L s (L s ++ [((T s, R s), (true, ak s))])) ≤ gs_mu G T R ow ak L := by
  rw [gs_mu_p p, gs_mu_p p]
  simp only [gb_us, gb_un (gs_ne (gs_sw p))]
  have h1 := gb_sd_mu (R := R o) (ow := ow o) (ak := ak o) (Ls := L s) (Lo := L o) (e := R s) (a := ak s) hT
  have h2 := gb_so_mu (G := G o) (T := T o) (R := R s) (ow := ow s) (ak := ak s) (Ls := L o) (Lo := L s) (n := T s) (e := R s) (d := true)
  omega
theorem gs_sn_mu (p : gs_p s o) (hf : (ow s || ak s) = true) : gs_mu G T R (gb_u ow s false) (gb_u ak s false) (gb_u L s (L s ++ [((0, R s), (false, ak s))])) ≤ gs_mu G T R ow ak L := by
  rw [gs_mu_p p, gs_mu_p p]
  simp only [gb_us, gb_un (gs_ne (gs_sw p))]
  have h1 := gb_sn_mu (G := G s) (T := T s) (R := R o) (ow := ow o) (ak := ak o) (Ls := L s) (Lo := L o) (n := 0) (e := R s) (a := ak s)
  have h2 := gb_so_mu (G := G o) (T := T o) (R := R s) (ow := ow s) (ak := ak s) (Ls := L o) (Lo := L s) (n := 0) (e := R s) (d := false)
  have h3 : gb_b (ow s || ak s) = 1 := by rw [hf]; rfl
  omega
theorem gs_sd_Z (h : gs_Ok w ob G C T ib R K ln O N L B) (p : gs_p s o) {a b : Nat} (q : gs_p a b) (z : gs_Zd G C T R ow ak L a b) : gs_Zd G C (gb_u T s (T s + 1)) R (gb_u ow s false) (gb_u ak s false) (gb_u L s (L s ++ [((T s, R s), (true, ak s))])) a b := by
  have hD := (h.2 a b q).1
  unfold gs_Zd at z ⊢
  rcases gs_two p q with ⟨rfl, rfl⟩ | ⟨rfl, rfl⟩
  · simp only [gb_us, gb_un (gs_ne (gs_sw q))]
    exact gb_sd_Z z
  · simp only [gb_us, gb_un (gs_ne q)]
    exact gb_so_Z hD z
theorem gs_sn_Z (h : gs_Ok w ob G C T ib R K ln O N L B) (p : gs_p s o) {a b : Nat} (q : gs_p a b) (z : gs_Zd G C T R ow ak L a b) : gs_Zd G C T R (gb_u ow s false) (gb_u ak s false) (gb_u L s (L s ++ [((0, R s), (false, ak s))])) a b := by
  have hD := (h.2 a b q).1
  unfold gs_Zd at z ⊢
  rcases gs_two p q with ⟨rfl, rfl⟩ | ⟨rfl, rfl⟩
  · simp only [gb_us, gb_un (gs_ne (gs_sw q))]
    exact gb_sn_Z z
  · simp only [gb_us, gb_un (gs_ne q)]
    exact gb_so_Z hD z
/-- the oldest frame of s arrives -/
theorem gs_ar_mu {f : gb_F} {t : List gb_F} (h : gs_Ok w ob G C T ib R K ln O N L B) (p : gs_p s o) (hL : L s = f :: t) : gs_mu G (gb_u T o (gb_T (C o) (T o) f)) (gb_u R o (gb_R (R o) f)) (gb_u ow o (ow o || f.2.1)) (gb_u ak o (gb_ak (R o) (ak o) f)) (gb_u L s t) + 1 ≤ gs_mu G T R ow ak L := by
  have hE := (h.2 o s (gs_sw p)).1
  rw [gs_mu_p p, gs_mu_p p]
  simp only [gb_us, gb_un (gs_ne p), gb_un (gs_ne (gs_sw p))]
  rw [hL] at hE ⊢
  have h1 := gb_pd_mu (G := G s) (T := T s) (R := R o) (ow := ow o) (ak := ak o) (f := f) (t := t) (Lo := L o)
  have h2 := gb_pc_mu (ow := ow s) (ak := ak s) hE
  omega
theorem gs_ar_Z {f : gb_F} {t : List gb_F} (h : gs_Ok w ob G C T ib R K ln O N L B) (p : gs_p s o) (hL : L s = f :: t) {a b : Nat} (q : gs_p a b) (z : gs_Zd G C T R ow ak L a b) : gs_Zd G (gb_u C o (gb_C (C o) f)) (gb_u T o (gb_T (C o) (T o) f)) (gb_u R o (gb_R (R o) f)) (gb_u ow o (ow o || f.2.1)) (gb_u ak o (gb_ak (R o) (ak o) f)) (gb_u L s t) a b := by
  have hD := (h.2 a b q).1
  unfold gs_Zd at z ⊢
  rcases gs_two p q with ⟨rfl, rfl⟩ | ⟨rfl, rfl⟩
  · simp only [gb_us, gb_un (gs_ne q), gb_un (gs_ne (gs_sw q))]
    rw [hL] at hD z
    exact gb_pd_Z hD z
  · simp only [gb_us, gb_un (gs_ne q), gb_un (gs_ne (gs_sw q))]
    rw [hL] at hD z
    exact gb_pc_Z hD z
theorem gs_bk_Z (h : gs_Ok w ob G C T ib R K ln O N L B) (p : gs_p s o) : gs_Zd G C (gb_u T s (C s)) R ow ak L s o := by
  unfold gs_Zd
  rw [gb_us]
  exact gb_bk_Z (h.2 s o p).1
theorem gs_bk_Zo (p : gs_p s o) {t : Nat} (z : gs_Zd G C T R ow ak L o s) : gs_Zd G C (gb_u T s t) R ow ak L o s := by
  unfold gs_Zd at z ⊢
  rw [gb_un (gs_ne (gs_sw p))]
  exact z
theorem gs_mu_le (h : gs_Ok w ob G C T ib R K ln O N L B) : gs_mu G T R ow ak L ≤ 11650 := by
  have p : gs_p 0 1 := Or.inl ⟨rfl, rfl⟩
  have h0 := h.2 0 1 p
  have h1 := h.2 1 0 (gs_sw p)
  have hw := h.1
  have l0 := h0.2.1
  have l1 := h1.2.1
  have m0 := gb_mu_le (ow := ow 1) (ak := ak 1) h0.1 (by omega) (by omega)
  have m1 := gb_mu_le (ow := ow 0) (ak := ak 0) h1.1 (by omega) (by omega)
  unfold gs_mu
  omega
/-- dry lines, nothing left to send, nothing lost: all is confirmed -/
theorem gs_fin (h : gs_Ok w ob G C T ib R K ln O N L B) (p : gs_p s o) (hs : L s = []) (ho : L o = []) (ss : gs_Sat G T ow ak L s) (so : gs_Sat G T ow ak L o) (z : gs_Zd G C T R ow ak L s o) : C s = G s ∧ R o = G s := by
  have hD := (h.2 s o p).1
  have e1 := ss hs
  have e2 := so ho
  unfold gs_Zd at z
  rw [hs, ho, e1.1] at hD z
  rw [e2.2.1, e2.2.2] at z
  exact gb_fin hD z
end
end
section
/- numbers -/
theorem gn_place (s n : Nat) : nI s * 32 + (nI n &&& 31) = nI (32 * s + n % 32) := by
  rw [gw_mod n 5 (by decide) (by decide)]
  show nI s * nI 32 + nI (n % 2 ^ 5) = _
  rw [pk_mul, nI_add]
  exact congrArg nI (by omega)
/-- 64 numbers tell an old confirmation from a new one -/
theorem gn_news {K C R G e : Nat} (h : K ≤ C ∧ C ≤ R ∧ R ≤ G ∧ G ≤ K + 30) (he : K ≤ e ∧ e ≤ R) : ((e % 64 + 63 * C) % 64 ≤ G - C ↔ C ≤ e) ∧ (C ≤ e → C + (e % 64 + 63 * C) % 64 = e) := by
  omega
theorem gn_ahead {K R G n : Nat} (h : K ≤ R ∧ R ≤ G ∧ G ≤ K + 30) (hn : K ≤ n ∧ n < G) : ((n % 64 + 63 * R) % 64 = 0 ↔ n = R) ∧ ((n % 64 + 63 * R) % 64 < 32 ↔ R ≤ n) := by
  omega
theorem gn_i31 : (31 : Int32).toInt = 31 := by decide
theorem gn_fit {r : Int32} (h0 : 0 ≤ r.toInt) (h1 : r.toInt < 31) : ∃ k, k < 31 ∧ r = nI k := by
  have hz : ¬ r < 0 := by
    rw [Int32.lt_iff_toInt_lt, show (0 : Int32).toInt = 0 from by decide]; omega
  obtain ⟨j, hj, rfl⟩ := nI_of hz
  rw [nI_toInt hj] at h1
  exact ⟨j, by omega, rfl⟩
theorem gn_pif (x : Int32) : (x - x / 31 * 31 < 0 → ∃ k, k < 31 ∧ x - x / 31 * 31 + 31 = nI k) ∧ (¬ x - x / 31 * 31 < 0 → ∃ k, k < 31 ∧ x - x / 31 * 31 = nI k) := by
  have h := rem_toInt x 31
  have t := tmod_bounds (a := x.toInt) (M := 31) (by decide)
  rw [gn_i31] at h
  rw [← h] at t
  generalize x - x / 31 * 31 = r at t
  constructor
  · intro hr
    rw [Int32.lt_iff_toInt_lt, show (0 : Int32).toInt = 0 from by decide] at hr
    apply gn_fit
    · rw [Int32.toInt_add, gn_i31, Int.bmod_eq_of_le (by omega) (by omega)]; omega
    · rw [Int32.toInt_add, gn_i31, Int.bmod_eq_of_le (by omega) (by omega)]; omega
  · intro hr
    rw [Int32.lt_iff_toInt_lt, show (0 : Int32).toInt = 0 from by decide] at hr
    exact gn_fit (by omega) t.2
/- the check's loop -/
theorem gn_sh {b : Nat} (hb : b < 32) : ((nI b &&& 31).toBitVec.smod 32).toNat = b := s_l b hb
theorem gn_cbit {r b : Nat} (hr : r < 2147483648) (hb : b < 23) : ((nI r >>> (nI (b + 8) &&& 31)) &&& 1) = 0 ↔ r.testBit (b + 8) = false := by
  rw [pk_shrN hr _ (b + 8) (gn_sh (by omega))]
  have h := gw_bit (r / 2 ^ (b + 8)) 0 (by decide)
  have e : (nI (2 ^ 0) : Int32) = 1 := by decide
  rw [e] at h
  rw [h, Nat.testBit_eq_decide_div_mod_eq, decide_eq_false_iff_not]
  generalize r / 2 ^ (b + 8) = z
  omega
theorem gn_cst {r b : Nat} (hb : b < 23) : nI r ^^^ ((263 : Int32) <<< (nI b &&& 31)) = nI (r ^^^ (263 * 2 ^ b)) := by
  have h : (263 : Int32) <<< (nI b &&& 31) = nI (263 * 2 ^ b) := by
    have h2 : 2 ^ b ≤ 2 ^ 22 := Nat.pow_le_pow_right (by decide) (by omega)
    exact pk_shlN (n := 263) _ b (gn_sh (by omega)) (by omega)
  rw [h, nx_xor]
theorem gn_clt {r b : Nat} (hr : r < 2147483648) (hb : b < 23) : gc_st b r < 2147483648 := by
  unfold gc_st
  split
  · have h2 : 2 ^ b ≤ 2 ^ 22 := Nat.pow_le_pow_right (by decide) (by omega)
    exact Nat.xor_lt_two_pow (n := 31) hr (by omega)
  · exact hr
theorem gn_c8 {c : Nat} (h : c < 8388608) : nI c <<< ((8 : Int32) &&& 31) = nI (c * 2 ^ 8) :=
  pk_shlN _ 8 (gn_sh (b := 8) (by decide)) (by omega)
theorem gn_c23 {r : Nat} (h : r < 256) : nI r <<< ((23 : Int32) &&& 31) = nI (r * 8388608) :=
  pk_shlN _ 23 (gn_sh (b := 23) (by decide)) (by omega)
theorem gn_s17 {r : Nat} : (nI r &&& 63) <<< ((17 : Int32) &&& 31) = nI (131072 * (r % 64)) := by
  rw [gw_mod r 6 (by decide) (by decide), pk_shlN (n := r % 2 ^ 6) ((17 : Int32) &&& 31) 17 (by decide) (by omega)]
  exact congrArg nI (by omega)
theorem gn_s11 {r : Nat} : (nI r &&& 63) <<< ((11 : Int32) &&& 31) = nI (2048 * (r % 64)) := by
  rw [gw_mod r 6 (by decide) (by decide), pk_shlN (n := r % 2 ^ 6) ((11 : Int32) &&& 31) 11 (by decide) (by omega)]
  exact congrArg nI (by omega)
theorem gn_r17 {c : Nat} (h : c < 8388608) : (nI c >>> ((17 : Int32) &&& 31)) &&& 63 = nI (c / 131072 % 64) := by
  rw [pk_shrN (n := c) (by omega) ((17 : Int32) &&& 31) 17 (by decide), gw_mod _ 6 (by decide) (by decide)]
theorem gn_r11 {c : Nat} (h : c < 8388608) : (nI c >>> ((11 : Int32) &&& 31)) &&& 63 = nI (c / 2048 % 64) := by
  rw [pk_shrN (n := c) (by omega) ((11 : Int32) &&& 31) 11 (by decide), gw_mod _ 6 (by decide) (by decide)]
theorem gn_r23 {c : Nat} (h : c < 2147483648) : nI c >>> ((23 : Int32) &&& 31) = nI (c / 8388608) :=
  pk_shrN (by omega) _ 23 (gn_sh (b := 23) (by decide))
theorem gn_m23 (c : Nat) : nI c &&& 8388607 = nI (c % 8388608) := gw_mod c 23 (by decide) (by decide)
theorem gn_m9 (c : Nat) : nI c &&& 511 = nI (c % 512) := gw_mod c 9 (by decide) (by decide)
theorem gn_m8 (c : Nat) : nI c &&& 255 = nI (c % 256) := gw_mod c 8 (by decide) (by decide)
theorem gn_b8 (c : Nat) : (nI c &&& 256) = 0 ↔ c / 256 % 2 = 0 := gw_bit c 8 (by decide)
theorem gn_b9 (c : Nat) : (nI c &&& 512) = 0 ↔ c / 512 % 2 = 0 := gw_bit c 9 (by decide)
theorem gn_b10 (c : Nat) : (nI c &&& 1024) = 0 ↔ c / 1024 % 2 = 0 := gw_bit c 10 (by decide)
theorem gn_flip {c k : Nat} (hk : k < 31) : nI c ^^^ ((1 : Int32) <<< (nI k &&& 31)) = nI (c ^^^ 2 ^ k) := by
  have h2 : 2 ^ k ≤ 2 ^ 30 := Nat.pow_le_pow_right (by decide) (by omega)
  have h : (1 : Int32) <<< (nI k &&& 31) = nI (2 ^ k) := by
    have h3 := pk_shlN (n := 1) (nI k &&& 31) k (gn_sh (by omega)) (by omega)
    rw [Nat.one_mul] at h3
    exact h3
  rw [h, nx_xor]
theorem gn_bi (b : Bool) : gs_bi b = 0 ↔ b = false := by cases b <;> decide
theorem gn_neg {a b : Nat} (ha : a < 2 ^ 30) (hb : b < 2 ^ 30) : nI a - nI b < 0 ↔ a < b := by
  rw [Int32.lt_iff_toInt_lt, pk_sub_toInt ha hb, show (0 : Int32).toInt = 0 from by decide]
  omega
end
section
/- the state, what a walk leaves behind, and the reference's state beside it -/
abbrev gs_U (w : Nat) (ob : Nat → Int32) (G C T : Nat → Nat) (ib : Nat → Int32) (R K : Nat → Nat) (ow ak : Nat → Bool) (ln : Nat → Int32) (O N : Nat → Nat) : SX :=
  (nI w, ob, fun j => nI (G j), fun j => nI (C j), fun j => nI (T j), ib, fun j => nI (R j), fun j => nI (K j), fun j => gs_bi (ow j), fun j => gs_bi (ak j), ln, fun j => nI (O j), fun j => nI (N j))
def gs_Post (w : Nat) (ob : Nat → Int32) (G K : Nat → Nat) (B : Nat → Nat → Nat) (m : Nat) (zz ss : Nat → Prop) (post : SX → Prop) : Prop :=
  ∀ (C T : Nat → Nat) (ib : Nat → Int32) (R : Nat → Nat) (ow ak : Nat → Bool) (ln : Nat → Int32) (O N : Nat → Nat) (L : Nat → List gb_F),
    gs_Ok w ob G C T ib R K ln O N L B → gs_mu G T R ow ak L ≤ m → (∀ s o, gs_p s o → zz s → gs_Zd G C T R ow ak L s o) → (∀ s, ss s → gs_Sat G T ow ak L s) → post (gs_U w ob G C T ib R K ow ak ln O N)
theorem gs_Post_w {w : Nat} {ob : Nat → Int32} {G K : Nat → Nat} {B : Nat → Nat → Nat} {m m' : Nat} {zz zz' ss ss' : Nat → Prop} {post : SX → Prop} (h : gs_Post w ob G K B m zz ss post) (hm : m' ≤ m) (hz : ∀ s, zz s → zz' s) (hs : ∀ s, ss s → ss' s) : gs_Post w ob G K B m' zz' ss' post :=
  fun C T ib R ow ak ln O N L h1 h2 h3 h4 => h C T ib R ow ak ln O N L h1 (Nat.le_trans h2 hm) (fun s o p z => h3 s o p (hz s z)) (fun s z => h4 s (hs s z))
def gs_Fin (w : Nat) (ob : Nat → Int32) (G K : Nat → Nat) (B : Nat → Nat → Nat) (post : SX → Prop) : Prop :=
  ∀ (C T : Nat → Nat) (ib : Nat → Int32) (R : Nat → Nat) (ow ak : Nat → Bool) (ln : Nat → Int32) (O N : Nat → Nat) (L : Nat → List gb_F),
    gs_Ok w ob G C T ib R K ln O N L B → (∀ s, s < 2 → gs_Sat G T ow ak L s ∧ L s = []) → (∀ s o, gs_p s o → C s = G s ∧ R o = G s) → post (gs_U w ob G C T ib R K ow ak ln O N)
def gr_Y (G K : Nat → Nat) (B : Nat → Nat → Nat) (yb mk cn gn : Nat → Int32) : Prop :=
  ∀ s o, gs_p s o → cn o = nI (G s - K o) ∧ gn o = nI (K o) ∧ ∀ i, i < G s - K o → yb (30 * o + i) = nI (B s (K o + i) % 256) ∧ mk (30 * o + i) = nI (B s (K o + i) / 256 % 2)
theorem gr_give {w : Nat} {ob : Nat → Int32} {G C T : Nat → Nat} {ib : Nat → Int32} {R K : Nat → Nat} {ln : Nat → Int32} {O N : Nat → Nat} {L : Nat → List gb_F} {B : Nat → Nat → Nat} {yb mk cn gn : Nat → Int32} {s o b e : Nat} (h : gs_Ok w ob G C T ib R K ln O N L B) (y : gr_Y G K B yb mk cn gn) (p : gs_p s o) (hG : G s < K o + 30) (hb : b < 256) (he : e < 2) : gr_Y (gb_u G s (G s + 1)) K (gb_u B s (gb_u (B s) (G s) (256 * e + b))) (upd yb (30 * o + (G s - K o)) (nI b)) (upd mk (30 * o + (G s - K o)) (nI e)) (upd cn o (nI (G s - K o + 1))) gn := by
  intro x z q
  have hy := y x z q
  have hD := (h.2 x z q).1.1
  rcases gs_two p q with ⟨rfl, rfl⟩ | ⟨rfl, rfl⟩
  · simp only [gb_us]
    refine ⟨?_, hy.2.1, ?_⟩
    · rw [pk_us]; exact congrArg nI (by omega)
    · intro i hi
      rcases Nat.lt_or_ge i (G x - K z) with h3 | h3
      · rw [pk_un (by omega), pk_un (by omega), gb_un (by omega)]
        exact hy.2.2 i h3
      · have e1 : i = G x - K z := by omega
        have e2 : K z + i = G x := by omega
        rw [e2, gb_us, ← e1, pk_us, pk_us]
        exact ⟨congrArg nI (by omega), congrArg nI (by omega)⟩
  · simp only [gb_un (gs_ne q)]
    have hn : z ≠ x := gs_ne (gs_sw q)
    refine ⟨?_, hy.2.1, ?_⟩
    · rw [pk_un hn]; exact hy.1
    · intro i hi
      have hx : ∀ k, k < 30 → 30 * z + i ≠ 30 * x + k := by unfold gs_p at q; intro k hk; omega
      rw [pk_un (hx _ (by omega)), pk_un (hx _ (by omega))]
      exact hy.2.2 i hi
theorem gr_nar {e : Nat} (h : e < 2) : vp_nar .boolean (nI e) = nI e := by
  rcases Nat.lt_or_ge e 1 with h1 | h1
  · rw [show e = 0 by omega]; decide
  · rw [show e = 1 by omega]; decide
theorem gr_off {w : Nat} {ob : Nat → Int32} {G C T : Nat → Nat} {ib : Nat → Int32} {R K : Nat → Nat} {ln : Nat → Int32} {O N : Nat → Nat} {L : Nat → List gb_F} {B : Nat → Nat → Nat} {yb mk cn gn yb' mk' : Nat → Int32} {s o n : Nat} (h : gs_Ok w ob G C T ib R K ln O N L B) (y : gr_Y G K B yb mk cn gn) (p : gs_p s o) (hn : n ≤ G s - K o) (h1 : ∀ i, i + n < 30 → yb' (30 * o + i) = yb (30 * o + i + n) ∧ mk' (30 * o + i) = vp_nar .boolean (mk (30 * o + i + n))) (h2 : ∀ j, (j < 30 * o ∨ 30 * o + 30 ≤ j) → yb' j = yb j ∧ mk' j = mk j) : gr_Y G (gb_u K o (K o + n)) B yb' mk' (upd cn o (nI (G s - K o - n))) (upd gn o (nI (K o + n))) := by
  intro x z q
  have hy := y x z q
  have hD := (h.2 x z q).1.1
  rcases gs_two p q with ⟨rfl, rfl⟩ | ⟨rfl, rfl⟩
  · simp only [gb_us]
    refine ⟨?_, pk_us, ?_⟩
    · rw [pk_us]; exact congrArg nI (by omega)
    · intro i hi
      have a := h1 i (by omega)
      have b := hy.2.2 (i + n) (by omega)
      have e1 : 30 * z + i + n = 30 * z + (i + n) := Nat.add_assoc _ _ _
      have e2 : K z + n + i = K z + (i + n) := by omega
      rw [a.1, a.2, e1, e2, b.1, b.2]
      exact ⟨rfl, gr_nar (Nat.mod_lt _ (by decide))⟩
  · have hn : z ≠ x := gs_ne (gs_sw q)
    rw [gb_un hn, pk_un hn, pk_un hn]
    refine ⟨hy.1, hy.2.1, ?_⟩
    intro i hi
    have a := h2 (30 * z + i) (by unfold gs_p at q; omega)
    rw [a.1, a.2]
    exact hy.2.2 i hi
/- what waits: marks counted, bytes added, the first mark -/
def gr_cnt (c : Nat → Nat) : Nat → Nat
  | 0 => 0
  | n + 1 => gr_cnt c n + c n / 256 % 2
def gr_sum (c : Nat → Nat) : Nat → Nat
  | 0 => 0
  | n + 1 => gr_sum c n + c n % 256
theorem gr_cnt_le (c : Nat → Nat) (n : Nat) : gr_cnt c n ≤ n := by
  induction n with
  | zero => exact Nat.le_refl _
  | succ n ih => show gr_cnt c n + c n / 256 % 2 ≤ n + 1; omega
theorem gr_first (c : Nat → Nat) (n : Nat) : (∃ i, i < n ∧ c i / 256 % 2 = 1 ∧ ∀ j, j < i → c j / 256 % 2 = 0) ∨ (∀ j, j < n → c j / 256 % 2 = 0) := by
  induction n with
  | zero => exact Or.inr (fun j hj => absurd hj (Nat.not_lt_zero j))
  | succ n ih =>
    rcases ih with ⟨i, h1, h2, h3⟩ | h
    · exact Or.inl ⟨i, by omega, h2, h3⟩
    · by_cases hn : c n / 256 % 2 = 1
      · exact Or.inl ⟨n, Nat.lt_succ_self n, hn, h⟩
      · refine Or.inr (fun j hj => ?_)
        rcases Nat.lt_or_ge j n with h4 | h4
        · exact h j h4
        · rw [show j = n by omega]; omega
theorem gr_st (x : Int32) : (∃ s o, gs_p s o ∧ x = nI o) ∨ (¬ x = 0 ∧ ¬ x = 1 ∧ (x < 0 ∨ ¬ x ≤ 1)) := by
  rcases pk_ix x (n := 2) (by decide) with h | h | ⟨j, hj, rfl⟩
  · right
    refine ⟨?_, ?_, Or.inl h⟩
    · intro e; rw [e] at h; exact absurd h (by decide)
    · intro e; rw [e] at h; exact absurd h (by decide)
  · right
    have h2 : ¬ x ≤ 1 := by
      intro e
      exact absurd (Int32.le_trans h e) (by decide)
    refine ⟨?_, ?_, Or.inr h2⟩
    · intro e; rw [e] at h2; exact h2 (by decide)
    · intro e; rw [e] at h2; exact h2 (by decide)
  · left
    rcases Nat.lt_or_ge j 1 with h | h
    · exact ⟨1, j, Or.inr ⟨rfl, by omega⟩, rfl⟩
    · exact ⟨0, j, Or.inl ⟨rfl, by omega⟩, rfl⟩
end
section
/- the small walks: numbers, the check, one frame made, put and read -/
def gs_zz (G C T R : Nat → Nat) (ow ak : Nat → Bool) (L : Nat → List gb_F) (a : Nat) : Prop := ∀ b, gs_p a b → gs_Zd G C T R ow ak L a b
theorem gm_i2 {s o : Nat} (p : gs_p s o) : vp_in (nI s) 2 := vp_in_nI (by unfold gs_p at p; omega) (by decide)
theorem gm_c {s o : Nat} (p : gs_p s o) : (nI s).toNatClampNeg = s := nI_clamp (by unfold gs_p at p; omega)
theorem gm_i64 {s o : Nat} (p : gs_p s o) (n : Nat) : vp_in (nI (32 * s + n % 32)) 64 := vp_in_nI (by unfold gs_p at p; omega) (by decide)
theorem gm_c64 {s o : Nat} (p : gs_p s o) (n : Nat) : (nI (32 * s + n % 32)).toNatClampNeg = 32 * s + n % 32 := nI_clamp (by unfold gs_p at p; omega)
theorem gm_sub {s o : Nat} (p : gs_p s o) : (1 : Int32) - nI s = nI o := by
  rcases p with ⟨rfl, rfl⟩ | ⟨rfl, rfl⟩ <;> decide
theorem gm_n0 : vp_nar .boolean 0 = gs_bi false := by decide
theorem gm_n1 : vp_nar .boolean 1 = gs_bi true := by decide
theorem gm_ui {s o : Nat} (p : gs_p s o) (f : Nat → Nat) (n : Nat) {x : Int32} (hx : x = nI n) : upd (fun j => nI (f j)) (nI s).toNatClampNeg x = fun j => nI (gb_u f s n j) := by
  rw [gm_c p, hx, gb_uI]
theorem gm_ub {s o : Nat} (p : gs_p s o) (f : Nat → Bool) (b : Bool) {x : Int32} (hx : x = gs_bi b) : upd (fun j => gs_bi (f j)) (nI s).toNatClampNeg x = fun j => gs_bi (gb_u f s b j) := by
  rw [gm_c p, hx, gb_uB]
theorem gm_b0 {s o : Nat} (p : gs_p s o) (f : Nat → Bool) (h : f s = false) : (fun j => gs_bi (f j)) (nI s).toNatClampNeg = 0 := by
  rw [gm_c p]; show gs_bi (f s) = 0; rw [h]; rfl
theorem gm_b1 {s o : Nat} (p : gs_p s o) (f : Nat → Bool) (h : f s = true) : ¬ (fun j => gs_bi (f j)) (nI s).toNatClampNeg = 0 := by
  rw [gm_c p]; show ¬ gs_bi (f s) = 0; rw [h]; decide
theorem gm_at {s o : Nat} (p : gs_p s o) (f : Nat → Nat) : (fun j => nI (f j)) (nI s).toNatClampNeg = nI (f s) := congrArg (fun z => nI (f z)) (gm_c p)
theorem gm_place (post : Int32 → Prop) (s n : Nat) (h : post (nI (32 * s + n % 32))) : wpX_place post (nI s) (nI n) := by
  unfold wpX_place
  rw [gn_place]
  exact h
theorem gm_chk_l (post : Int32 → Prop) : ∀ (b r : Nat), r < 2147483648 → b ≤ 23 → post (nI (gc_run b r)) → wX_checkOf_8 post (b + 1) (nI r) (nI (b + 7)) := by
  intro b
  induction b with
  | zero =>
    intro r hr _ hp
    exact br_t (show nI 7 < nI 8 from nI_lt (by decide) (by decide)) hp
  | succ b ih =>
    intro r hr hb hp
    rw [show b + 1 + 7 = b + 8 by omega]
    have h8 : ¬ nI (b + 8) < 8 := nI_nlt (b := 8) (by omega) (by omega)
    have e1 : nI (b + 8) + (-1) = nI (b + 7) := pk_m1 (b + 7)
    have hp' : post (nI (gc_run b (gc_st b r))) := hp
    refine br_f h8 ?_
    cases t : r.testBit (b + 8) with
    | false =>
      have e : gc_st b r = r := by unfold gc_st; rw [t]; exact if_neg (by decide)
      rw [e] at hp'
      exact br_t ((gn_cbit hr (by omega)).mpr t) (nm_r e1 (ih r hr (by omega) hp'))
    | true =>
      have e : gc_st b r = r ^^^ (263 * 2 ^ b) := by unfold gc_st; exact if_pos t
      have hlt := gn_clt (b := b) hr (by omega)
      rw [e] at hp' hlt
      have e2 : nI r ^^^ ((263 : Int32) <<< ((nI (b + 8) - 8) &&& 31)) = nI (r ^^^ (263 * 2 ^ b)) := by
        have e3 : nI (b + 8) - 8 = nI b := pk_sub (a := b + 8) (b := 8) (by omega)
        rw [e3, gn_cst (by omega)]
      have hn : ¬ ((nI r >>> (nI (b + 8) &&& 31)) &&& 1) = 0 := by
        rw [gn_cbit hr (by omega), t]; decide
      exact br_f hn (nm_r e2 (nm_r e1 (ih _ hlt (by omega) hp')))
theorem gm_chk {post : Int32 → Prop} {c : Nat} (hc : c < 8388608) (h : post (nI (gc_crc c))) : wpX_checkOf post (nI c) := by
  refine nm_r (gn_c8 hc) ⟨24, ?_⟩
  exact gm_chk_l post 23 (c * 2 ^ 8) (by omega) (by decide) h
section
variable {w : Nat} {ob : Nat → Int32} {G C T : Nat → Nat} {ib : Nat → Int32} {R K : Nat → Nat} {ow ak : Nat → Bool} {ln : Nat → Int32} {O N : Nat → Nat} {L : Nat → List gb_F} {B : Nat → Nat → Nat} {s o : Nat}
theorem gm_put {post : SX → Prop} (p : gs_p s o) (v : Int32) (h : post (gs_U w ob G C T ib R K ow ak (upd ln (32 * s + (O s + N s) % 32) v) O (gb_u N s (N s + 1)))) : wpX_putOnLine post (gs_U w ob G C T ib R K ow ak ln O N) (nI s) v := by
  refine ⟨gm_i2 p, gm_i2 p, ?_⟩
  have e : nI (O (nI s).toNatClampNeg) + nI (N (nI s).toNatClampNeg) = nI (O s + N s) := by rw [gm_c p, nI_add]
  rw [e]
  refine gm_place _ s (O s + N s) ⟨gm_i64 p _, nm_r (congrArg (fun z => upd ln z v) (gm_c64 p _)) ⟨gm_i2 p, gm_i2 p, nm_r (gm_ui p N (N s + 1) ?_) h⟩⟩
  rw [gm_c p]; exact nI_1 _
theorem gm_next79 {post : Int32 → SX → Prop} (p : gs_p s o) {c : Nat} (hc : c < 8388608) (h : post (nI (c + gc_crc c * 8388608)) (gs_U w ob G C T ib R K (gb_u ow s false) (gb_u ak s false) ln O N)) : wX_nextFrame_79 post (nI s) (nI c) (nI w) ob (fun j => nI (G j)) (fun j => nI (C j)) (fun j => nI (T j)) ib (fun j => nI (R j)) (fun j => nI (K j)) (fun j => gs_bi (ow j)) (fun j => gs_bi (ak j)) ln (fun j => nI (O j)) (fun j => nI (N j)) := by
  refine ⟨gm_i2 p, nm_r (gm_ub p ow false gm_n0) ⟨gm_i2 p, nm_r (gm_ub p ak false gm_n0) ?_⟩⟩
  refine gm_chk hc ?_
  rw [gn_c23 (gc_crc_lt hc), gw_e5 hc]
  exact h
theorem gm_next28D {post : Int32 → SX → Prop} (p : gs_p s o) {e a b : Nat} (he : e < 64) (ha : a < 2) (hb : b < 512) (hcell : ob (32 * s + T s % 32) = nI b) (h : post (nI ((131072 * e + (2048 * (T s % 64) + (1024 * a + (512 + b)))) + gc_crc (131072 * e + (2048 * (T s % 64) + (1024 * a + (512 + b)))) * 8388608)) (gs_U w ob G C (gb_u T s (T s + 1)) ib R K (gb_u ow s false) (gb_u ak s false) ln O N)) : wX_nextFrame_28 post (nI s) 1 (nI (131072 * e + 1024 * a)) (nI w) ob (fun j => nI (G j)) (fun j => nI (C j)) (fun j => nI (T j)) ib (fun j => nI (R j)) (fun j => nI (K j)) (fun j => gs_bi (ow j)) (fun j => gs_bi (ak j)) ln (fun j => nI (O j)) (fun j => nI (N j)) := by
  refine br_f (by decide) ⟨gm_i2 p, nm_r (congrArg (fun z => nI (T z)) (gm_c p)) ?_⟩
  refine gm_place _ s (T s) ⟨gm_i64 p _, nm_r (e' := nI (131072 * e + (1024 * a + (512 + b)))) ?_ (nm_r (e' := nI (131072 * e + (2048 * (T s % 64) + (1024 * a + (512 + b))))) ?_ ⟨gm_i2 p, gm_i2 p, nm_r (gm_ui p T (T s + 1) ?_) ?_⟩)⟩
  · rw [gm_c64 p, hcell, gw_e3 hb, Nat.add_assoc]
  · rw [gn_s11]; exact gw_e4 (by omega) (by omega)
  · rw [gm_c p]; exact nI_1 _
  · exact gm_next79 p (by omega) h
theorem gm_nextD {post : Int32 → SX → Prop} (p : gs_p s o) (hB : ∀ j, B s j < 512) (hcell : ob (32 * s + T s % 32) = nI (B s (T s))) (h : post (nI (gw_w (B s) ((T s, R s), (true, ak s)))) (gs_U w ob G C (gb_u T s (T s + 1)) ib R K (gb_u ow s false) (gb_u ak s false) ln O N)) : wpX_nextFrame post (gs_U w ob G C T ib R K ow ak ln O N) (nI s) 1 := by
  have e0 : ((fun j => nI (R j)) (nI s).toNatClampNeg &&& 63) <<< ((17 : Int32) &&& 31) = nI (131072 * (R s % 64)) := by rw [gm_c p]; exact gn_s17
  refine ⟨gm_i2 p, nm_r e0 ⟨gm_i2 p, ?_⟩⟩
  cases hk : ak s with
  | false =>
    have ec : gw_w (B s) ((T s, R s), (true, ak s)) = (131072 * (R s % 64) + (2048 * (T s % 64) + (1024 * 0 + (512 + B s (T s))))) + gc_crc (131072 * (R s % 64) + (2048 * (T s % 64) + (1024 * 0 + (512 + B s (T s))))) * 8388608 := by
      rw [hk]; rfl
    rw [ec] at h
    refine br_t (gm_b0 p ak hk) ?_
    exact gm_next28D (a := 0) p (Nat.mod_lt _ (by decide)) (by decide) (hB _) hcell h
  | true =>
    have ec : gw_w (B s) ((T s, R s), (true, ak s)) = (131072 * (R s % 64) + (2048 * (T s % 64) + (1024 * 1 + (512 + B s (T s))))) + gc_crc (131072 * (R s % 64) + (2048 * (T s % 64) + (1024 * 1 + (512 + B s (T s))))) * 8388608 := by
      rw [hk]; rfl
    rw [ec] at h
    refine br_f (gm_b1 p ak hk) (nm_r (gw_e2 _) ?_)
    exact gm_next28D (a := 1) p (Nat.mod_lt _ (by decide)) (by decide) (hB _) hcell h
theorem gm_nextN {post : Int32 → SX → Prop} (p : gs_p s o) (h : post (nI (gw_w (B s) ((0, R s), (false, ak s)))) (gs_U w ob G C T ib R K (gb_u ow s false) (gb_u ak s false) ln O N)) : wpX_nextFrame post (gs_U w ob G C T ib R K ow ak ln O N) (nI s) 0 := by
  have e0 : ((fun j => nI (R j)) (nI s).toNatClampNeg &&& 63) <<< ((17 : Int32) &&& 31) = nI (131072 * (R s % 64)) := by rw [gm_c p]; exact gn_s17
  refine ⟨gm_i2 p, nm_r e0 ⟨gm_i2 p, ?_⟩⟩
  cases hk : ak s with
  | false =>
    have ec : gw_w (B s) ((0, R s), (false, ak s)) = 131072 * (R s % 64) + gc_crc (131072 * (R s % 64)) * 8388608 := by
      rw [hk]; rfl
    rw [ec] at h
    refine br_t (gm_b0 p ak hk) (br_t rfl ?_)
    exact gm_next79 p (by omega) h
  | true =>
    have ec : gw_w (B s) ((0, R s), (false, ak s)) = (131072 * (R s % 64) + 1024) + gc_crc (131072 * (R s % 64) + 1024) * 8388608 := by
      rw [hk]; rfl
    rw [ec] at h
    refine br_f (gm_b1 p ak hk) (nm_r (gw_e2 _) (br_t rfl ?_))
    exact gm_next79 p (by omega) h
end
end
section
/- a station sends what fits -/
section
variable {w : Nat} {ob : Nat → Int32} {G C T : Nat → Nat} {ib : Nat → Int32} {R K : Nat → Nat} {ow ak : Nat → Bool} {ln : Nat → Int32} {O N : Nat → Nat} {L : Nat → List gb_F} {B : Nat → Nat → Nat} {s o : Nat} {post : SX → Prop}
theorem gm_81D (p : gs_p s o) {i n : Nat} (hB : ∀ j, B s j < 512) (hcell : ob (32 * s + T s % 32) = nI (B s (T s))) (h : wX_sendWhatFits_2 post (nI s) n (nI (i + 1)) (nI w) ob (fun j => nI (G j)) (fun j => nI (C j)) (fun j => nI ((gb_u T s (T s + 1)) j)) ib (fun j => nI (R j)) (fun j => nI (K j)) (fun j => gs_bi ((gb_u ow s false) j)) (fun j => gs_bi ((gb_u ak s false) j)) (upd ln (32 * s + (O s + N s) % 32) (nI (gw_w (B s) ((T s, R s), (true, ak s))))) (fun j => nI (O j)) (fun j => nI ((gb_u N s (N s + 1)) j))) : wX_sendWhatFits_81 post (wX_sendWhatFits_2 post (nI s) n) (nI s) (nI i) 1 (nI w) ob (fun j => nI (G j)) (fun j => nI (C j)) (fun j => nI (T j)) ib (fun j => nI (R j)) (fun j => nI (K j)) (fun j => gs_bi (ow j)) (fun j => gs_bi (ak j)) ln (fun j => nI (O j)) (fun j => nI (N j)) := by
  unfold wX_sendWhatFits_81
  refine gm_nextD p hB hcell ?_
  refine gm_put p _ ?_
  exact nm_r (nI_1 i) h
theorem gm_81N (p : gs_p s o) {i n : Nat} (h : wX_sendWhatFits_2 post (nI s) n (nI (i + 1)) (nI w) ob (fun j => nI (G j)) (fun j => nI (C j)) (fun j => nI (T j)) ib (fun j => nI (R j)) (fun j => nI (K j)) (fun j => gs_bi ((gb_u ow s false) j)) (fun j => gs_bi ((gb_u ak s false) j)) (upd ln (32 * s + (O s + N s) % 32) (nI (gw_w (B s) ((0, R s), (false, ak s))))) (fun j => nI (O j)) (fun j => nI ((gb_u N s (N s + 1)) j))) : wX_sendWhatFits_81 post (wX_sendWhatFits_2 post (nI s) n) (nI s) (nI i) 0 (nI w) ob (fun j => nI (G j)) (fun j => nI (C j)) (fun j => nI (T j)) ib (fun j => nI (R j)) (fun j => nI (K j)) (fun j => gs_bi (ow j)) (fun j => gs_bi (ak j)) ln (fun j => nI (O j)) (fun j => nI (N j)) := by
  unfold wX_sendWhatFits_81
  refine gm_nextN (B := B) p ?_
  refine gm_put p _ ?_
  exact nm_r (nI_1 i) h
theorem gm_54 (p : gs_p s o) {i n : Nat} (d r : Bool) (hw : w < 100) (hN : N s < 100) (h1 : w ≤ N s → post (gs_U w ob G C T ib R K ow ak ln O N)) (h2 : d = false → r = false → post (gs_U w ob G C T ib R K ow ak ln O N)) (h3 : N s < w → (d = true ∨ r = true) → wX_sendWhatFits_81 post (wX_sendWhatFits_2 post (nI s) n) (nI s) (nI i) (gs_bi d) (nI w) ob (fun j => nI (G j)) (fun j => nI (C j)) (fun j => nI (T j)) ib (fun j => nI (R j)) (fun j => nI (K j)) (fun j => gs_bi (ow j)) (fun j => gs_bi (ak j)) ln (fun j => nI (O j)) (fun j => nI (N j))) : wX_sendWhatFits_54 post (wX_sendWhatFits_2 post (nI s) n) (nI s) (nI i) (gs_bi d) (gs_bi r) (nI w) ob (fun j => nI (G j)) (fun j => nI (C j)) (fun j => nI (T j)) ib (fun j => nI (R j)) (fun j => nI (K j)) (fun j => gs_bi (ow j)) (fun j => gs_bi (ak j)) ln (fun j => nI (O j)) (fun j => nI (N j)) := by
  refine ⟨gm_i2 p, ?_⟩
  have e : (fun j => nI (N j)) (nI s).toNatClampNeg = nI (N s) := congrArg (fun z => nI (N z)) (gm_c p)
  by_cases hf : w ≤ N s
  · refine br_t ?_ (h1 hf)
    rw [e]; exact nI_le hf (by omega)
  · refine br_f ?_ ?_
    · rw [e]; exact nI_ge (by omega) (by omega)
    · cases d with
      | true => exact br_f (by decide) (h3 (by omega) (Or.inl rfl))
      | false =>
        refine br_t rfl ?_
        cases r with
        | true => exact br_f (by decide) (h3 (by omega) (Or.inr rfl))
        | false => exact br_t rfl (h2 rfl rfl)
theorem gm_30 (p : gs_p s o) {i n : Nat} {z : Int32} (h : wX_sendWhatFits_54 post (wX_sendWhatFits_2 post (nI s) n) (nI s) (nI i) z (gs_bi (ow s || ak s)) (nI w) ob (fun j => nI (G j)) (fun j => nI (C j)) (fun j => nI (T j)) ib (fun j => nI (R j)) (fun j => nI (K j)) (fun j => gs_bi (ow j)) (fun j => gs_bi (ak j)) ln (fun j => nI (O j)) (fun j => nI (N j))) : wX_sendWhatFits_30 post (wX_sendWhatFits_2 post (nI s) n) (nI s) (nI i) z (nI w) ob (fun j => nI (G j)) (fun j => nI (C j)) (fun j => nI (T j)) ib (fun j => nI (R j)) (fun j => nI (K j)) (fun j => gs_bi (ow j)) (fun j => gs_bi (ak j)) ln (fun j => nI (O j)) (fun j => nI (N j)) := by
  refine ⟨gm_i2 p, ?_⟩
  cases h1 : ow s with
  | true =>
    rw [h1] at h
    exact br_f (gm_b1 p ow h1) h
  | false =>
    rw [h1] at h
    refine br_t (gm_b0 p ow h1) ⟨gm_i2 p, ?_⟩
    cases h2 : ak s with
    | true =>
      rw [h2] at h
      exact br_f (gm_b1 p ak h2) h
    | false =>
      rw [h2] at h
      exact br_t (gm_b0 p ak h2) h
theorem gm_satk {T' : Nat → Nat} {ow' ak' : Nat → Bool} {L' : Nat → List gb_F} (j : Nat) (hj : j = s ∨ gs_Sat G T ow ak L j) (h : j ≠ s → T' j = T j ∧ ow' j = ow j ∧ ak' j = ak j ∧ L' j = L j) : j = s ∨ gs_Sat G T' ow' ak' L' j := by
  by_cases e : j = s
  · exact Or.inl e
  · refine Or.inr (fun hL => ?_)
    obtain ⟨e1, e2, e3, e4⟩ := h e
    rw [e4] at hL
    rw [e1, e2, e3]
    exact (hj.resolve_left e) hL
theorem gm_send_l (p : gs_p s o) : ∀ (d i : Nat) (T : Nat → Nat) (ow ak : Nat → Bool) (ln : Nat → Int32) (N : Nat → Nat) (L : Nat → List gb_F), i + d = w → i ≤ (L s).length → gs_Ok w ob G C T ib R K ln O N L B → gs_Post w ob G K B (gs_mu G T R ow ak L) (gs_zz G C T R ow ak L) (fun j => j = s ∨ gs_Sat G T ow ak L j) post → wX_sendWhatFits_2 post (nI s) (d + 1) (nI i) (nI w) ob (fun j => nI (G j)) (fun j => nI (C j)) (fun j => nI (T j)) ib (fun j => nI (R j)) (fun j => nI (K j)) (fun j => gs_bi (ow j)) (fun j => gs_bi (ak j)) ln (fun j => nI (O j)) (fun j => nI (N j)) := by
  intro d
  induction d with
  | zero =>
    intro i T ow ak ln N L hi hl h hP
    have hw := h.1
    refine br_t (nI_le (by omega) (by omega)) ?_
    refine hP C T ib R ow ak ln O N L h (Nat.le_refl _) (fun a b q z => z b q) (fun j hj => hj.elim (fun e hL => ?_) id)
    rw [e] at hL
    rw [hL] at hl
    exact absurd hl (by show ¬ i ≤ 0; omega)
  | succ d ih =>
    intro i T ow ak ln N L hi hl h hP
    have hw := h.1
    obtain ⟨d1, d2, d3, d4, d5, d6⟩ := h.2 s o p
    have hKR : K s ≤ R s := by have := (h.2 o s (gs_sw p)).1.1; omega
    have hPs : gs_Sat G T ow ak L s → post (gs_U w ob G C T ib R K ow ak ln O N) := fun hs => hP C T ib R ow ak ln O N L h (Nat.le_refl _) (fun a b q z => z b q) (fun j hj => hj.elim (fun e => by rw [e]; exact hs) id)
    have hfull : w ≤ N s → post (gs_U w ob G C T ib R K ow ak ln O N) := fun hf => hPs (fun hL => by
      rw [hL] at d2
      exact absurd d2.1 (by show ¬ N s = 0; omega))
    refine br_f (nI_ge (by omega) (by omega)) ⟨gm_i2 p, gm_i2 p, ?_⟩
    by_cases hT : T s = G s
    · refine br_t ((gm_at p T).trans ((congrArg nI hT).trans (gm_at p G).symm)) (gm_30 p ?_)
      refine gm_54 p false (ow s || ak s) (by omega) (by omega) hfull (fun _ hr => hPs (fun _ => ?_)) (fun hN hr => ?_)
      · refine ⟨hT, ?_⟩
        cases h1 : ow s <;> cases h2 : ak s <;> rw [h1, h2] at hr <;> first | exact ⟨rfl, rfl⟩ | cases hr
      · have hr' : (ow s || ak s) = true := hr.resolve_left (by decide)
        refine gm_81N (B := B) p ?_
        refine ih (i + 1) T (gb_u ow s false) (gb_u ak s false) _ (gb_u N s (N s + 1)) (gb_u L s (L s ++ [((0, R s), (false, ak s))])) (by omega) ?_ (gs_put h p hN (fun hd => by cases hd) ⟨hKR, Nat.le_refl _⟩) ?_
        · rw [gb_us, List.length_append]; show i + 1 ≤ (L s).length + 1; omega
        · exact gs_Post_w hP (gs_sn_mu p hr') (fun a z b q => gs_sn_Z h p q (z b q)) (fun j hj => gm_satk j hj (fun e => ⟨rfl, gb_un e, gb_un e, gb_un e⟩))
    · have hT' : T s < G s := by have := d1.1; omega
      refine br_f (fun z => hT ((nI_eq (by have := d1.1; omega) (by omega)).mp ((gm_at p T).symm.trans (z.trans (gm_at p G))))) (gm_30 p ?_)
      refine gm_54 p true (ow s || ak s) (by omega) (by omega) hfull (fun hd _ => by cases hd) (fun hN hr => ?_)
      refine gm_81D p d6 (d4 (T s) (by have := d1.1; omega) hT') ?_
      refine ih (i + 1) (gb_u T s (T s + 1)) (gb_u ow s false) (gb_u ak s false) _ (gb_u N s (N s + 1)) (gb_u L s (L s ++ [((T s, R s), (true, ak s))])) (by omega) ?_ (gs_setT (gs_put h p hN (fun _ => ?_) ⟨hKR, Nat.le_refl _⟩) p ?_) ?_
      · rw [gb_us, List.length_append]; show i + 1 ≤ (L s).length + 1; omega
      · have := d1.1; exact ⟨by show K o ≤ T s; omega, hT'⟩
      · have := d1.1; omega
      · exact gs_Post_w hP (gs_sd_mu p hT') (fun a z b q => gs_sd_Z h p q (z b q)) (fun j hj => gm_satk j hj (fun e => ⟨gb_un e, gb_un e, gb_un e, gb_un e⟩))
theorem gm_send (p : gs_p s o) (h : gs_Ok w ob G C T ib R K ln O N L B) (hP : gs_Post w ob G K B (gs_mu G T R ow ak L) (gs_zz G C T R ow ak L) (fun j => j = s ∨ gs_Sat G T ow ak L j) post) : wpX_sendWhatFits post (gs_U w ob G C T ib R K ow ak ln O N) (nI s) :=
  ⟨w + 1, gm_send_l p w 0 T ow ak ln N L (Nat.zero_add w) (Nat.zero_le _) h hP⟩
theorem gm_again (p : gs_p s o) (h : gs_Ok w ob G C T ib R K ln O N L B) (hP : gs_Post w ob G K B 11650 (fun a => a = s ∨ gs_zz G C T R ow ak L a) (fun j => j = s ∨ gs_Sat G T ow ak L j) post) : wpX_sendAgain post (gs_U w ob G C T ib R K ow ak ln O N) (nI s) := by
  have hD := (h.2 s o p).1.1
  have h1 : gs_Ok w ob G C (gb_u T s (C s)) ib R K ln O N L B := gs_setT h p ⟨Nat.le_refl _, by omega⟩
  refine ⟨gm_i2 p, gm_i2 p, nm_r (gm_ui p T (C s) (congrArg (fun z => nI (C z)) (gm_c p))) ?_⟩
  refine gm_send p h1 ?_
  intro C2 T2 ib2 R2 ow2 ak2 ln2 O2 N2 L2 h2 m2 z2 s2
  refine hP C2 T2 ib2 R2 ow2 ak2 ln2 O2 N2 L2 h2 (Nat.le_trans m2 (gs_mu_le h1)) (fun a b q z => z2 a b q ?_) (fun j hj => s2 j (gm_satk j hj (fun e => ⟨gb_un e, rfl, rfl, rfl⟩)))
  intro b' q'
  rcases gs_two p q' with ⟨ea, eb⟩ | ⟨ea, eb⟩
  · rw [ea, eb]; exact gs_bk_Z h p
  · rw [ea, eb]
    refine gs_bk_Zo p ?_
    have hz := z.resolve_left (by rw [ea]; exact gs_ne (gs_sw p))
    have := hz b' q'
    rw [ea, eb] at this
    exact this
end
end
section
/- a frame arrives and is read -/
section
variable {w : Nat} {ob : Nat → Int32} {G C T : Nat → Nat} {ib : Nat → Int32} {R K : Nat → Nat} {ow ak : Nat → Bool} {ln : Nat → Int32} {O N : Nat → Nat} {L : Nat → List gb_F} {B : Nat → Nat → Nat} {s o : Nat} {post : SX → Prop}
theorem gm_86 (q : gs_p o s) (hp : post (gs_U w ob G C (gb_u T o (C o)) ib R K ow ak ln O N)) : wX_readConfirmation_86 post (nI o) (nI w) ob (fun j => nI (G j)) (fun j => nI (C j)) (fun j => nI (T j)) ib (fun j => nI (R j)) (fun j => nI (K j)) (fun j => gs_bi (ow j)) (fun j => gs_bi (ak j)) ln (fun j => nI (O j)) (fun j => nI (N j)) :=
  ⟨gm_i2 q, gm_i2 q, nm_r (gm_ui q T (C o) (gm_at q C)) hp⟩
theorem gm_50 (q : gs_p o s) {c : Nat} {ask : Bool} (hT : T o < 1000000) (hC : C o < 1000000) (ha : c / 1024 % 2 = if ask = true then 1 else 0) (hp : post (gs_U w ob G C (gb_u T o (if T o < C o ∨ ask = true then C o else T o)) ib R K ow ak ln O N)) : wX_readConfirmation_50 post (nI o) (nI c) (nI w) ob (fun j => nI (G j)) (fun j => nI (C j)) (fun j => nI (T j)) ib (fun j => nI (R j)) (fun j => nI (K j)) (fun j => gs_bi (ow j)) (fun j => gs_bi (ak j)) ln (fun j => nI (O j)) (fun j => nI (N j)) := by
  refine ⟨gm_i2 q, gm_i2 q, ?_⟩
  have e : (fun j => nI (T j)) (nI o).toNatClampNeg - (fun j => nI (C j)) (nI o).toNatClampNeg = nI (T o) - nI (C o) := by
    rw [gm_at q T, gm_at q C]
  have hn := gn_neg (a := T o) (b := C o) (by omega) (by omega)
  by_cases hb : T o < C o
  · rw [if_pos (Or.inl hb)] at hp
    refine br_f ?_ (br_f (by decide) (gm_86 q hp))
    rw [e]; exact fun z => absurd (hn.mpr hb) (Int32.not_lt.mpr z)
  · refine br_t ?_ (br_t rfl ?_)
    · rw [e]; exact Int32.not_lt.mp (fun z => hb (hn.mp z))
    · cases ask with
      | true =>
        rw [if_pos (Or.inr rfl)] at hp
        refine br_f ?_ (gm_86 q hp)
        rw [gn_b10, ha]; decide
      | false =>
        have hc : ¬ (T o < C o ∨ false = true) := fun z => z.elim hb (by decide)
        rw [if_neg hc, gb_uid] at hp
        refine br_t ?_ hp
        rw [gn_b10, ha]; rfl
theorem gm_rc {f : gb_F} (p : gs_p s o) (h : gs_Ok w ob G C T ib R K ln O N L B) (he : K s ≤ f.1.2 ∧ f.1.2 ≤ R s) (hp : post (gs_U w ob G (gb_u C o (gb_C (C o) f)) (gb_u T o (gb_T (C o) (T o) f)) ib R K ow ak ln O N)) : wpX_readConfirmation post (gs_U w ob G C T ib R K ow ak ln O N) (nI o) (nI (gw_c (B s) f)) := by
  have q := gs_sw p
  have hB := (h.2 s o p).2.2.2.2.2
  have hE := (h.2 o s q).1.1
  have hG := (h.2 o s q).2.1.2.2
  have dec := gw_dec (f := f) hB
  have hnw := gn_news (K := K s) (C := C o) (R := R s) (G := G o) (e := f.1.2) (by omega) he
  have e3 : (nI (gw_c (B s) f) >>> ((17 : Int32) &&& 31)) &&& 63 = nI (f.1.2 % 64) := by rw [gn_r17 dec.1, dec.2.1]
  have e4 : (nI (f.1.2 % 64) - (fun j => nI (C j)) (nI o).toNatClampNeg) &&& 63 = nI ((f.1.2 % 64 + 63 * C o) % 64) := by rw [gm_at q C]; exact gw_sub63 (by omega)
  have e5 : (fun j => nI (G j)) (nI o).toNatClampNeg - (fun j => nI (C j)) (nI o).toNatClampNeg = nI (G o - C o) := by rw [gm_at q C, gm_at q G]; exact pk_sub (by omega)
  refine nm_r e3 ⟨gm_i2 q, nm_r e4 ⟨gm_i2 q, gm_i2 q, ?_⟩⟩
  have hlt : (f.1.2 % 64 + 63 * C o) % 64 < 64 := Nat.mod_lt _ (by decide)
  generalize (f.1.2 % 64 + 63 * C o) % 64 = d at hnw hlt
  by_cases hc : C o ≤ f.1.2
  · have eC : gb_C (C o) f = f.1.2 := if_pos hc
    have eT : gb_T (C o) (T o) f = if T o < (gb_u C o f.1.2) o ∨ f.2.2 = true then (gb_u C o f.1.2) o else T o := by unfold gb_T; rw [eC, gb_us]
    rw [eC, eT] at hp
    refine br_f ?_ ⟨gm_i2 q, gm_i2 q, nm_r (gm_ui q C f.1.2 ?_) (gm_50 q (by omega) (by rw [gb_us]; omega) dec.2.2.2.1 hp)⟩
    · rw [e5]; exact nI_nlt (hnw.1.mpr hc) (by omega)
    · rw [gm_at q C, nI_add]; exact congrArg nI (hnw.2 hc)
  · have eC : gb_C (C o) f = C o := if_neg hc
    have eT : gb_T (C o) (T o) f = if T o < C o ∨ f.2.2 = true then C o else T o := by unfold gb_T; rw [eC]
    rw [eC, eT, gb_uid] at hp
    refine br_t ?_ (gm_50 q (by omega) (by omega) dec.2.2.2.1 hp)
    rw [e5]
    have : ¬ d ≤ G o - C o := fun z => hc (hnw.1.mp z)
    exact nI_lt (by omega) (by omega)
theorem gm_rd {f : gb_F} (p : gs_p s o) (h : gs_Ok w ob G C T ib R K ln O N L B) (hd : f.2.1 = true) (hn : K o ≤ f.1.1 ∧ f.1.1 < G s) (hp : ∀ ib', gs_Ok w ob G C T ib' (gb_u R o (gb_R (R o) f)) K ln O N L B → post (gs_U w ob G C T ib' (gb_u R o (gb_R (R o) f)) K (gb_u ow o true) (gb_u ak o (gb_ak (R o) (ak o) f)) ln O N)) : wpX_readData post (gs_U w ob G C T ib R K ow ak ln O N) (nI o) (nI (gw_c (B s) f)) := by
  have q := gs_sw p
  have hB := (h.2 s o p).2.2.2.2.2
  have hD := (h.2 s o p).1.1
  have hG := (h.2 s o p).2.1.2.2
  have dec := gw_dec (f := f) hB
  have dd := dec.2.2.2.2 hd
  have hah := gn_ahead (K := K o) (R := R o) (G := G s) (n := f.1.1) (by omega) hn
  have e3 : (nI (gw_c (B s) f) >>> ((11 : Int32) &&& 31)) &&& 63 = nI (f.1.1 % 64) := by rw [gn_r11 dec.1, dd.1]
  have e4 : (nI (f.1.1 % 64) - (fun j => nI (R j)) (nI o).toNatClampNeg) &&& 63 = nI ((f.1.1 % 64 + 63 * R o) % 64) := by rw [gm_at q R]; exact gw_sub63 (by omega)
  refine nm_r e3 ⟨gm_i2 q, nm_r e4 ?_⟩
  have hlt : (f.1.1 % 64 + 63 * R o) % 64 < 64 := Nat.mod_lt _ (by decide)
  generalize (f.1.1 % 64 + 63 * R o) % 64 = d at hah hlt
  by_cases h0 : f.1.1 = R o
  · have eR : gb_R (R o) f = R o + 1 := if_pos ⟨hd, h0⟩
    have eA : gb_ak (R o) (ak o) f = ak o := by unfold gb_ak; rw [h0, decide_eq_false (Nat.lt_irrefl _), Bool.and_false, Bool.or_false]
    rw [eR, eA, gb_uid] at hp
    refine br_t ?_ ⟨gm_i2 q, ?_⟩
    · rw [hah.1.mpr h0]; rfl
    · rw [gm_at q R]
      refine gm_place _ o (R o) ⟨gm_i64 q _, nm_r (e' := upd ib (32 * o + R o % 32) (nI (B s f.1.1))) ?_ ⟨gm_i2 q, gm_i2 q, nm_r (gm_ui q R (R o + 1) ?_) ⟨gm_i2 q, nm_r (gm_ub q ow true gm_n1) (hp _ (gs_rd h p hd h0 (by omega)))⟩⟩⟩
      · rw [gm_c64 q, gn_m9, dd.2]
      · exact nI_1 _
  · have eR : gb_R (R o) f = R o := if_neg (fun z => h0 z.2)
    rw [eR, gb_uid] at hp
    refine br_f ?_ ?_
    · intro z; exact h0 (hah.1.mp ((nI_eq (by omega) (by decide)).mp z))
    · by_cases h1 : R o ≤ f.1.1
      · have eA : gb_ak (R o) (ak o) f = true := by unfold gb_ak; rw [hd, decide_eq_true (by omega : R o < f.1.1), Bool.and_true, Bool.or_true]
        rw [eA] at hp
        refine br_f ?_ ⟨gm_i2 q, nm_r (gm_ub q ak true gm_n1) ⟨gm_i2 q, nm_r (gm_ub q ow true gm_n1) (hp ib h)⟩⟩
        exact nI_ge (b := 32) (hah.2.mpr h1) (by decide)
      · have eA : gb_ak (R o) (ak o) f = ak o := by unfold gb_ak; rw [decide_eq_false (by omega : ¬ R o < f.1.1), Bool.and_false, Bool.or_false]
        rw [eA, gb_uid] at hp
        refine br_t ?_ ⟨gm_i2 q, nm_r (gm_ub q ow true gm_n1) (hp ib h)⟩
        have : ¬ d < 32 := fun z => h1 (hah.2.mp z)
        exact nI_le (a := 32) (by omega) (by omega)
theorem gm_arr {f : gb_F} (p : gs_p s o) (h : gs_Ok w ob G C T ib R K ln O N L B) (hd : f.2.1 = true → K o ≤ f.1.1 ∧ f.1.1 < G s) (he : K s ≤ f.1.2 ∧ f.1.2 ≤ R s) (hp : ∀ ib', gs_Ok w ob G (gb_u C o (gb_C (C o) f)) (gb_u T o (gb_T (C o) (T o) f)) ib' (gb_u R o (gb_R (R o) f)) K ln O N L B → post (gs_U w ob G (gb_u C o (gb_C (C o) f)) (gb_u T o (gb_T (C o) (T o) f)) ib' (gb_u R o (gb_R (R o) f)) K (gb_u ow o (ow o || f.2.1)) (gb_u ak o (gb_ak (R o) (ak o) f)) ln O N)) : wpX_arrive post (gs_U w ob G C T ib R K ow ak ln O N) (nI o) (nI (gw_w (B s) f)) := by
  have hB := (h.2 s o p).2.2.2.2.2
  have dec := gw_dec (f := f) hB
  have wd := gw_wd (f := f) hB
  have h1 := gs_rc h p he
  refine nm_r (e' := nI (gw_c (B s) f)) ?_ (gm_chk dec.1 (br_t ?_ (gm_rc p h he ?_)))
  · rw [gn_m23, wd.1]
  · rw [gn_r23 wd.2.2, wd.2.1]
  · cases hf : f.2.1 with
    | false =>
      have eR : gb_R (R o) f = R o := if_neg (fun z => by rw [hf] at z; exact absurd z.1 (by decide))
      have eA : gb_ak (R o) (ak o) f = ak o := by unfold gb_ak; rw [hf, Bool.false_and, Bool.or_false]
      rw [eR, eA, hf, Bool.or_false, gb_uid, gb_uid, gb_uid] at hp
      refine br_t ?_ (hp ib h1)
      rw [gn_b9, dec.2.2.1, hf]; rfl
    | true =>
      rw [hf, Bool.or_true] at hp
      refine br_f ?_ (gm_rd p h1 hf (hd hf) (fun ib' h2 => hp ib' h2))
      rw [gn_b9, dec.2.2.1, hf]; decide
theorem gm_arrX {c : Nat} (p : gs_p s o) (hc : c < 2147483648) (hx : gc_crc (c % 8388608) ≠ c / 8388608) (hp : post (gs_U w ob G C T ib R K ow (gb_u ak o true) ln O N)) : wpX_arrive post (gs_U w ob G C T ib R K ow ak ln O N) (nI o) (nI c) := by
  have q := gs_sw p
  have hm : c % 8388608 < 8388608 := Nat.mod_lt _ (by decide)
  have hl : gc_crc (c % 8388608) < 256 := gc_crc_lt hm
  refine nm_r (gn_m23 c) (gm_chk hm (br_f ?_ ⟨gm_i2 q, nm_r (gm_ub q ak true gm_n1) hp⟩))
  rw [gn_r23 hc, nI_eq (by omega) (by omega)]
  exact hx
end
end
section
/- the oldest frame moves; the line finishes -/
section
variable {w : Nat} {ob : Nat → Int32} {G C T : Nat → Nat} {ib : Nat → Int32} {R K : Nat → Nat} {ow ak : Nat → Bool} {ln : Nat → Int32} {O N : Nat → Nat} {L : Nat → List gb_F} {B : Nat → Nat → Nat} {s o : Nat} {post : SX → Prop}
theorem gm_89 (p : gs_p s o) (h : gs_Ok w ob G C T ib R K ln O N L B) (hP : gs_Post w ob G K B (gs_mu G T R ow ak L) (gs_zz G C T R ow ak L) (fun j => j < 2) post) : wX_moveOldestFrame_89 post (nI s) (nI w) ob (fun j => nI (G j)) (fun j => nI (C j)) (fun j => nI (T j)) ib (fun j => nI (R j)) (fun j => nI (K j)) (fun j => gs_bi (ow j)) (fun j => gs_bi (ak j)) ln (fun j => nI (O j)) (fun j => nI (N j)) := by
  unfold wX_moveOldestFrame_89
  rw [gm_sub p]
  refine gm_send p h ?_
  intro C1 T1 ib1 R1 ow1 ak1 ln1 O1 N1 L1 h1 m1 z1 s1
  refine gm_send (gs_sw p) h1 ?_
  intro C2 T2 ib2 R2 ow2 ak2 ln2 O2 N2 L2 h2 m2 z2 s2
  refine hP C2 T2 ib2 R2 ow2 ak2 ln2 O2 N2 L2 h2 (Nat.le_trans m2 m1) (fun a b q z => z2 a b q (fun b' q' => z1 a b' q' z)) (fun j hj => s2 j ?_)
  by_cases e : j = o
  · exact Or.inl e
  · exact Or.inr (s1 j (Or.inl (by unfold gs_p at p; omega)))
theorem gm_75G {x : Int32} {f : gb_F} (p : gs_p s o) (h : gs_Ok w ob G C T ib R K ln O N L B) (hx : ¬ x = 1) (hd : f.2.1 = true → K o ≤ f.1.1 ∧ f.1.1 < G s) (he : K s ≤ f.1.2 ∧ f.1.2 ≤ R s) (hP : (∃ ib', gs_Ok w ob G (gb_u C o (gb_C (C o) f)) (gb_u T o (gb_T (C o) (T o) f)) ib' (gb_u R o (gb_R (R o) f)) K ln O N L B) → gs_Post w ob G K B (gs_mu G (gb_u T o (gb_T (C o) (T o) f)) (gb_u R o (gb_R (R o) f)) (gb_u ow o (ow o || f.2.1)) (gb_u ak o (gb_ak (R o) (ak o) f)) L) (gs_zz G (gb_u C o (gb_C (C o) f)) (gb_u T o (gb_T (C o) (T o) f)) (gb_u R o (gb_R (R o) f)) (gb_u ow o (ow o || f.2.1)) (gb_u ak o (gb_ak (R o) (ak o) f)) L) (fun j => j < 2) post) : wX_moveOldestFrame_75 post (nI s) x (nI (gw_w (B s) f)) (nI w) ob (fun j => nI (G j)) (fun j => nI (C j)) (fun j => nI (T j)) ib (fun j => nI (R j)) (fun j => nI (K j)) (fun j => gs_bi (ow j)) (fun j => gs_bi (ak j)) ln (fun j => nI (O j)) (fun j => nI (N j)) := by
  refine br_f hx ?_
  rw [gm_sub p]
  refine gm_arr p h hd he (fun ib' h1 => ?_)
  exact gm_89 p h1 (hP ⟨ib', h1⟩)
theorem gm_75X {x : Int32} {c : Nat} (p : gs_p s o) (h : gs_Ok w ob G C T ib R K ln O N L B) (hx : ¬ x = 1) (hc : c < 2147483648) (hb : gc_crc (c % 8388608) ≠ c / 8388608) (hP : gs_Post w ob G K B 11650 (fun _ => False) (fun j => j < 2) post) : wX_moveOldestFrame_75 post (nI s) x (nI c) (nI w) ob (fun j => nI (G j)) (fun j => nI (C j)) (fun j => nI (T j)) ib (fun j => nI (R j)) (fun j => nI (K j)) (fun j => gs_bi (ow j)) (fun j => gs_bi (ak j)) ln (fun j => nI (O j)) (fun j => nI (N j)) := by
  refine br_f hx ?_
  rw [gm_sub p]
  refine gm_arrX p hc hb ?_
  exact gm_89 p h (gs_Post_w hP (gs_mu_le h) (fun _ z => z.elim) (fun _ z => z))
theorem gm_mv {x y : Int32} {f : gb_F} {t : List gb_F} (p : gs_p s o) (h : gs_Ok w ob G C T ib R K ln O N L B) (hL : L s = f :: t) (h3 : x = 3 → wX_moveOldestFrame_59 post (nI s) x y (nI (gw_w (B s) f)) (nI w) ob (fun j => nI (G j)) (fun j => nI (C j)) (fun j => nI (T j)) ib (fun j => nI (R j)) (fun j => nI (K j)) (fun j => gs_bi (ow j)) (fun j => gs_bi (ak j)) (upd ln (32 * s + ((gb_u O s (O s + 1)) s + (gb_u N s t.length) s) % 32) (nI (gw_w (B s) f))) (fun j => nI ((gb_u O s (O s + 1)) j)) (fun j => nI ((gb_u (gb_u N s t.length) s ((gb_u N s t.length) s + 1)) j))) (hn : ¬ x = 3 → wX_moveOldestFrame_59 post (nI s) x y (nI (gw_w (B s) f)) (nI w) ob (fun j => nI (G j)) (fun j => nI (C j)) (fun j => nI (T j)) ib (fun j => nI (R j)) (fun j => nI (K j)) (fun j => gs_bi (ow j)) (fun j => gs_bi (ak j)) ln (fun j => nI ((gb_u O s (O s + 1)) j)) (fun j => nI ((gb_u N s t.length) j))) : wpX_moveOldestFrame post (gs_U w ob G C T ib R K ow ak ln O N) (nI s) x y := by
  obtain ⟨k1, k2, k3, k4, k5⟩ := gs_head h p hL
  have hw := h.1
  refine ⟨gm_i2 p, br_f ?_ ⟨gm_i2 p, ?_⟩⟩
  · rw [gm_at p N]; exact nI_ne0 (by omega) (by omega)
  rw [gm_at p O]
  refine gm_place _ s (O s) ⟨gm_i64 p _, nm_r (e' := nI (gw_w (B s) f)) ?_ ⟨gm_i2 p, gm_i2 p, nm_r (gm_ui p O (O s + 1) ?_) ⟨gm_i2 p, gm_i2 p, nm_r (gm_ui p N t.length ?_) ?_⟩⟩⟩
  · rw [gm_c64 p, k1]
  · exact nI_1 _
  · rw [gm_at p N, k4]; exact nI_pred _
  · refine br_c (fun hx => ?_) (fun hx => hn hx)
    exact gm_put p _ (h3 hx)
/-- a frame moves without a fault: the measure falls -/
theorem gm_mvN {m : Nat} {f : gb_F} {t : List gb_F} (p : gs_p s o) (h : gs_Ok w ob G C T ib R K ln O N L B) (hL : L s = f :: t) (hm : (gs_mu G T R ow ak L) ≤ m + 1) (hP : gs_Post w ob G K B m (gs_zz G C T R ow ak L) (fun j => j < 2) post) : wpX_moveOldestFrame post (gs_U w ob G C T ib R K ow ak ln O N) (nI s) 0 0 := by
  obtain ⟨k1, k2, k3, k4, k5⟩ := gs_head h p hL
  refine gm_mv p h hL (fun hx => absurd hx (by decide)) (fun _ => ?_)
  refine br_f (by decide) ?_
  refine gm_75G p (gs_pop h p hL) (by decide) k2 k3 (fun _ => ?_)
  have hmu := gs_ar_mu (ow := ow) (ak := ak) h p hL
  exact gs_Post_w hP (by omega) (fun a z b q => gs_ar_Z h p hL q (z b q)) (fun _ z => z)
theorem gm_mvE {x y : Int32} (p : gs_p s o) (h : gs_Ok w ob G C T ib R K ln O N L B) (hL : L s = []) (hp : post (gs_U w ob G C T ib R K ow ak ln O N)) : wpX_moveOldestFrame post (gs_U w ob G C T ib R K ow ak ln O N) (nI s) x y := by
  have hN := (h.2 s o p).2.1.1
  rw [hL] at hN
  refine ⟨gm_i2 p, br_t ?_ hp⟩
  rw [gm_at p N, hN]; rfl
theorem gm_mv0 (p : gs_p s o) (h : gs_Ok w ob G C T ib R K ln O N L B) (hs : ∀ j, j < 2 → gs_Sat G T ow ak L j) (hP : gs_Post w ob G K B (gs_mu G T R ow ak L) (gs_zz G C T R ow ak L) (fun j => j < 2) post) : wpX_moveOldestFrame post (gs_U w ob G C T ib R K ow ak ln O N) (nI s) 0 0 := by
  cases hL : L s with
  | nil => exact gm_mvE p h hL (hP C T ib R ow ak ln O N L h (Nat.le_refl _) (fun a b q z => z b q) hs)
  | cons f t => exact gm_mvN p h hL (Nat.le_succ _) hP
/-- with any fault at all -/
theorem gm_mvX {x y : Int32} (p : gs_p s o) (h : gs_Ok w ob G C T ib R K ln O N L B) (hs : ∀ j, j < 2 → gs_Sat G T ow ak L j) (hP : gs_Post w ob G K B 11650 (fun _ => False) (fun j => j < 2) post) : wpX_moveOldestFrame post (gs_U w ob G C T ib R K ow ak ln O N) (nI s) x y := by
  cases hL : L s with
  | nil => exact gm_mvE p h hL (hP C T ib R ow ak ln O N L h (gs_mu_le h) (fun a b q z => z.elim) hs)
  | cons f t =>
    obtain ⟨k1, k2, k3, k4, k5⟩ := gs_head h p hL
    have hB := (h.2 s o p).2.2.2.2.2
    have hpop := gs_pop h p hL
    refine gm_mv p h hL (fun hx => ?_) (fun hx => ?_)
    · refine br_f (by rw [hx]; decide) ?_
      have hput := gs_put (f := f) hpop p (by rw [gb_us]; omega) k2 k3
      refine gm_75G p hput (by rw [hx]; decide) k2 k3 (fun hE => ?_)
      obtain ⟨ib', h1⟩ := hE
      exact gs_Post_w hP (gs_mu_le h1) (fun _ z => z.elim) (fun _ z => z)
    · by_cases h2 : x = 2
      · refine br_t h2 ?_
        have key : ∀ k, k < 31 → wX_moveOldestFrame_75 post (nI s) x (nI (gw_w (B s) f) ^^^ ((1 : Int32) <<< (nI k &&& 31))) (nI w) ob (fun j => nI (G j)) (fun j => nI (C j)) (fun j => nI (T j)) ib (fun j => nI (R j)) (fun j => nI (K j)) (fun j => gs_bi (ow j)) (fun j => gs_bi (ak j)) ln (fun j => nI ((gb_u O s (O s + 1)) j)) (fun j => nI ((gb_u N s t.length) j)) := by
          intro k hk
          rw [gn_flip hk]
          have wd := gw_wd (f := f) hB
          refine gm_75X p hpop (by rw [h2]; decide) ?_ (gc_dam (gw_dec (f := f) hB).1 hk) hP
          exact Nat.xor_lt_two_pow (n := 31) wd.2.2 (Nat.pow_lt_pow_right (by decide) hk)
        have pf := gn_pif y
        refine ⟨by decide, nm_e (br_c (fun z => ?_) (fun z => ?_))⟩
        · obtain ⟨k, hk, e⟩ := pf.2 (Int32.not_lt.mpr z)
          refine nm_e ?_
          rw [e]; exact key k hk
        · obtain ⟨k, hk, e⟩ := pf.1 (Int32.not_le.mp z)
          refine nm_e ?_
          rw [e]; exact key k hk
      · refine br_f h2 ?_
        by_cases h1 : x = 1
        · exact br_t h1 (gm_89 p hpop (gs_Post_w hP (gs_mu_le hpop) (fun _ z => z.elim) (fun _ z => z)))
        · refine gm_75G p hpop h1 k2 k3 (fun hE => ?_)
          obtain ⟨ib', h5⟩ := hE
          exact gs_Post_w hP (gs_mu_le h5) (fun _ z => z.elim) (fun _ z => z)
end
end
section
/- the line finishes: it runs dry at most once with bytes left, and the measure falls at every turn -/
def gm_K (post : SX → Prop) (n t : Nat) : SX → Prop := fun u => match u with
  | (a1, a2, a3, a4, a5, a6, a7, a8, a9, a10, a11, a12, a13) => wX_letLineFinish_2 post n (nI t) a1 a2 a3 a4 a5 a6 a7 a8 a9 a10 a11 a12 a13
theorem gm_p0 : gs_p 0 1 := Or.inl ⟨rfl, rfl⟩
theorem gm_p1 : gs_p 1 0 := Or.inr ⟨rfl, rfl⟩
section
variable {w : Nat} {ob : Nat → Int32} {G C T : Nat → Nat} {ib : Nat → Int32} {R K : Nat → Nat} {ow ak : Nat → Bool} {ln : Nat → Int32} {O N : Nat → Nat} {L : Nat → List gb_F} {B : Nat → Nat → Nat} {s o : Nat} {post : SX → Prop}
theorem gm_all {post : Int32 → Prop} (h : gs_Ok w ob G C T ib R K ln O N L B) (h1 : C 0 = G 0 → C 1 = G 1 → post 1) (h0 : ¬ (C 0 = G 0 ∧ C 1 = G 1) → post 0) : wpX_isAllConfirmed post (gs_U w ob G C T ib R K ow ak ln O N) := by
  have b0 := (h.2 0 1 gm_p0).1.1
  have b1 := (h.2 1 0 gm_p1).1.1
  have c0 := (h.2 0 1 gm_p0).2.1.2.2
  have c1 := (h.2 1 0 gm_p1).2.1.2.2
  by_cases e0 : C 0 = G 0
  · refine br_t (congrArg nI e0) ?_
    by_cases e1 : C 1 = G 1
    · exact br_t (congrArg nI e1) (h1 e0 e1)
    · exact br_f (fun z => e1 ((nI_eq (by omega) (by omega)).mp z)) (h0 (fun z => e1 z.2))
  · exact br_f (fun z => e0 ((nI_eq (by omega) (by omega)).mp z)) (h0 (fun z => e0 z.1))
theorem gm_46w {n t : Nat} (h : gs_Ok w ob G C T ib R K ln O N L B) (hs : ∀ j, j < 2 → gs_Sat G T ow ak L j) (hP : gs_Post w ob G K B (gs_mu G T R ow ak L) (gs_zz G C T R ow ak L) (fun j => j < 2) (gm_K post n (t + 1))) : wX_letLineFinish_46 post (wX_letLineFinish_2 post n) (nI t) (nI w) ob (fun j => nI (G j)) (fun j => nI (C j)) (fun j => nI (T j)) ib (fun j => nI (R j)) (fun j => nI (K j)) (fun j => gs_bi (ow j)) (fun j => gs_bi (ak j)) ln (fun j => nI (O j)) (fun j => nI (N j)) := by
  unfold wX_letLineFinish_46
  refine gm_mv0 (s := 0) gm_p0 h hs ?_
  intro C1 T1 ib1 R1 ow1 ak1 ln1 O1 N1 L1 h1 m1 z1 s1
  refine gm_mv0 (s := 1) gm_p1 h1 s1 ?_
  intro C2 T2 ib2 R2 ow2 ak2 ln2 O2 N2 L2 h2 m2 z2 s2
  refine nm_r (nI_1 t) ?_
  exact hP C2 T2 ib2 R2 ow2 ak2 ln2 O2 N2 L2 h2 (Nat.le_trans m2 m1) (fun a b q z => z2 a b q (fun b' q' => z1 a b' q' z)) s2
theorem gm_46 {n t m : Nat} (h : gs_Ok w ob G C T ib R K ln O N L B) (hs : ∀ j, j < 2 → gs_Sat G T ow ak L j) (hL : ¬ (L 0 = [] ∧ L 1 = [])) (hm : (gs_mu G T R ow ak L) ≤ m + 1) (hP : gs_Post w ob G K B m (gs_zz G C T R ow ak L) (fun j => j < 2) (gm_K post n (t + 1))) : wX_letLineFinish_46 post (wX_letLineFinish_2 post n) (nI t) (nI w) ob (fun j => nI (G j)) (fun j => nI (C j)) (fun j => nI (T j)) ib (fun j => nI (R j)) (fun j => nI (K j)) (fun j => gs_bi (ow j)) (fun j => gs_bi (ak j)) ln (fun j => nI (O j)) (fun j => nI (N j)) := by
  unfold wX_letLineFinish_46
  cases h0 : L 0 with
  | cons f l =>
    refine gm_mvN (s := 0) gm_p0 h h0 hm ?_
    intro C1 T1 ib1 R1 ow1 ak1 ln1 O1 N1 L1 h1 m1 z1 s1
    refine gm_mv0 (s := 1) gm_p1 h1 s1 ?_
    intro C2 T2 ib2 R2 ow2 ak2 ln2 O2 N2 L2 h2 m2 z2 s2
    refine nm_r (nI_1 t) ?_
    exact hP C2 T2 ib2 R2 ow2 ak2 ln2 O2 N2 L2 h2 (Nat.le_trans m2 m1) (fun a b q z => z2 a b q (fun b' q' => z1 a b' q' z)) s2
  | nil =>
    refine gm_mvE (s := 0) gm_p0 h h0 ?_
    cases h1 : L 1 with
    | nil => exact absurd ⟨h0, h1⟩ hL
    | cons f l =>
      refine gm_mvN (s := 1) gm_p1 h h1 hm ?_
      intro C2 T2 ib2 R2 ow2 ak2 ln2 O2 N2 L2 h2 m2 z2 s2
      refine nm_r (nI_1 t) ?_
      exact hP C2 T2 ib2 R2 ow2 ak2 ln2 O2 N2 L2 h2 m2 z2 s2
/-- the head of a turn: dry, or at work -/
theorem gm_head {n t : Nat} (h : gs_Ok w ob G C T ib R K ln O N L B) (ht : t < 1000000) (hd : L 0 = [] → L 1 = [] → wpX_isAllConfirmed (fun r => (r = 0 → wpX_sendAgain (fun u => match u with | (a1, a2, a3, a4, a5, a6, a7, a8, a9, a10, a11, a12, a13) => wpX_sendAgain (fun u => match u with | (a1, a2, a3, a4, a5, a6, a7, a8, a9, a10, a11, a12, a13) => wX_letLineFinish_46 post (wX_letLineFinish_2 post n) (nI t) a1 a2 a3 a4 a5 a6 a7 a8 a9 a10 a11 a12 a13) (a1, a2, a3, a4, a5, a6, a7, a8, a9, a10, a11, a12, a13) 1) (gs_U w ob G C T ib R K ow ak ln O N) 0) ∧ (¬ r = 0 → post (gs_U w ob G C T ib R K ow ak ln O N))) (gs_U w ob G C T ib R K ow ak ln O N)) (hw : ¬ (L 0 = [] ∧ L 1 = []) → wX_letLineFinish_46 post (wX_letLineFinish_2 post n) (nI t) (nI w) ob (fun j => nI (G j)) (fun j => nI (C j)) (fun j => nI (T j)) ib (fun j => nI (R j)) (fun j => nI (K j)) (fun j => gs_bi (ow j)) (fun j => gs_bi (ak j)) ln (fun j => nI (O j)) (fun j => nI (N j))) : wX_letLineFinish_2 post (n + 1) (nI t) (nI w) ob (fun j => nI (G j)) (fun j => nI (C j)) (fun j => nI (T j)) ib (fun j => nI (R j)) (fun j => nI (K j)) (fun j => gs_bi (ow j)) (fun j => gs_bi (ak j)) ln (fun j => nI (O j)) (fun j => nI (N j)) := by
  have n0 := (h.2 0 1 gm_p0).2.1
  have n1 := (h.2 1 0 gm_p1).2.1
  have hw32 := h.1
  refine br_f (nI_ge (b := 1000000) ht (by decide)) ?_
  cases h0 : L 0 with
  | cons f l =>
    refine br_f ?_ (hw (fun z => by rw [h0] at z; cases z.1))
    rw [h0, List.length_cons] at n0
    exact nI_ne0 (by omega) (by omega)
  | nil =>
    rw [h0] at n0
    refine br_t (congrArg nI n0.1) ?_
    cases h1 : L 1 with
    | cons f l =>
      refine br_f ?_ (hw (fun z => by rw [h1] at z; cases z.2))
      rw [h1, List.length_cons] at n1
      exact nI_ne0 (by omega) (by omega)
    | nil =>
      rw [h1] at n1
      exact br_t (congrArg nI n1.1) (hd h0 h1)
end
section
variable {w : Nat} {ob : Nat → Int32} {G K : Nat → Nat} {B : Nat → Nat → Nat} {post : SX → Prop}
theorem gm_mupos {T R : Nat → Nat} {ow ak : Nat → Bool} {L : Nat → List gb_F} (hL : ¬ (L 0 = [] ∧ L 1 = [])) : 0 < (gs_mu G T R ow ak L) := by
  have h : 0 < (L 0).length + (L 1).length := by
    cases h0 : L 0 with
    | cons f l => rw [List.length_cons]; omega
    | nil =>
      cases h1 : L 1 with
      | cons f l => rw [List.length_cons]; omega
      | nil => exact absurd ⟨h0, h1⟩ hL
  unfold gs_mu gb_mu
  omega
/-- nothing is lost any more -/
theorem gm_fA (hF : gs_Fin w ob G K B post) : ∀ (n t : Nat) (C T : Nat → Nat) (ib : Nat → Int32) (R : Nat → Nat) (ow ak : Nat → Bool) (ln : Nat → Int32) (O N : Nat → Nat) (L : Nat → List gb_F), gs_Ok w ob G C T ib R K ln O N L B → (∀ j, j < 2 → gs_Sat G T ow ak L j) → (∀ a b, gs_p a b → gs_Zd G C T R ow ak L a b) → (gs_mu G T R ow ak L) < n → (gs_mu G T R ow ak L) + t < 1000000 → wX_letLineFinish_2 post n (nI t) (nI w) ob (fun j => nI (G j)) (fun j => nI (C j)) (fun j => nI (T j)) ib (fun j => nI (R j)) (fun j => nI (K j)) (fun j => gs_bi (ow j)) (fun j => gs_bi (ak j)) ln (fun j => nI (O j)) (fun j => nI (N j)) := by
  intro n
  induction n with
  | zero => intro t C T ib R ow ak ln O N L h hs hz hn _; exact absurd hn (Nat.not_lt_zero _)
  | succ n ih =>
    intro t C T ib R ow ak ln O N L h hs hz hn ht
    refine gm_head h (by omega) (fun h0 h1 => ?_) (fun hL => ?_)
    · have f0 := gs_fin h gm_p0 h0 h1 (hs 0 (by decide)) (hs 1 (by decide)) (hz 0 1 gm_p0)
      have f1 := gs_fin h gm_p1 h1 h0 (hs 1 (by decide)) (hs 0 (by decide)) (hz 1 0 gm_p1)
      refine gm_all h (fun _ _ => br_f (by decide) ?_) (fun z => absurd ⟨f0.1, f1.1⟩ z)
      refine hF C T ib R ow ak ln O N L h (fun j hj => ⟨hs j hj, ?_⟩) (fun a b q => ?_)
      · rcases Nat.lt_or_ge j 1 with e | e
        · rw [show j = 0 by omega]; exact h0
        · rw [show j = 1 by omega]; exact h1
      · rcases q with ⟨rfl, rfl⟩ | ⟨rfl, rfl⟩
        · exact f0
        · exact f1
    · have hm := gm_mupos (G := G) (T := T) (R := R) (ow := ow) (ak := ak) hL
      refine gm_46 (m := (gs_mu G T R ow ak L) - 1) h hs hL (by omega) ?_
      intro C1 T1 ib1 R1 ow1 ak1 ln1 O1 N1 L1 h1 m1 z1 s1
      exact ih (t + 1) C1 T1 ib1 R1 ow1 ak1 ln1 O1 N1 L1 h1 s1 (fun a b q => z1 a b q (fun b' q' => hz a b' q')) (by omega) (by omega)
theorem gm_done (hF : gs_Fin w ob G K B post) {C T : Nat → Nat} {ib : Nat → Int32} {R : Nat → Nat} {ow ak : Nat → Bool} {ln : Nat → Int32} {O N : Nat → Nat} {L : Nat → List gb_F} (h : gs_Ok w ob G C T ib R K ln O N L B) (hs : ∀ j, j < 2 → gs_Sat G T ow ak L j) (h0 : L 0 = []) (h1 : L 1 = []) (e0 : C 0 = G 0) (e1 : C 1 = G 1) : post (gs_U w ob G C T ib R K ow ak ln O N) := by
  have b0 := (h.2 0 1 gm_p0).1.1
  have b1 := (h.2 1 0 gm_p1).1.1
  refine hF C T ib R ow ak ln O N L h (fun j hj => ⟨hs j hj, ?_⟩) (fun a b q => ?_)
  · rcases Nat.lt_or_ge j 1 with e | e
    · rw [show j = 0 by omega]; exact h0
    · rw [show j = 1 by omega]; exact h1
  · rcases q with ⟨rfl, rfl⟩ | ⟨rfl, rfl⟩
    · exact ⟨e0, by omega⟩
    · exact ⟨e1, by omega⟩
/-- from any state -/
theorem gm_fB (hF : gs_Fin w ob G K B post) : ∀ (n t : Nat) (C T : Nat → Nat) (ib : Nat → Int32) (R : Nat → Nat) (ow ak : Nat → Bool) (ln : Nat → Int32) (O N : Nat → Nat) (L : Nat → List gb_F), gs_Ok w ob G C T ib R K ln O N L B → (∀ j, j < 2 → gs_Sat G T ow ak L j) → (gs_mu G T R ow ak L) + 11651 < n → (gs_mu G T R ow ak L) + t + 11651 < 1000000 → wX_letLineFinish_2 post n (nI t) (nI w) ob (fun j => nI (G j)) (fun j => nI (C j)) (fun j => nI (T j)) ib (fun j => nI (R j)) (fun j => nI (K j)) (fun j => gs_bi (ow j)) (fun j => gs_bi (ak j)) ln (fun j => nI (O j)) (fun j => nI (N j)) := by
  intro n
  induction n with
  | zero => intro t C T ib R ow ak ln O N L h hs hn _; exact absurd hn (Nat.not_lt_zero _)
  | succ n ih =>
    intro t C T ib R ow ak ln O N L h hs hn ht
    refine gm_head h (by omega) (fun h0 h1 => ?_) (fun hL => ?_)
    · refine gm_all h (fun e0 e1 => br_f (by decide) (gm_done hF h hs h0 h1 e0 e1)) (fun _ => br_t rfl ?_)
      refine gm_again (s := 0) gm_p0 h ?_
      intro C1 T1 ib1 R1 ow1 ak1 ln1 O1 N1 L1 h1 m1 z1 s1
      refine gm_again (s := 1) gm_p1 h1 ?_
      intro C2 T2 ib2 R2 ow2 ak2 ln2 O2 N2 L2 h2 m2 z2 s2
      refine gm_46w h2 (fun j hj => s2 j ?_) ?_
      · by_cases e : j = 1
        · exact Or.inl e
        · exact Or.inr (s1 j (Or.inl (by omega)))
      · intro C3 T3 ib3 R3 ow3 ak3 ln3 O3 N3 L3 h3 m3 z3 s3
        refine gm_fA hF n (t + 1) C3 T3 ib3 R3 ow3 ak3 ln3 O3 N3 L3 h3 s3 (fun a b q => z3 a b q (fun b' q' => z2 a b' q' ?_)) (by omega) (by omega)
        by_cases e : a = 1
        · exact Or.inl e
        · exact Or.inr (fun b2 q2 => z1 a b2 q2 (Or.inl (by unfold gs_p at q; omega)))
    · have hm := gm_mupos (G := G) (T := T) (R := R) (ow := ow) (ak := ak) hL
      refine gm_46 (m := (gs_mu G T R ow ak L) - 1) h hs hL (by omega) ?_
      intro C1 T1 ib1 R1 ow1 ak1 ln1 O1 N1 L1 h1 m1 z1 s1
      exact ih (t + 1) C1 T1 ib1 R1 ow1 ak1 ln1 O1 N1 L1 h1 s1 (by omega) (by omega)
theorem gm_finish {C T : Nat → Nat} {ib : Nat → Int32} {R : Nat → Nat} {ow ak : Nat → Bool} {ln : Nat → Int32} {O N : Nat → Nat} {L : Nat → List gb_F} (h : gs_Ok w ob G C T ib R K ln O N L B) (hs : ∀ j, j < 2 → gs_Sat G T ow ak L j) (hF : gs_Fin w ob G K B post) : wpX_letLineFinish post (gs_U w ob G C T ib R K ow ak ln O N) := by
  have hm := gs_mu_le (ow := ow) (ak := ak) h
  exact ⟨23302, gm_fB hF 23302 0 C T ib R ow ak ln O N L h hs (by omega) (by omega)⟩
end
end
section
/- the questions, once the line has finished -/
theorem gx_no0 {post : Int32 → Prop} {s o : Nat} (q : gs_p o s) (hp : post 0) : wpX_isNoStation post (nI o) := by
  rcases q with ⟨rfl, rfl⟩ | ⟨rfl, rfl⟩
  · exact br_t rfl hp
  · exact br_f (by decide) (br_t rfl hp)
theorem gx_no1 {post : Int32 → Prop} {x : Int32} (h0 : ¬ x = 0) (h1 : ¬ x = 1) (hp : post 1) : wpX_isNoStation post x := br_f h0 (br_f h1 hp)
section
variable {w : Nat} {ob : Nat → Int32} {G C T : Nat → Nat} {ib : Nat → Int32} {R K : Nat → Nat} {ow ak : Nat → Bool} {ln : Nat → Int32} {O N : Nat → Nat} {s o : Nat}
theorem gx_cw {post : Int32 → Prop} {n : Nat} (q : gs_p o s) (hn : R o = K o + n) (hp : post (nI n)) : wpX_countWaiting post (gs_U w ob G C T ib R K ow ak ln O N) (nI o) := by
  refine ⟨gm_i2 q, gm_i2 q, ?_⟩
  have e : (fun j => nI (R j)) (nI o).toNatClampNeg - (fun j => nI (K j)) (nI o).toNatClampNeg = nI n := by
    rw [gm_at q R, gm_at q K, pk_sub (by omega)]; exact congrArg nI (by omega)
  exact (congrArg post e).mpr hp
theorem gx_cell {post : Int32 → Prop} (q : gs_p o s) (i : Nat) (hp : post (ib (32 * o + (K o + i) % 32))) : wpX_cellAt post (gs_U w ob G C T ib R K ow ak ln O N) (nI o) (nI i) := by
  refine ⟨gm_i2 q, ?_⟩
  rw [gm_at q K, nI_add]
  refine gm_place _ o (K o + i) ⟨gm_i64 q _, ?_⟩
  rw [gm_c64 q]
  exact hp
theorem gx_nw {post : Int32 → Prop} {n : Nat} {x : Int32} (q : gs_p o s) (hn : R o = K o + n) (hb : n < 100) (h0 : ∀ i, i < n → x = nI i → post 0) (h1 : (x < 0 ∨ ¬ x < nI n) → post 1) : wpX_isNotWaiting post (gs_U w ob G C T ib R K ow ak ln O N) (nI o) x := by
  refine br_c (fun z => h1 (Or.inl z)) (fun z => gx_cw q hn (br_c (fun z2 => ?_) (fun z2 => h1 (Or.inr z2))))
  obtain ⟨j, hj, e⟩ := nI_of z
  rw [e] at z2
  exact h0 j ((nI_ltI hj (by omega)).mp z2) e
theorem gx_fmlA {post : Int32 → Prop} {n : Nat} {c : Nat → Nat} (q : gs_p o s) (hb : n < 100) (hc : ∀ i, i < n → ib (32 * o + (K o + i) % 32) = nI (c i)) {m : Nat} (hm : m < n) (h1 : c m / 256 % 2 = 1) (h0 : ∀ j, j < m → c j / 256 % 2 = 0) (hp : post (nI (m + 1))) : ∀ d i, i + d = m → wX_firstMessageLength_8 post (nI o) (nI n) (nI w) ob (fun j => nI (G j)) (fun j => nI (C j)) (fun j => nI (T j)) ib (fun j => nI (R j)) (fun j => nI (K j)) (fun j => gs_bi (ow j)) (fun j => gs_bi (ak j)) ln (fun j => nI (O j)) (fun j => nI (N j)) (d + 1) (nI i) := by
  intro d
  induction d with
  | zero =>
    intro i hi
    refine br_f (nI_ge (by omega) (by omega)) (gx_cell q i ?_)
    rw [hc i (by omega)]
    refine br_f ?_ ?_
    · rw [gn_b8, show i = m by omega, h1]; decide
    · rw [nI_1, show i = m by omega]; exact hp
  | succ d ih =>
    intro i hi
    refine br_f (nI_ge (by omega) (by omega)) (gx_cell q i ?_)
    rw [hc i (by omega)]
    refine br_t ?_ (nm_r (nI_1 i) (ih (i + 1) (by omega)))
    rw [gn_b8, h0 i (by omega)]
theorem gx_fmlB {post : Int32 → Prop} {n : Nat} {c : Nat → Nat} (q : gs_p o s) (hb : n < 100) (hc : ∀ i, i < n → ib (32 * o + (K o + i) % 32) = nI (c i)) (h0 : ∀ j, j < n → c j / 256 % 2 = 0) (hp : post 0) : ∀ d i, i + d = n → wX_firstMessageLength_8 post (nI o) (nI n) (nI w) ob (fun j => nI (G j)) (fun j => nI (C j)) (fun j => nI (T j)) ib (fun j => nI (R j)) (fun j => nI (K j)) (fun j => gs_bi (ow j)) (fun j => gs_bi (ak j)) ln (fun j => nI (O j)) (fun j => nI (N j)) (d + 1) (nI i) := by
  intro d
  induction d with
  | zero =>
    intro i hi
    exact br_t (nI_le (by omega) (by omega)) hp
  | succ d ih =>
    intro i hi
    refine br_f (nI_ge (by omega) (by omega)) (gx_cell q i ?_)
    rw [hc i (by omega)]
    refine br_t ?_ (nm_r (nI_1 i) (ih (i + 1) (by omega)))
    rw [gn_b8, h0 i (by omega)]
theorem gx_fml1 {post : Int32 → Prop} {n : Nat} {c : Nat → Nat} (q : gs_p o s) (hn : R o = K o + n) (hb : n < 100) (hc : ∀ i, i < n → ib (32 * o + (K o + i) % 32) = nI (c i)) {m : Nat} (hm : m < n) (h1 : c m / 256 % 2 = 1) (h0 : ∀ j, j < m → c j / 256 % 2 = 0) (hp : post (nI (m + 1))) : wpX_firstMessageLength post (gs_U w ob G C T ib R K ow ak ln O N) (nI o) := by
  unfold wpX_firstMessageLength
  refine gx_cw q hn ?_
  exact ⟨m + 1, gx_fmlA q hb hc hm h1 h0 hp m 0 (Nat.zero_add _)⟩
theorem gx_fml0 {post : Int32 → Prop} {n : Nat} {c : Nat → Nat} (q : gs_p o s) (hn : R o = K o + n) (hb : n < 100) (hc : ∀ i, i < n → ib (32 * o + (K o + i) % 32) = nI (c i)) (h0 : ∀ j, j < n → c j / 256 % 2 = 0) (hp : post 0) : wpX_firstMessageLength post (gs_U w ob G C T ib R K ow ak ln O N) (nI o) := by
  unfold wpX_firstMessageLength
  refine gx_cw q hn ?_
  exact ⟨n + 1, gx_fmlB q hb hc h0 hp n 0 (Nat.zero_add _)⟩
theorem gx_msg {post : Int32 → SX → Prop} {n : Nat} {c : Nat → Nat} (q : gs_p o s) (hb : n < 100) (hc : ∀ i, i < n → ib (32 * o + (K o + i) % 32) = nI (c i)) (hp : post (nI (gr_cnt c n)) (gs_U w ob G C T ib R K ow ak ln O N)) : ∀ d i, i + d = n → wX_messages_24 post (nI o) (nI n) (nI w) ob (fun j => nI (G j)) (fun j => nI (C j)) (fun j => nI (T j)) ib (fun j => nI (R j)) (fun j => nI (K j)) (fun j => gs_bi (ow j)) (fun j => gs_bi (ak j)) ln (fun j => nI (O j)) (fun j => nI (N j)) (d + 1) (nI (gr_cnt c i)) (nI i) := by
  intro d
  induction d with
  | zero =>
    intro i hi
    refine br_t (nI_le (by omega) (by omega)) ?_
    rw [show i = n by omega]; exact hp
  | succ d ih =>
    intro i hi
    have e : gr_cnt c (i + 1) = gr_cnt c i + c i / 256 % 2 := rfl
    refine br_f (nI_ge (by omega) (by omega)) (gx_cell q i ?_)
    rw [hc i (by omega)]
    have hi2 := ih (i + 1) (by omega)
    rw [e] at hi2
    by_cases h : c i / 256 % 2 = 0
    · rw [h] at hi2
      exact br_t ((gn_b8 _).mpr h) (nm_r (nI_1 i) hi2)
    · rw [show c i / 256 % 2 = 1 by omega] at hi2
      exact br_f (fun z => h ((gn_b8 _).mp z)) (nm_r (nI_1 _) (nm_r (nI_1 i) hi2))
theorem gx_sum {post : Int32 → SX → Prop} {n : Nat} {c : Nat → Nat} (q : gs_p o s) (hb : n < 100) (hc : ∀ i, i < n → ib (32 * o + (K o + i) % 32) = nI (c i)) (hp : post (nI (gr_sum c n)) (gs_U w ob G C T ib R K ow ak ln O N)) : ∀ d i, i + d = n → wX_sum_24 post (nI o) (nI n) (nI w) ob (fun j => nI (G j)) (fun j => nI (C j)) (fun j => nI (T j)) ib (fun j => nI (R j)) (fun j => nI (K j)) (fun j => gs_bi (ow j)) (fun j => gs_bi (ak j)) ln (fun j => nI (O j)) (fun j => nI (N j)) (d + 1) (nI (gr_sum c i)) (nI i) := by
  intro d
  induction d with
  | zero =>
    intro i hi
    refine br_t (nI_le (by omega) (by omega)) ?_
    rw [show i = n by omega]; exact hp
  | succ d ih =>
    intro i hi
    have e : gr_sum c (i + 1) = gr_sum c i + c i % 256 := rfl
    refine br_f (nI_ge (by omega) (by omega)) (gx_cell q i ?_)
    rw [hc i (by omega)]
    have hi2 := ih (i + 1) (by omega)
    rw [e] at hi2
    refine nm_r (e' := nI (gr_sum c i + c i % 256)) ?_ (nm_r (nI_1 i) hi2)
    rw [gn_m8, nI_add]
theorem gx_reset {post : SX → Prop} (hp : post (gs_U w ob (gb_u (gb_u G 0 0) 1 0) (gb_u (gb_u C 0 0) 1 0) (gb_u (gb_u T 0 0) 1 0) ib (gb_u (gb_u R 0 0) 1 0) (gb_u (gb_u K 0 0) 1 0) (gb_u (gb_u ow 0 false) 1 false) (gb_u (gb_u ak 0 false) 1 false) ln (gb_u (gb_u O 0 0) 1 0) (gb_u (gb_u N 0 0) 1 0))) : wpX_reset post (gs_U w ob G C T ib R K ow ak ln O N) := by
  refine ⟨3, br_f (by decide) ?_⟩
  have i0 := gm_i2 gm_p0
  have i1 := gm_i2 gm_p1
  refine ⟨i0, nm_r (gm_ui gm_p0 G 0 rfl) ⟨i0, nm_r (gm_ui gm_p0 C 0 rfl) ⟨i0, nm_r (gm_ui gm_p0 T 0 rfl) ⟨i0, nm_r (gm_ui gm_p0 R 0 rfl) ⟨i0, nm_r (gm_ui gm_p0 K 0 rfl) ⟨i0, nm_r (gm_ub gm_p0 ow false gm_n0) ⟨i0, nm_r (gm_ub gm_p0 ak false gm_n0) ⟨i0, nm_r (gm_ui gm_p0 O 0 rfl) ⟨i0, nm_r (gm_ui gm_p0 N 0 rfl) (nm_r (nI_1 0) ?_)⟩⟩⟩⟩⟩⟩⟩⟩⟩
  refine br_f (by decide) ?_
  refine ⟨i1, nm_r (gm_ui gm_p1 _ 0 rfl) ⟨i1, nm_r (gm_ui gm_p1 _ 0 rfl) ⟨i1, nm_r (gm_ui gm_p1 _ 0 rfl) ⟨i1, nm_r (gm_ui gm_p1 _ 0 rfl) ⟨i1, nm_r (gm_ui gm_p1 _ 0 rfl) ⟨i1, nm_r (gm_ub gm_p1 _ false gm_n0) ⟨i1, nm_r (gm_ub gm_p1 _ false gm_n0) ⟨i1, nm_r (gm_ui gm_p1 _ 0 rfl) ⟨i1, nm_r (gm_ui gm_p1 _ 0 rfl) (nm_r (nI_1 1) ?_)⟩⟩⟩⟩⟩⟩⟩⟩⟩
  exact br_t (by decide) hp
end
end
section
/- the reference's walks -/
theorem gy_bad0 {post : Int32 → Prop} {yb mk cn gn : Nat → Int32} {s o : Nat} (q : gs_p o s) (hp : post 0) : wpY_bad post (yb, mk, cn, gn) (nI o) := by
  rcases q with ⟨rfl, rfl⟩ | ⟨rfl, rfl⟩
  · exact br_f (by decide) (br_t (by decide) hp)
  · exact br_f (by decide) (br_t (by decide) hp)
theorem gy_bad1 {post : Int32 → Prop} {yb mk cn gn : Nat → Int32} {x : Int32} (h : x < 0 ∨ ¬ x ≤ 1) (hp : post 1) : wpY_bad post (yb, mk, cn, gn) x := by
  by_cases h0 : x < 0
  · exact br_t h0 hp
  · exact br_f h0 (br_f (h.resolve_left h0) hp)
theorem gy_x (o i : Nat) : nI o * 30 + nI i = nI (30 * o + i) := by
  show nI o * nI 30 + nI i = _
  rw [pk_mul, nI_add, Nat.mul_comm]
theorem gy_i {s o : Nat} (q : gs_p o s) {i : Nat} (h : i < 30) : vp_in (nI (30 * o + i)) 60 := vp_in_nI (by unfold gs_p at q; omega) (by decide)
theorem gy_c {s o : Nat} (q : gs_p o s) {i : Nat} (h : i < 30) : (nI (30 * o + i)).toNatClampNeg = 30 * o + i := nI_clamp (by unfold gs_p at q; omega)
section
variable {yb mk cn gn : Nat → Int32} {s o : Nat}
theorem gy_off_l {post : SY → Prop} (q : gs_p o s) {n c g : Nat} (hn : n ≤ c) (hc : cn o = nI c) (hg : gn o = nI g) (hn30 : n ≤ 30) (hp : ∀ yb' mk', (∀ i, i + n < 30 → yb' (30 * o + i) = yb (30 * o + i + n) ∧ mk' (30 * o + i) = vp_nar .boolean (mk (30 * o + i + n))) → (∀ j, (j < 30 * o ∨ 30 * o + 30 ≤ j) → yb' j = yb j ∧ mk' j = mk j) → post (yb', mk', upd cn o (nI (c - n)), upd gn o (nI (g + n)))) : ∀ (d i : Nat) (y1 m1 : Nat → Int32), i + d = 30 - n → (∀ k, k < i → y1 (30 * o + k) = yb (30 * o + k + n) ∧ m1 (30 * o + k) = vp_nar .boolean (mk (30 * o + k + n))) → (∀ j, (j < 30 * o ∨ 30 * o + i ≤ j) → y1 j = yb j ∧ m1 j = mk j) → wY_off_2 post (nI o) (nI n) (d + 1) (nI i) y1 m1 cn gn := by
  intro d
  induction d with
  | zero =>
    intro i y1 m1 hi h1 h2
    have e1 : cn (nI o).toNatClampNeg - nI n = nI (c - n) := by rw [gm_c q, hc, pk_sub hn]
    have e2 : gn (nI o).toNatClampNeg + nI n = nI (g + n) := by rw [gm_c q, hg, nI_add]
    refine br_t ?_ ⟨gm_i2 q, gm_i2 q, nm_r (e' := upd cn o (nI (c - n))) ?_ ⟨gm_i2 q, gm_i2 q, nm_r (e' := upd gn o (nI (g + n))) ?_ ?_⟩⟩
    · rw [nI_add]; exact nI_le (a := 30) (by omega) (by omega)
    · rw [e1, gm_c q]
    · rw [e2, gm_c q]
    · exact hp y1 m1 (fun k hk => h1 k (by omega)) (fun j hj => h2 j (by omega))
  | succ d ih =>
    intro i y1 m1 hi h1 h2
    have hx : nI o * 30 + nI i = nI (30 * o + i) := gy_x o i
    have hx2 : nI o * 30 + nI i + nI n = nI (30 * o + (i + n)) := by rw [hx, nI_add, Nat.add_assoc]
    have i1 : vp_in (nI o * 30 + nI i + nI n) 60 := by rw [hx2]; exact gy_i q (by omega)
    have i2 : vp_in (nI o * 30 + nI i) 60 := by rw [hx]; exact gy_i q (by omega)
    have c1 : (nI o * 30 + nI i + nI n).toNatClampNeg = 30 * o + i + n := by rw [hx2, gy_c q (by omega), Nat.add_assoc]
    have c2 : (nI o * 30 + nI i).toNatClampNeg = 30 * o + i := by rw [hx]; exact gy_c q (by omega)
    have v := h2 (30 * o + i + n) (Or.inr (by omega))
    refine br_f ?_ ⟨i1, i2, nm_r (e' := upd y1 (30 * o + i) (yb (30 * o + i + n))) ?_ ⟨i1, i2, nm_r (e' := upd m1 (30 * o + i) (vp_nar .boolean (mk (30 * o + i + n)))) ?_ (nm_r (nI_1 i) (ih (i + 1) _ _ (by omega) ?_ ?_))⟩⟩
    · rw [nI_add]; exact nI_ge (b := 30) (by omega) (by decide)
    · rw [c1, c2, v.1]
    · rw [c1, c2, v.2]
    · intro k hk
      rcases Nat.lt_or_ge k i with h | h
      · rw [pk_un (by omega), pk_un (by omega)]; exact h1 k h
      · rw [show k = i by omega, pk_us, pk_us]; exact ⟨rfl, rfl⟩
    · intro j hj
      rw [pk_un (by omega), pk_un (by omega)]
      exact h2 j (by omega)
theorem gy_off {post : SY → Prop} (q : gs_p o s) {n c g : Nat} (hn : n ≤ c) (hc : cn o = nI c) (hg : gn o = nI g) (hn30 : n ≤ 30) (hp : ∀ yb' mk', (∀ i, i + n < 30 → yb' (30 * o + i) = yb (30 * o + i + n) ∧ mk' (30 * o + i) = vp_nar .boolean (mk (30 * o + i + n))) → (∀ j, (j < 30 * o ∨ 30 * o + 30 ≤ j) → yb' j = yb j ∧ mk' j = mk j) → post (yb', mk', upd cn o (nI (c - n)), upd gn o (nI (g + n)))) : wpY_off post (yb, mk, cn, gn) (nI o) (nI n) :=
  ⟨(30 - n) + 1, gy_off_l q hn hc hg hn30 hp (30 - n) 0 yb mk (Nat.zero_add _) (fun k hk => absurd hk (Nat.not_lt_zero k)) (fun _ _ => ⟨rfl, rfl⟩)⟩
theorem gy_at {a : Nat → Int32} (q : gs_p o s) {v : Int32} (h : a o = v) : a (nI o).toNatClampNeg = v := by rw [gm_c q]; exact h
theorem gy_msg {post : Int32 → Prop} {n : Nat} {c : Nat → Nat} (q : gs_p o s) (hb : n ≤ 30) (hc : cn o = nI n) (hm : ∀ i, i < n → mk (30 * o + i) = nI (c i / 256 % 2)) (hp : post (nI (gr_cnt c n))) : ∀ d i, i + d = n → wY_messages_14 post (nI o) yb mk cn gn (d + 1) (nI (gr_cnt c i)) (nI i) := by
  intro d
  induction d with
  | zero =>
    intro i hi
    refine ⟨gm_i2 q, br_t ?_ ?_⟩
    · rw [gy_at q hc]; exact nI_le (by omega) (by omega)
    · rw [show i = n by omega]; exact hp
  | succ d ih =>
    intro i hi
    have e : gr_cnt c (i + 1) = gr_cnt c i + c i / 256 % 2 := rfl
    have hi2 := ih (i + 1) (by omega)
    rw [e] at hi2
    have c2 : mk (nI o * 30 + nI i).toNatClampNeg = nI (c i / 256 % 2) := by rw [gy_x, gy_c q (by omega)]; exact hm i (by omega)
    refine ⟨gm_i2 q, br_f ?_ ⟨?_, ?_⟩⟩
    · rw [gy_at q hc]; exact nI_ge (by omega) (by omega)
    · rw [gy_x]; exact gy_i q (by omega)
    · by_cases h : c i / 256 % 2 = 0
      · rw [h] at hi2 c2
        exact br_t c2 (nm_r (nI_1 i) hi2)
      · have h1 : c i / 256 % 2 = 1 := by omega
        rw [h1] at hi2 c2
        exact br_f (by rw [c2]; decide) (nm_r (nI_1 _) (nm_r (nI_1 i) hi2))
theorem gy_sum {post : Int32 → Prop} {n : Nat} {c : Nat → Nat} (q : gs_p o s) (hb : n ≤ 30) (hc : cn o = nI n) (hm : ∀ i, i < n → yb (30 * o + i) = nI (c i % 256)) (hp : post (nI (gr_sum c n))) : ∀ d i, i + d = n → wY_sum_14 post (nI o) yb mk cn gn (d + 1) (nI (gr_sum c i)) (nI i) := by
  intro d
  induction d with
  | zero =>
    intro i hi
    refine ⟨gm_i2 q, br_t ?_ ?_⟩
    · rw [gy_at q hc]; exact nI_le (by omega) (by omega)
    · rw [show i = n by omega]; exact hp
  | succ d ih =>
    intro i hi
    have e : gr_sum c (i + 1) = gr_sum c i + c i % 256 := rfl
    have hi2 := ih (i + 1) (by omega)
    rw [e] at hi2
    have c2 : yb (nI o * 30 + nI i).toNatClampNeg = nI (c i % 256) := by rw [gy_x, gy_c q (by omega)]; exact hm i (by omega)
    refine ⟨gm_i2 q, br_f ?_ ⟨?_, nm_r (e' := nI (gr_sum c i + c i % 256)) ?_ (nm_r (nI_1 i) hi2)⟩⟩
    · rw [gy_at q hc]; exact nI_ge (by omega) (by omega)
    · rw [gy_x]; exact gy_i q (by omega)
    · rw [c2, nI_add]
theorem gy_tmA {post : Int32 → SY → Prop} {n : Nat} {c : Nat → Nat} (q : gs_p o s) (hb : n ≤ 30) (hc : cn o = nI n) (hm : ∀ i, i < n → mk (30 * o + i) = nI (c i / 256 % 2)) {m : Nat} (hmn : m < n) (h1 : c m / 256 % 2 = 1) (h0 : ∀ j, j < m → c j / 256 % 2 = 0) (hp : wpY_off (fun u => post (nI (m + 1)) u) (yb, mk, cn, gn) (nI o) (nI (m + 1))) : ∀ d i, i + d = m → wY_takeMessage_12 post (nI o) yb mk cn gn (d + 1) (nI i) := by
  intro d
  induction d with
  | zero =>
    intro i hi
    have hi' : i = m := by omega
    subst hi'
    have c2 : mk (nI o * 30 + nI i).toNatClampNeg = nI (c i / 256 % 2) := by rw [gy_x, gy_c q (by omega)]; exact hm i (by omega)
    rw [h1] at c2
    refine ⟨gm_i2 q, br_f ?_ ⟨?_, br_f (by rw [c2]; decide) ?_⟩⟩
    · rw [gy_at q hc]; exact nI_ge (by omega) (by omega)
    · rw [gy_x]; exact gy_i q (by omega)
    · rw [nI_1]; exact hp
  | succ d ih =>
    intro i hi
    have c2 : mk (nI o * 30 + nI i).toNatClampNeg = nI (c i / 256 % 2) := by rw [gy_x, gy_c q (by omega)]; exact hm i (by omega)
    rw [h0 i (by omega)] at c2
    refine ⟨gm_i2 q, br_f ?_ ⟨?_, br_t c2 (nm_r (nI_1 i) (ih (i + 1) (by omega)))⟩⟩
    · rw [gy_at q hc]; exact nI_ge (by omega) (by omega)
    · rw [gy_x]; exact gy_i q (by omega)
theorem gy_tmB {post : Int32 → SY → Prop} {n : Nat} {c : Nat → Nat} (q : gs_p o s) (hb : n ≤ 30) (hc : cn o = nI n) (hm : ∀ i, i < n → mk (30 * o + i) = nI (c i / 256 % 2)) (h0 : ∀ j, j < n → c j / 256 % 2 = 0) (hp : post (-3) (yb, mk, cn, gn)) : ∀ d i, i + d = n → wY_takeMessage_12 post (nI o) yb mk cn gn (d + 1) (nI i) := by
  intro d
  induction d with
  | zero =>
    intro i hi
    refine ⟨gm_i2 q, br_t ?_ hp⟩
    rw [gy_at q hc]; exact nI_le (by omega) (by omega)
  | succ d ih =>
    intro i hi
    have c2 : mk (nI o * 30 + nI i).toNatClampNeg = nI (c i / 256 % 2) := by rw [gy_x, gy_c q (by omega)]; exact hm i (by omega)
    rw [h0 i (by omega)] at c2
    refine ⟨gm_i2 q, br_f ?_ ⟨?_, br_t c2 (nm_r (nI_1 i) (ih (i + 1) (by omega)))⟩⟩
    · rw [gy_at q hc]; exact nI_ge (by omega) (by omega)
    · rw [gy_x]; exact gy_i q (by omega)
end
end
section
/- the relation -/
def i_Rel (k : Nat) (u : SX) (v : SY) : Prop :=
  ∃ (w : Nat) (ob : Nat → Int32) (G C T : Nat → Nat) (ib : Nat → Int32) (R K : Nat → Nat) (ow ak : Nat → Bool) (ln : Nat → Int32) (O N : Nat → Nat) (L : Nat → List gb_F) (B : Nat → Nat → Nat) (yb mk cn gn : Nat → Int32),
    u = (gs_U w ob G C T ib R K ow ak ln O N) ∧ v = (yb, mk, cn, gn) ∧ gs_Ok w ob G C T ib R K ln O N L B ∧ (∀ j, j < 2 → gs_Sat G T ow ak L j) ∧ (∀ j, j < 2 → G j ≤ k) ∧ gr_Y G K B yb mk cn gn
theorem i_up {k : Nat} {u : SX} {v : SY} (h : i_Rel k u v) : i_Rel (k + 4) u v := by
  obtain ⟨w, ob, G, C, T, ib, R, K, ow, ak, ln, O, N, L, B, yb, mk, cn, gn, e1, e2, h1, h2, h3, h4⟩ := h
  exact ⟨w, ob, G, C, T, ib, R, K, ow, ak, ln, O, N, L, B, yb, mk, cn, gn, e1, e2, h1, h2, fun j hj => Nat.le_trans (h3 j hj) (Nat.le_add_right _ _), h4⟩
section
variable {w : Nat} {ob : Nat → Int32} {G C T : Nat → Nat} {ib : Nat → Int32} {R K : Nat → Nat} {ow ak : Nat → Bool} {ln : Nat → Int32} {O N : Nat → Nat} {L : Nat → List gb_F} {B : Nat → Nat → Nat} {s o k : Nat} {yb mk cn gn : Nat → Int32}
theorem gi_mk (h : gs_Ok w ob G C T ib R K ln O N L B) (hs : ∀ j, j < 2 → gs_Sat G T ow ak L j) (hk : ∀ j, j < 2 → G j ≤ k) (y : gr_Y G K B yb mk cn gn) : i_Rel (k + 4) (gs_U w ob G C T ib R K ow ak ln O N) (yb, mk, cn, gn) :=
  ⟨w, ob, G, C, T, ib, R, K, ow, ak, ln, O, N, L, B, yb, mk, cn, gn, rfl, rfl, h, hs, fun j hj => Nat.le_trans (hk j hj) (Nat.le_add_right _ _), y⟩
theorem gi_mk4 (h : gs_Ok w ob G C T ib R K ln O N L B) (hs : ∀ j, j < 2 → gs_Sat G T ow ak L j) (hk : ∀ j, j < 2 → G j ≤ k + 4) (y : gr_Y G K B yb mk cn gn) : i_Rel (k + 4) (gs_U w ob G C T ib R K ow ak ln O N) (yb, mk, cn, gn) :=
  ⟨w, ob, G, C, T, ib, R, K, ow, ak, ln, O, N, L, B, yb, mk, cn, gn, rfl, rfl, h, hs, hk, y⟩
theorem gi_facts (h : gs_Ok w ob G C T ib R K ln O N L B) (p : gs_p s o) (f : C s = G s ∧ R o = G s) : R o = K o + (G s - K o) ∧ G s - K o ≤ 30 ∧ (∀ i, i < G s - K o → ib (32 * o + (K o + i) % 32) = nI (B s (K o + i))) ∧ K o ≤ G s ∧ G s ≤ 4000 := by
  have hD := h.2 s o p
  have h1 := hD.1.1
  refine ⟨by omega, by omega, fun i hi => hD.2.2.2.2.1 (K o + i) (by omega) (by omega), by omega, hD.2.1.2.2⟩
theorem gi_y (y : gr_Y G K B yb mk cn gn) (p : gs_p s o) : cn o = nI (G s - K o) ∧ gn o = nI (K o) ∧ (∀ i, i < G s - K o → yb (30 * o + i) = nI (B s (K o + i) % 256)) ∧ (∀ i, i < G s - K o → mk (30 * o + i) = nI (B s (K o + i) / 256 % 2)) :=
  ⟨(y s o p).1, (y s o p).2.1, fun i hi => ((y s o p).2.2 i hi).1, fun i hi => ((y s o p).2.2 i hi).2⟩
/-- bytes leave on both sides -/
theorem gi_off {post : SY → Prop} {n : Nat} (h : gs_Ok w ob G C T ib R K ln O N L B) (hs : ∀ j, j < 2 → gs_Sat G T ow ak L j ∧ L j = []) (hk : ∀ j, j < 2 → G j ≤ k) (y : gr_Y G K B yb mk cn gn) (p : gs_p s o) (f : C s = G s ∧ R o = G s) (hn : n ≤ G s - K o) (hp : ∀ yb' mk' cn' gn', i_Rel (k + 4) (gs_U w ob G C T ib R (gb_u K o (K o + n)) ow ak ln O N) (yb', mk', cn', gn') → post (yb', mk', cn', gn')) : wpY_off post (yb, mk, cn, gn) (nI o) (nI n) := by
  have fa := gi_facts h p f
  have fy := gi_y y p
  refine gy_off (gs_sw p) hn fy.1 fy.2.1 (by omega) (fun yb' mk' h1 h2 => hp _ _ _ _ ?_)
  refine gi_mk (gs_K h p (hs s (by unfold gs_p at p; omega)).2 (hs o (by unfold gs_p at p; omega)).2 (by omega)) (fun j hj => (hs j hj).1) hk ?_
  exact gr_off h y p hn h1 h2
end
theorem gi_init {w : Nat} (hw : 1 ≤ w ∧ w ≤ 32) : i_Rel 1 (nI w, (fun _ => 0), (fun _ => 0), (fun _ => 0), (fun _ => 0), (fun _ => 0), (fun _ => 0), (fun _ => 0), (fun _ => 0), (fun _ => 0), (fun _ => 0), (fun _ => 0), (fun _ => 0)) ((fun _ => 0), (fun _ => 0), (fun _ => 0), (fun _ => 0)) :=
  ⟨w, fun _ => 0, fun _ => 0, fun _ => 0, fun _ => 0, fun _ => 0, fun _ => 0, fun _ => 0, fun _ => false, fun _ => false, fun _ => 0, fun _ => 0, fun _ => 0, fun _ => [], fun _ _ => 0, fun _ => 0, fun _ => 0, fun _ => 0, fun _ => 0, rfl, rfl,
    gs_fresh hw (fun _ _ => ⟨⟨rfl, rfl, rfl, rfl⟩, rfl, rfl⟩), fun _ _ _ => ⟨rfl, rfl, rfl⟩, fun _ _ => Nat.zero_le _, fun _ _ _ => ⟨rfl, rfl, fun i hi => absurd hi (Nat.not_lt_zero i)⟩⟩
theorem i_vc0 (k0 : Int32) : wpX_init (fun u => wpY_init (fun v => i_Rel 1 u v) k0) k0 := by
  refine br_c (fun h1 => br_c (fun h2 => ?_) (fun h2 => ?_)) (fun h1 => ?_)
  · have hz : ¬ k0 < 0 := fun z => absurd (Int32.lt_of_lt_of_le z (by decide : (0 : Int32) ≤ 1)) (Int32.not_lt.mpr h1)
    obtain ⟨j, hj, rfl⟩ := nI_of hz
    have a : 1 ≤ j := (nI_leI (a := 1) (by decide) hj).mp h1
    have b : j ≤ 32 := (nI_leI (b := 32) hj (by decide)).mp h2
    exact gi_init ⟨a, b⟩
  · exact gi_init (w := 32) (by decide)
  · exact gi_init (w := 1) (by decide)
end
section
/- the calls, one by one: those that answer alone -/
theorem i_vc_waiting {k : Nat} {u : SX} {v : SY} (I : i_Rel k u v) (hk : k + 4 ≤ 2049) (v1 : Int32) : wpX_waiting (fun r u' => wpY_waiting (fun r' => r' = r ∧ i_Rel (k + 4) u' v) v v1) u v1 := by
  obtain ⟨w, ob, G, C, T, ib, R, K, ow, ak, ln, O, N, L, B, yb, mk, cn, gn, rfl, rfl, h, hs, hG, y⟩ := I
  rcases gr_st v1 with ⟨s, o, p, rfl⟩ | ⟨b0, b1, b2⟩
  · have q := gs_sw p
    have fy := gi_y y p
    unfold wpX_waiting
    refine gx_no0 q ?_
    refine br_t rfl ?_
    refine gm_finish h hs ?_
    intro C1 T1 ib1 R1 ow1 ak1 ln1 O1 N1 L1 h1 s1 f1
    have fa := gi_facts h1 p (f1 s o p)
    have J := gi_mk h1 (fun j hj => (s1 j hj).1) hG y
    refine gx_cw q fa.1 ?_
    unfold wpY_waiting
    refine gy_bad0 q ?_
    refine br_t rfl ?_
    exact ⟨gm_i2 q, gy_at q fy.1, J⟩
  · have hbad := trivial
    have J := gi_mk h hs hG y
    unfold wpX_waiting
    refine gx_no1 b0 b1 ?_
    refine br_f (by decide) ?_
    unfold wpY_waiting
    refine gy_bad1 b2 ?_
    exact br_f (by decide) ⟨rfl, J⟩
theorem i_vc_done {k : Nat} {u : SX} {v : SY} (I : i_Rel k u v) (hk : k + 4 ≤ 2049) (v1 : Int32) : wpX_done (fun r u' => wpY_done (fun r' => r' = r ∧ i_Rel (k + 4) u' v) v v1) u v1 := by
  obtain ⟨w, ob, G, C, T, ib, R, K, ow, ak, ln, O, N, L, B, yb, mk, cn, gn, rfl, rfl, h, hs, hG, y⟩ := I
  rcases gr_st v1 with ⟨s, o, p, rfl⟩ | ⟨b0, b1, b2⟩
  · have q := gs_sw p
    have fy := gi_y y p
    unfold wpX_done
    refine gx_no0 q ?_
    refine br_t rfl ?_
    refine gm_finish h hs ?_
    intro C1 T1 ib1 R1 ow1 ak1 ln1 O1 N1 L1 h1 s1 f1
    have fa := gi_facts h1 p (f1 s o p)
    have J := gi_mk h1 (fun j hj => (s1 j hj).1) hG y
    refine ⟨gm_i2 q, ?_⟩
    unfold wpY_done
    refine gy_bad0 q ?_
    refine br_t rfl ?_
    exact ⟨gm_i2 q, (gy_at q fy.2.1).trans (gm_at q K).symm, J⟩
  · have hbad := trivial
    have J := gi_mk h hs hG y
    unfold wpX_done
    refine gx_no1 b0 b1 ?_
    refine br_f (by decide) ?_
    unfold wpY_done
    refine gy_bad1 b2 ?_
    exact br_f (by decide) ⟨rfl, J⟩
theorem i_vc_messages {k : Nat} {u : SX} {v : SY} (I : i_Rel k u v) (hk : k + 4 ≤ 2049) (v1 : Int32) : wpX_messages (fun r u' => wpY_messages (fun r' => r' = r ∧ i_Rel (k + 4) u' v) v v1) u v1 := by
  obtain ⟨w, ob, G, C, T, ib, R, K, ow, ak, ln, O, N, L, B, yb, mk, cn, gn, rfl, rfl, h, hs, hG, y⟩ := I
  rcases gr_st v1 with ⟨s, o, p, rfl⟩ | ⟨b0, b1, b2⟩
  · have q := gs_sw p
    have fy := gi_y y p
    unfold wpX_messages
    refine gx_no0 q ?_
    refine br_t rfl ?_
    refine gm_finish h hs ?_
    intro C1 T1 ib1 R1 ow1 ak1 ln1 O1 N1 L1 h1 s1 f1
    have fa := gi_facts h1 p (f1 s o p)
    have J := gi_mk h1 (fun j hj => (s1 j hj).1) hG y
    refine gx_cw q fa.1 ?_
    refine ⟨G s - K o + 1, ?_⟩
    refine gx_msg (c := fun i => B s (K o + i)) q (by omega) fa.2.2.1 ?_ (G s - K o) 0 (Nat.zero_add _)
    unfold wpY_messages
    refine gy_bad0 q ?_
    refine br_t rfl ?_
    refine ⟨G s - K o + 1, ?_⟩
    exact gy_msg (c := fun i => B s (K o + i)) q fa.2.1 fy.1 fy.2.2.2 ⟨rfl, J⟩ (G s - K o) 0 (Nat.zero_add _)
  · have hbad := trivial
    have J := gi_mk h hs hG y
    unfold wpX_messages
    refine gx_no1 b0 b1 ?_
    refine br_f (by decide) ?_
    unfold wpY_messages
    refine gy_bad1 b2 ?_
    exact br_f (by decide) ⟨rfl, J⟩
theorem i_vc_sum {k : Nat} {u : SX} {v : SY} (I : i_Rel k u v) (hk : k + 4 ≤ 2049) (v1 : Int32) : wpX_sum (fun r u' => wpY_sum (fun r' => r' = r ∧ i_Rel (k + 4) u' v) v v1) u v1 := by
  obtain ⟨w, ob, G, C, T, ib, R, K, ow, ak, ln, O, N, L, B, yb, mk, cn, gn, rfl, rfl, h, hs, hG, y⟩ := I
  rcases gr_st v1 with ⟨s, o, p, rfl⟩ | ⟨b0, b1, b2⟩
  · have q := gs_sw p
    have fy := gi_y y p
    unfold wpX_sum
    refine gx_no0 q ?_
    refine br_t rfl ?_
    refine gm_finish h hs ?_
    intro C1 T1 ib1 R1 ow1 ak1 ln1 O1 N1 L1 h1 s1 f1
    have fa := gi_facts h1 p (f1 s o p)
    have J := gi_mk h1 (fun j hj => (s1 j hj).1) hG y
    refine gx_cw q fa.1 ?_
    refine ⟨G s - K o + 1, ?_⟩
    refine gx_sum (c := fun i => B s (K o + i)) q (by omega) fa.2.2.1 ?_ (G s - K o) 0 (Nat.zero_add _)
    unfold wpY_sum
    refine gy_bad0 q ?_
    refine br_t rfl ?_
    refine ⟨G s - K o + 1, ?_⟩
    exact gy_sum (c := fun i => B s (K o + i)) q fa.2.1 fy.1 fy.2.2.1 ⟨rfl, J⟩ (G s - K o) 0 (Nat.zero_add _)
  · have hbad := trivial
    have J := gi_mk h hs hG y
    unfold wpX_sum
    refine gx_no1 b0 b1 ?_
    refine br_f (by decide) ?_
    unfold wpY_sum
    refine gy_bad1 b2 ?_
    exact br_f (by decide) ⟨rfl, J⟩
theorem i_vc_peek {k : Nat} {u : SX} {v : SY} (I : i_Rel k u v) (hk : k + 4 ≤ 2049) (v1 : Int32) (v2 : Int32) : wpX_peek (fun r u' => wpY_peek (fun r' => r' = r ∧ i_Rel (k + 4) u' v) v v1 v2) u v1 v2 := by
  obtain ⟨w, ob, G, C, T, ib, R, K, ow, ak, ln, O, N, L, B, yb, mk, cn, gn, rfl, rfl, h, hs, hG, y⟩ := I
  rcases gr_st v1 with ⟨s, o, p, rfl⟩ | ⟨b0, b1, b2⟩
  · have q := gs_sw p
    have fy := gi_y y p
    unfold wpX_peek
    refine gx_no0 q ?_
    refine br_t rfl ?_
    refine gm_finish h hs ?_
    intro C1 T1 ib1 R1 ow1 ak1 ln1 O1 N1 L1 h1 s1 f1
    have fa := gi_facts h1 p (f1 s o p)
    have J := gi_mk h1 (fun j hj => (s1 j hj).1) hG y
    refine gx_nw q fa.1 (by omega) (fun i hi ex => ?_) (fun hz => ?_)
    · subst ex
      refine br_t rfl ?_
      refine gx_cell q i ?_
      rw [fa.2.2.1 i hi, gn_m8]
      unfold wpY_peek
      refine gy_bad0 q ?_
      refine br_t rfl ?_
      refine br_f (nI_pos (by omega)) ⟨gm_i2 q, br_t ?_ ⟨?_, ?_, J⟩⟩
      · rw [gy_at q fy.1]; exact nI_lt hi (by omega)
      · rw [gy_x]; exact gy_i q (by omega)
      · rw [gy_x, gy_c q (by omega)]; exact fy.2.2.1 i hi
    · refine br_f (by decide) ?_
      unfold wpY_peek
      refine gy_bad0 q ?_
      refine br_t rfl ?_
      by_cases h0 : v2 < 0
      · exact br_t h0 ⟨rfl, J⟩
      · refine br_f h0 ⟨gm_i2 q, br_f ?_ ⟨rfl, J⟩⟩
        rw [gy_at q fy.1]; exact hz.resolve_left h0
  · have hbad := trivial
    have J := gi_mk h hs hG y
    unfold wpX_peek
    refine gx_no1 b0 b1 ?_
    refine br_f (by decide) ?_
    unfold wpY_peek
    refine gy_bad1 b2 ?_
    exact br_f (by decide) ⟨rfl, J⟩
theorem gi_ends {yb mk cn gn : Nat → Int32} {s o i n : Nat} (q : gs_p o s) (hc : cn o = nI n) (hi : i < n) (hn : n ≤ 30) (P : Int32 → Prop) (g0 : mk (30 * o + i) = 0 → P 0) (g1 : ¬ mk (30 * o + i) = 0 → P 1) : wpY_ends P (yb, mk, cn, gn) (nI o) (nI i) := by
  unfold wpY_ends
  refine gy_bad0 q ?_
  refine br_t rfl ?_
  refine br_f (nI_pos (by omega)) ⟨gm_i2 q, br_f ?_ ⟨?_, ?_⟩⟩
  · rw [gy_at q hc]; exact nI_ge hi (by omega)
  · rw [gy_x]; exact gy_i q (by omega)
  · rw [gy_x, gy_c q (by omega)]; exact br_c g0 g1
theorem i_vc_ends {k : Nat} {u : SX} {v : SY} (I : i_Rel k u v) (hk : k + 4 ≤ 2049) (v1 : Int32) (v2 : Int32) : wpX_ends (fun r u' => wpY_ends (fun r' => r' = r ∧ i_Rel (k + 4) u' v) v v1 v2) u v1 v2 := by
  obtain ⟨w, ob, G, C, T, ib, R, K, ow, ak, ln, O, N, L, B, yb, mk, cn, gn, rfl, rfl, h, hs, hG, y⟩ := I
  rcases gr_st v1 with ⟨s, o, p, rfl⟩ | ⟨b0, b1, b2⟩
  · have q := gs_sw p
    have fy := gi_y y p
    unfold wpX_ends
    refine gx_no0 q ?_
    refine br_t rfl ?_
    refine gm_finish h hs ?_
    intro C1 T1 ib1 R1 ow1 ak1 ln1 O1 N1 L1 h1 s1 f1
    have fa := gi_facts h1 p (f1 s o p)
    have J := gi_mk h1 (fun j hj => (s1 j hj).1) hG y
    refine gx_nw q fa.1 (by omega) (fun i hi ex => ?_) (fun hz => ?_)
    · subst ex
      refine br_t rfl ?_
      refine gx_cell q i ?_
      rw [fa.2.2.1 i hi]
      have hm := fy.2.2.2 i hi
      by_cases hb : B s (K o + i) / 256 % 2 = 0
      · rw [hb] at hm
        refine br_t ((gn_b8 _).mpr hb) ?_
        exact gi_ends q fy.1 hi fa.2.1 _ (fun _ => ⟨rfl, J⟩) (fun z => absurd hm z)
      · rw [show B s (K o + i) / 256 % 2 = 1 by omega] at hm
        refine br_f (fun z => hb ((gn_b8 _).mp z)) ?_
        exact gi_ends q fy.1 hi fa.2.1 _ (fun z => absurd (hm.symm.trans z) (by decide)) (fun _ => ⟨rfl, J⟩)
    · refine br_f (by decide) ?_
      unfold wpY_ends
      refine gy_bad0 q ?_
      refine br_t rfl ?_
      by_cases h0 : v2 < 0
      · exact br_t h0 ⟨rfl, J⟩
      · refine br_f h0 ⟨gm_i2 q, br_t ?_ ⟨rfl, J⟩⟩
        rw [gy_at q fy.1]; exact Int32.not_lt.mp (hz.resolve_left h0)
  · have hbad := trivial
    have J := gi_mk h hs hG y
    unfold wpX_ends
    refine gx_no1 b0 b1 ?_
    refine br_f (by decide) ?_
    unfold wpY_ends
    refine gy_bad1 b2 ?_
    exact br_f (by decide) ⟨rfl, J⟩
end
section
/- the calls that change something -/
theorem i_vc_skip {k : Nat} {u : SX} {v : SY} (I : i_Rel k u v) (hk : k + 4 ≤ 2049) (v1 : Int32) : wpX_skip (fun r u' => wpY_skip (fun r' v' => r' = r ∧ i_Rel (k + 4) u' v') v v1) u v1 := by
  obtain ⟨w, ob, G, C, T, ib, R, K, ow, ak, ln, O, N, L, B, yb, mk, cn, gn, rfl, rfl, h, hs, hG, y⟩ := I
  rcases gr_st v1 with ⟨s, o, p, rfl⟩ | ⟨b0, b1, b2⟩
  · have q := gs_sw p
    have fy := gi_y y p
    unfold wpX_skip
    refine gx_no0 q ?_
    refine br_t rfl ?_
    refine gm_finish h hs ?_
    intro C1 T1 ib1 R1 ow1 ak1 ln1 O1 N1 L1 h1 s1 f1
    have fa := gi_facts h1 p (f1 s o p)
    have J := gi_mk h1 (fun j hj => (s1 j hj).1) hG y
    refine gx_cw q fa.1 ?_
    refine ⟨gm_i2 q, gm_i2 q, nm_r (gm_ui q K (K o + (G s - K o)) ?_) ?_⟩
    · rw [gm_at q K, nI_add]
    · have hgo := trivial
      unfold wpY_skip
      refine gy_bad0 q ?_
      refine br_t rfl ?_
      refine ⟨gm_i2 q, nm_r (gy_at q fy.1) ?_⟩
      exact gi_off h1 s1 hG y p (f1 s o p) (Nat.le_refl _) (fun yb' mk' cn' gn' J' => ⟨rfl, J'⟩)
  · have hbad := trivial
    have J := gi_mk h hs hG y
    unfold wpX_skip
    refine gx_no1 b0 b1 ?_
    refine br_f (by decide) ?_
    unfold wpY_skip
    refine gy_bad1 b2 ?_
    exact br_f (by decide) ⟨rfl, J⟩
theorem i_vc_take {k : Nat} {u : SX} {v : SY} (I : i_Rel k u v) (hk : k + 4 ≤ 2049) (v1 : Int32) : wpX_take (fun r u' => wpY_take (fun r' v' => r' = r ∧ i_Rel (k + 4) u' v') v v1) u v1 := by
  obtain ⟨w, ob, G, C, T, ib, R, K, ow, ak, ln, O, N, L, B, yb, mk, cn, gn, rfl, rfl, h, hs, hG, y⟩ := I
  rcases gr_st v1 with ⟨s, o, p, rfl⟩ | ⟨b0, b1, b2⟩
  · have q := gs_sw p
    have fy := gi_y y p
    unfold wpX_take
    refine gx_no0 q ?_
    refine br_t rfl ?_
    refine gm_finish h hs ?_
    intro C1 T1 ib1 R1 ow1 ak1 ln1 O1 N1 L1 h1 s1 f1
    have fa := gi_facts h1 p (f1 s o p)
    have J := gi_mk h1 (fun j hj => (s1 j hj).1) hG y
    refine gx_nw q fa.1 (by omega) (fun i hi ex => ?_) (fun hz => ?_)
    · have hi0 : 0 < G s - K o := by omega
      refine br_t rfl ?_
      refine gx_cell (i := 0) q ?_
      rw [fa.2.2.1 0 hi0]
      refine nm_r (gn_m8 _) ⟨gm_i2 q, gm_i2 q, nm_r (gm_ui q K (K o + 1) ?_) ?_⟩
      · rw [gm_at q K]; exact nI_1 _
      · have hgo := trivial
        unfold wpY_take
        refine gy_bad0 q ?_
        refine br_t rfl ?_
        have ex0 : nI o * 30 = nI (30 * o + 0) := by
          have e := gy_x o 0
          rw [nI_0, Int32.add_zero] at e
          exact e
        refine ⟨gm_i2 q, br_f ?_ ⟨?_, nm_r (e' := nI (B s (K o + 0) % 256)) ?_ ?_⟩⟩
        · rw [gy_at q fy.1]; exact nI_ne0 hi0 (by omega)
        · rw [ex0]; exact gy_i q (by omega)
        · rw [ex0, gy_c q (by omega)]; exact fy.2.2.1 0 hi0
        · exact gi_off (n := 1) h1 s1 hG y p (f1 s o p) hi0 (fun yb' mk' cn' gn' J' => ⟨rfl, J'⟩)
    · have hz0 : G s - K o = 0 := by
        rcases Nat.eq_zero_or_pos (G s - K o) with e | e
        · exact e
        · exact absurd (nI_lt (a := 0) e (by omega)) (hz.resolve_left (by decide))
      refine br_f (by decide) ?_
      unfold wpY_take
      refine gy_bad0 q ?_
      refine br_t rfl ?_
      refine ⟨gm_i2 q, br_t ?_ ⟨rfl, J⟩⟩
      rw [gy_at q fy.1, hz0]; rfl
  · have hbad := trivial
    have J := gi_mk h hs hG y
    unfold wpX_take
    refine gx_no1 b0 b1 ?_
    refine br_f (by decide) ?_
    unfold wpY_take
    refine gy_bad1 b2 ?_
    exact br_f (by decide) ⟨rfl, J⟩
theorem i_vc_takeMessage {k : Nat} {u : SX} {v : SY} (I : i_Rel k u v) (hk : k + 4 ≤ 2049) (v1 : Int32) : wpX_takeMessage (fun r u' => wpY_takeMessage (fun r' v' => r' = r ∧ i_Rel (k + 4) u' v') v v1) u v1 := by
  obtain ⟨w, ob, G, C, T, ib, R, K, ow, ak, ln, O, N, L, B, yb, mk, cn, gn, rfl, rfl, h, hs, hG, y⟩ := I
  rcases gr_st v1 with ⟨s, o, p, rfl⟩ | ⟨b0, b1, b2⟩
  · have q := gs_sw p
    have fy := gi_y y p
    unfold wpX_takeMessage
    refine gx_no0 q ?_
    refine br_t rfl ?_
    refine gm_finish h hs ?_
    intro C1 T1 ib1 R1 ow1 ak1 ln1 O1 N1 L1 h1 s1 f1
    have fa := gi_facts h1 p (f1 s o p)
    have J := gi_mk h1 (fun j hj => (s1 j hj).1) hG y
    rcases gr_first (fun i => B s (K o + i)) (G s - K o) with ⟨m, hm, g1, g0⟩ | g0
    · refine gx_fml1 (c := fun i => B s (K o + i)) q fa.1 (by omega) fa.2.2.1 hm g1 g0 ?_
      refine br_f (nI_ne0 (by omega) (by omega)) ⟨gm_i2 q, gm_i2 q, nm_r (gm_ui q K (K o + (m + 1)) ?_) ?_⟩
      · rw [gm_at q K, nI_add]
      · have hgo := trivial
        unfold wpY_takeMessage
        refine gy_bad0 q ?_
        refine br_t rfl ?_
        refine ⟨m + 1, ?_⟩
        refine gy_tmA (c := fun i => B s (K o + i)) q fa.2.1 fy.1 fy.2.2.2 hm g1 g0 ?_ m 0 (Nat.zero_add _)
        exact gi_off h1 s1 hG y p (f1 s o p) hm (fun yb' mk' cn' gn' J' => ⟨rfl, J'⟩)
    · refine gx_fml0 (c := fun i => B s (K o + i)) q fa.1 (by omega) fa.2.2.1 g0 ?_
      refine br_t rfl ?_
      unfold wpY_takeMessage
      refine gy_bad0 q ?_
      refine br_t rfl ?_
      refine ⟨G s - K o + 1, ?_⟩
      exact gy_tmB (c := fun i => B s (K o + i)) q fa.2.1 fy.1 fy.2.2.2 g0 ⟨rfl, J⟩ (G s - K o) 0 (Nat.zero_add _)
  · have hbad := trivial
    have J := gi_mk h hs hG y
    unfold wpX_takeMessage
    refine gx_no1 b0 b1 ?_
    refine br_f (by decide) ?_
    unfold wpY_takeMessage
    refine gy_bad1 b2 ?_
    exact br_f (by decide) ⟨rfl, J⟩
theorem i_vc_carry {k : Nat} {u : SX} {v : SY} (I : i_Rel k u v) (hk : k + 4 ≤ 2049) (v1 : Int32) (v2 : Int32) (v3 : Int32) : wpX_carry (fun r u' => wpY_carry (fun r' => r' = r ∧ i_Rel (k + 4) u' v) v v1 v2 v3) u v1 v2 v3 := by
  obtain ⟨w, ob, G, C, T, ib, R, K, ow, ak, ln, O, N, L, B, yb, mk, cn, gn, rfl, rfl, h, hs, hG, y⟩ := I
  rcases gr_st v1 with ⟨s, o, p, rfl⟩ | ⟨b0, b1, b2⟩
  · have q := gs_sw p
    unfold wpX_carry
    refine gx_no0 q ?_
    refine br_t rfl ?_
    refine gm_mvX q h hs ?_
    intro C1 T1 ib1 R1 ow1 ak1 ln1 O1 N1 L1 h1 m1 z1 s1
    unfold wpY_carry
    refine gy_bad0 q ?_
    refine br_t rfl ?_
    exact ⟨rfl, gi_mk h1 s1 hG y⟩
  · have hbad := trivial
    have J := gi_mk h hs hG y
    unfold wpX_carry
    refine gx_no1 b0 b1 ?_
    refine br_f (by decide) ?_
    unfold wpY_carry
    refine gy_bad1 b2 ?_
    exact br_f (by decide) ⟨rfl, J⟩
theorem i_vc_fire {k : Nat} {u : SX} {v : SY} (I : i_Rel k u v) (hk : k + 4 ≤ 2049) (v1 : Int32) : wpX_fire (fun r u' => wpY_fire (fun r' => r' = r ∧ i_Rel (k + 4) u' v) v v1) u v1 := by
  obtain ⟨w, ob, G, C, T, ib, R, K, ow, ak, ln, O, N, L, B, yb, mk, cn, gn, rfl, rfl, h, hs, hG, y⟩ := I
  rcases gr_st v1 with ⟨s, o, p, rfl⟩ | ⟨b0, b1, b2⟩
  · have q := gs_sw p
    unfold wpX_fire
    refine gx_no0 q ?_
    refine br_t rfl ?_
    refine gm_again q h ?_
    intro C1 T1 ib1 R1 ow1 ak1 ln1 O1 N1 L1 h1 m1 z1 s1
    unfold wpY_fire
    refine gy_bad0 q ?_
    refine br_t rfl ?_
    exact ⟨rfl, gi_mk h1 (fun j hj => s1 j (Or.inr (hs j hj))) hG y⟩
  · have hbad := trivial
    have J := gi_mk h hs hG y
    unfold wpX_fire
    refine gx_no1 b0 b1 ?_
    refine br_f (by decide) ?_
    unfold wpY_fire
    refine gy_bad1 b2 ?_
    exact br_f (by decide) ⟨rfl, J⟩
theorem i_vc_reset {k : Nat} {u : SX} {v : SY} (I : i_Rel k u v) (hk : k + 4 ≤ 2049) : wpX_reset (fun u' => wpY_reset (fun v' => i_Rel (k + 4) u' v') v) u := by
  obtain ⟨w, ob, G, C, T, ib, R, K, ow, ak, ln, O, N, L, B, yb, mk, cn, gn, rfl, rfl, h, hs, hG, y⟩ := I
  refine gx_reset ?_
  unfold wpY_reset
  refine nm_e (nm_e (nm_e (nm_e ?_)))
  have zn : ∀ (f : Nat → Nat) (j : Nat), j < 2 → gb_u (gb_u f 0 0) 1 0 j = 0 := by
    intro f j hj
    rcases Nat.lt_or_ge j 1 with e | e
    · rw [gb_un (by omega), show j = 0 by omega, gb_us]
    · rw [show j = 1 by omega, gb_us]
  have zb : ∀ (f : Nat → Bool) (j : Nat), j < 2 → gb_u (gb_u f 0 false) 1 false j = false := by
    intro f j hj
    rcases Nat.lt_or_ge j 1 with e | e
    · rw [gb_un (by omega), show j = 0 by omega, gb_us]
    · rw [show j = 1 by omega, gb_us]
  have zi : ∀ (f : Nat → Int32) (j : Nat), j < 2 → upd (upd f 0 0) 1 0 j = 0 := by
    intro f j hj
    rcases Nat.lt_or_ge j 1 with e | e
    · rw [pk_un (by omega), show j = 0 by omega, pk_us]
    · rw [show j = 1 by omega, pk_us]
  refine gi_mk (L := fun _ => []) (B := fun _ _ => 0) (gs_fresh h.1 (fun j hj => ⟨⟨zn G j hj, zn C j hj, zn T j hj, zn R j hj⟩, zn K j hj, zn N j hj⟩)) (fun j hj _ => ⟨(zn T j hj).trans (zn G j hj).symm, zb ow j hj, zb ak j hj⟩) (fun j hj => by rw [zn G j hj]; exact Nat.zero_le _) ?_
  intro a b q
  have ha : a < 2 := by unfold gs_p at q; omega
  have hb : b < 2 := by unfold gs_p at q; omega
  rw [zi cn b hb, zi gn b hb, zn G a ha, zn K b hb]
  exact ⟨rfl, rfl, fun i hi => absurd hi (Nat.not_lt_zero i)⟩
end
section
/- give -/
section
variable {w : Nat} {ob : Nat → Int32} {G C T : Nat → Nat} {ib : Nat → Int32} {R K : Nat → Nat} {ow ak : Nat → Bool} {ln : Nat → Int32} {O N : Nat → Nat} {L : Nat → List gb_F} {B : Nat → Nat → Nat} {s o k : Nat} {yb mk cn gn : Nat → Int32}
theorem gi_77 {post : Int32 → SX → Prop} {c : Nat} {x : Int32} (h : gs_Ok w ob G C T ib R K ln O N L B) (p : gs_p s o) (hs : ∀ j, j < 2 → gs_Sat G T ow ak L j) (hG : G s < K o + 30) (hM : G s < 4000) (hc : c < 512) (hp : ∀ (C1 T1 : Nat → Nat) (ib1 : Nat → Int32) (R1 : Nat → Nat) (ow1 ak1 : Nat → Bool) (ln1 : Nat → Int32) (O1 N1 : Nat → Nat) (L1 : Nat → List gb_F), gs_Ok w (upd ob (32 * s + G s % 32) (nI c)) (gb_u G s (G s + 1)) C1 T1 ib1 R1 K ln1 O1 N1 L1 (gb_u B s (gb_u (B s) (G s) c)) → (∀ j, j < 2 → gs_Sat (gb_u G s (G s + 1)) T1 ow1 ak1 L1 j) → post (x + 1) (gs_U w (upd ob (32 * s + G s % 32) (nI c)) (gb_u G s (G s + 1)) C1 T1 ib1 R1 K ow1 ak1 ln1 O1 N1)) : wX_give_77 post (nI s) x (nI c) (nI (32 * s + G s % 32)) (nI w) ob (fun j => nI (G j)) (fun j => nI (C j)) (fun j => nI (T j)) ib (fun j => nI (R j)) (fun j => nI (K j)) (fun j => gs_bi (ow j)) (fun j => gs_bi (ak j)) ln (fun j => nI (O j)) (fun j => nI (N j)) := by
  refine ⟨gm_i64 p _, nm_r (congrArg (fun z => upd ob z (nI c)) (gm_c64 p _)) ⟨gm_i2 p, gm_i2 p, nm_r (gm_ui p G (G s + 1) ?_) ?_⟩⟩
  · rw [gm_at p G]; exact nI_1 _
  · refine gm_send p (gs_give h p hG hM hc) ?_
    intro C1 T1 ib1 R1 ow1 ak1 ln1 O1 N1 L1 h1 m1 z1 s1
    refine hp C1 T1 ib1 R1 ow1 ak1 ln1 O1 N1 L1 h1 (fun j hj => s1 j ?_)
    by_cases e : j = s
    · exact Or.inl e
    · refine Or.inr (fun hL => ?_)
      rw [gb_un e]
      exact hs j hj hL
theorem gi_yg {post : Int32 → SY → Prop} {b e n : Nat} {g : Int32} (p : gs_p s o) (hc : cn o = nI n) (hn : n < 30) (hb : b < 256) (he : e < 2) (hg : g = nI e) (hp : post (nI (n + 1)) (upd yb (30 * o + n) (nI b), upd mk (30 * o + n) (nI e), upd cn o (nI (n + 1)), gn)) : wpY_give post (yb, mk, cn, gn) (nI s) (nI b) g := by
  have q := gs_sw p
  have hx : nI o * 30 + cn (nI o).toNatClampNeg = nI (30 * o + n) := by rw [gy_at q hc]; exact gy_x o n
  have i1 : vp_in (nI o * 30 + cn (nI o).toNatClampNeg) 60 := by rw [hx]; exact gy_i q hn
  have c1 : (nI o * 30 + cn (nI o).toNatClampNeg).toNatClampNeg = 30 * o + n := by rw [hx]; exact gy_c q hn
  unfold wpY_give
  refine gy_bad0 p ?_
  refine br_t rfl (br_f (nI_pos (by omega)) (br_t (nI_le (b := 255) (by omega) (by decide)) (nm_r (gm_sub p) ⟨gm_i2 q, br_f ?_ ⟨gm_i2 q, i1, nm_r (e' := upd yb (30 * o + n) (nI b)) ?_ ⟨gm_i2 q, i1, nm_r (e' := upd mk (30 * o + n) (nI e)) ?_ ⟨gm_i2 q, gm_i2 q, nm_r (e' := upd cn o (nI (n + 1))) ?_ ⟨gm_i2 q, ?_⟩⟩⟩⟩⟩)))
  · rw [gy_at q hc]; exact fun z => absurd ((nI_eq (b := 30) (by omega) (by decide)).mp z) (by omega)
  · rw [c1]
  · rw [c1, hg, gr_nar he]
  · rw [gy_at q hc, gm_c q]; exact congrArg (upd cn o) (nI_1 n)
  · rw [gm_c q, pk_us]; exact hp
end
theorem i_vc_give {k : Nat} {u : SX} {v : SY} (I : i_Rel k u v) (hk : k + 4 ≤ 2049) (v1 : Int32) (v2 : Int32) (v3 : Int32) : wpX_give (fun r u' => wpY_give (fun r' v' => r' = r ∧ i_Rel (k + 4) u' v') v v1 v2 (lw_bz v3)) u v1 v2 (lw_bz v3) := by
  obtain ⟨w, ob, G, C, T, ib, R, K, ow, ak, ln, O, N, L, B, yb, mk, cn, gn, rfl, rfl, h, hs, hG, y⟩ := I
  have J := gi_mk h hs hG y
  rcases gr_st v1 with ⟨o, s, q, rfl⟩ | ⟨b0, b1, b2⟩
  · have p := gs_sw q
    have fy := gi_y y p
    have hD := (h.2 s o p).1.1
    have hk1 := hG s (by unfold gs_p at p; omega)
    unfold wpX_give
    refine gx_no0 p ?_
    refine br_t rfl (br_c (fun h0 => ?_) (fun h0 => br_c (fun h255 => ?_) (fun h255 => ?_)))
    · unfold wpY_give
      refine gy_bad0 p ?_
      exact br_t rfl (br_t h0 ⟨rfl, J⟩)
    · obtain ⟨b, hb, rfl⟩ := nI_of2 (M := 255) (n := 255) (by decide) h0 h255
      have e4 : (fun j => nI (G j)) (nI s).toNatClampNeg - (fun j => nI (K j)) (1 - nI s).toNatClampNeg = nI (G s - K o) := by
        rw [gm_at p G, gm_sub p, gm_at q K, pk_sub (by omega)]
      refine ⟨gm_i2 p, ?_, nm_r e4 ?_⟩
      · rw [gm_sub p]; exact gm_i2 q
      · by_cases hf : G s - K o < 30
        · refine br_t (nI_lt (b := 30) hf (by decide)) ⟨gm_i2 p, ?_⟩
          rw [gm_at p G]
          refine gm_place _ s (G s) ?_
          have key : ∀ e, e < 2 → lw_bz v3 = nI e → wX_give_77 (fun r u' => wpY_give (fun r' v' => r' = r ∧ i_Rel (k + 4) u' v') (yb, mk, cn, gn) (nI s) (nI b) (lw_bz v3)) (nI s) (nI (G s - K o)) (nI (256 * e + b)) (nI (32 * s + G s % 32)) (nI w) ob (fun j => nI (G j)) (fun j => nI (C j)) (fun j => nI (T j)) ib (fun j => nI (R j)) (fun j => nI (K j)) (fun j => gs_bi (ow j)) (fun j => gs_bi (ak j)) ln (fun j => nI (O j)) (fun j => nI (N j)) := by
            intro e he hg
            refine gi_77 h p hs (by omega) (by omega) (by omega) ?_
            intro C1 T1 ib1 R1 ow1 ak1 ln1 O1 N1 L1 h1 s1
            rw [nI_1]
            refine gi_yg p fy.1 hf (by omega) he hg ⟨rfl, ?_⟩
            refine gi_mk4 h1 s1 (fun j hj => ?_) (gr_give h y p (by omega) (by omega) he)
            by_cases ej : j = s
            · rw [ej, gb_us]; omega
            · rw [gb_un ej]; have := hG j hj; omega
          rcases lw_bz_01 v3 with e3 | e3
          · have k0 := key 0 (by decide) e3
            rw [show 256 * 0 + b = b by omega] at k0
            exact br_t e3 k0
          · have k1 := key 1 (by decide) e3
            rw [show 256 * 1 + b = 256 + b by omega, ← gw_cell (by omega)] at k1
            exact br_f (by rw [e3]; decide) k1
        · refine br_f (nI_nlt (b := 30) (by omega) (by omega)) ?_
          unfold wpY_give
          refine gy_bad0 p ?_
          refine br_t rfl (br_f h0 (br_t h255 (nm_r (gm_sub p) ⟨gm_i2 q, br_t ?_ ⟨rfl, J⟩⟩)))
          rw [gy_at q fy.1, show G s - K o = 30 by omega]; rfl
    · unfold wpY_give
      refine gy_bad0 p ?_
      exact br_t rfl (br_f h0 (br_f h255 ⟨rfl, J⟩))
  · unfold wpX_give
    refine gx_no1 b0 b1 ?_
    refine br_f (by decide) ?_
    unfold wpY_give
    refine gy_bad1 b2 ?_
    exact br_f (by decide) ⟨rfl, J⟩
end
