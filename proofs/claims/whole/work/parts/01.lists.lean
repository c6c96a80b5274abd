/- frames under way: ((number, expected), (holds data, asks again)) -/
abbrev gb_F : Type := (Nat × Nat) × (Bool × Bool)
/-- what the receiver expects after all of l has arrived -/
def gb_adv : List gb_F → Nat → Nat
  | [], m => m
  | f :: l, m => gb_adv l (if f.2.1 = true ∧ f.1.1 = m then m + 1 else m)
/-- how many of l come too early -/
def gb_bad : List gb_F → Nat → Nat
  | [], _ => 0
  | f :: l, m => (if f.2.1 = true ∧ m < f.1.1 then 1 else 0) + gb_bad l (if f.2.1 = true ∧ f.1.1 = m then m + 1 else m)
def gb_dats : List gb_F → Nat
  | [] => 0
  | f :: l => (if f.2.1 = true then 1 else 0) + gb_dats l
def gb_asks : List gb_F → Nat
  | [] => 0
  | f :: l => (if f.2.2 = true then 1 else 0) + gb_asks l
/-- what the sender knows as confirmed after all of l has arrived -/
def gb_conf : List gb_F → Nat → Nat
  | [], c => c
  | f :: l, c => gb_conf l (if c ≤ f.1.2 then f.1.2 else c)
theorem gb_adv_app (f : gb_F) (l : List gb_F) : ∀ m, gb_adv (l ++ [f]) m = (if f.2.1 = true ∧ f.1.1 = gb_adv l m then gb_adv l m + 1 else gb_adv l m) := by
  induction l with
  | nil => intro m; rfl
  | cons a l ih => intro m; simp only [List.cons_append, gb_adv]; exact ih _
theorem gb_bad_app (f : gb_F) (l : List gb_F) : ∀ m, gb_bad (l ++ [f]) m = gb_bad l m + (if f.2.1 = true ∧ gb_adv l m < f.1.1 then 1 else 0) := by
  induction l with
  | nil => intro m; simp only [List.nil_append, gb_bad, gb_adv, Nat.add_zero, Nat.zero_add]; rfl
  | cons a l ih => intro m; simp only [List.cons_append, gb_bad, gb_adv]; rw [ih, Nat.add_assoc]; rfl
theorem gb_dats_app (f : gb_F) (l : List gb_F) : gb_dats (l ++ [f]) = gb_dats l + (if f.2.1 = true then 1 else 0) := by
  induction l with
  | nil => simp only [List.nil_append, gb_dats, Nat.add_zero, Nat.zero_add]
  | cons a l ih => simp only [List.cons_append, gb_dats]; rw [ih, Nat.add_assoc]
theorem gb_asks_app (f : gb_F) (l : List gb_F) : gb_asks (l ++ [f]) = gb_asks l + (if f.2.2 = true then 1 else 0) := by
  induction l with
  | nil => simp only [List.nil_append, gb_asks, Nat.add_zero, Nat.zero_add]
  | cons a l ih => simp only [List.cons_append, gb_asks]; rw [ih, Nat.add_assoc]
theorem gb_conf_app (f : gb_F) (l : List gb_F) : ∀ c, gb_conf (l ++ [f]) c = (if gb_conf l c ≤ f.1.2 then f.1.2 else gb_conf l c) := by
  induction l with
  | nil => intro c; rfl
  | cons a l ih => intro c; simp only [List.cons_append, gb_conf]; exact ih _
theorem gb_adv_ge (l : List gb_F) : ∀ m, m ≤ gb_adv l m := by
  induction l with
  | nil => intro m; exact Nat.le_refl _
  | cons a l ih =>
    intro m
    simp only [gb_adv]
    split
    · exact Nat.le_trans (Nat.le_succ m) (ih _)
    · exact ih _
theorem gb_bad_le (l : List gb_F) : ∀ m, gb_bad l m ≤ l.length := by
  induction l with
  | nil => intro m; exact Nat.le_refl _
  | cons a l ih =>
    intro m
    simp only [gb_bad, List.length_cons]
    have h := ih (if a.2.1 = true ∧ a.1.1 = m then m + 1 else m)
    have h1 : (if a.2.1 = true ∧ m < a.1.1 then 1 else 0) ≤ 1 := by split <;> omega
    omega
theorem gb_dats_le (l : List gb_F) : gb_dats l ≤ l.length := by
  induction l with
  | nil => exact Nat.le_refl _
  | cons a l ih =>
    simp only [gb_dats, List.length_cons]
    have h1 : (if a.2.1 = true then 1 else 0) ≤ 1 := by split <;> omega
    omega
theorem gb_asks_le (l : List gb_F) : gb_asks l ≤ l.length := by
  induction l with
  | nil => exact Nat.le_refl _
  | cons a l ih =>
    simp only [gb_asks, List.length_cons]
    have h1 : (if a.2.2 = true then 1 else 0) ≤ 1 := by split <;> omega
    omega
theorem gb_conf_ge (l : List gb_F) : ∀ c, c ≤ gb_conf l c := by
  induction l with
  | nil => intro m; exact Nat.le_refl _
  | cons a l ih =>
    intro c
    simp only [gb_conf]
    split
    · rename_i h; exact Nat.le_trans h (ih _)
    · exact ih _
theorem gb_conf_le (R : Nat) (l : List gb_F) : ∀ c, c ≤ R → (∀ f, f ∈ l → f.1.2 ≤ R) → gb_conf l c ≤ R := by
  induction l with
  | nil => intro c hc _; exact hc
  | cons a l ih =>
    intro c hc h
    simp only [gb_conf]
    have ha := h a (List.mem_cons_self)
    have ht : ∀ f, f ∈ l → f.1.2 ≤ R := fun f hf => h f (List.mem_cons_of_mem a hf)
    split
    · exact ih _ ha ht
    · exact ih _ hc ht
