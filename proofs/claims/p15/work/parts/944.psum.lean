/-! rows counted -/
def cv : List EN → Nat → Nat
  | [], _ => 0
  | y :: l, c => cv l c + (if y.2.1.1 ≤ c ∧ c < y.2.1.2 then 1 else 0)
/-- how many of the class's rows the children have -/
def sumA : List EN → Nat
  | [] => 0
  | y :: l => sumA l + (y.2.1.2 - y.2.1.1)
theorem sumA_app (l m : List EN) : sumA (l ++ m) = sumA l + sumA m := by
  induction l with
  | nil => show sumA m = 0 + sumA m; omega
  | cons y l ih =>
    show sumA (l ++ m) + _ = sumA l + _ + sumA m
    omega
theorem cv_zero : ∀ (l : List EN) (c : Nat), (∀ z, z ∈ l → ¬ (z.2.1.1 ≤ c ∧ c < z.2.1.2)) → cv l c = 0 := by
  intro l
  induction l with
  | nil => intro c _; rfl
  | cons y l ih =>
    intro c h
    show cv l c + (if y.2.1.1 ≤ c ∧ c < y.2.1.2 then 1 else 0) = 0
    rw [ih c (fun z hz => h z (List.mem_cons_of_mem _ hz)), if_neg (h y List.mem_cons_self)]
theorem cv_one : ∀ (l : List EN) (c : Nat), l.Pairwise SEPE → cv l c ≤ 1 := by
  intro l
  induction l with
  | nil => intro c _; exact Nat.zero_le _
  | cons y l ih =>
    intro c h
    obtain ⟨h1, h2⟩ := List.pairwise_cons.mp h
    show cv l c + (if y.2.1.1 ≤ c ∧ c < y.2.1.2 then 1 else 0) ≤ 1
    by_cases hy : y.2.1.1 ≤ c ∧ c < y.2.1.2
    · rw [if_pos hy, cv_zero l c (fun z hz => ?_)]
      · omega
      · have := (h1 z hz).1
        omega
    · rw [if_neg hy]
      exact ih c h2
theorem sm_ind (a b : Nat) : ∀ n : Nat, sm (fun c => if a ≤ c ∧ c < b then 1 else 0) n = (if n ≤ b then n else b) - a := by
  intro n
  induction n with
  | zero =>
    show 0 = _
    rw [if_pos (Nat.zero_le _)]
    omega
  | succ n ih =>
    rw [sm, ih]
    by_cases h1 : n + 1 ≤ b
    · rw [if_pos h1, if_pos (by omega)]
      by_cases h2 : a ≤ n
      · rw [if_pos ⟨h2, by omega⟩]
        omega
      · rw [if_neg (by omega)]
        omega
    · rw [if_neg h1]
      have e : (if a ≤ n ∧ n < b then 1 else 0 : Nat) = 0 := if_neg (by omega)
      by_cases h2 : n ≤ b
      · rw [if_pos h2, e]
        omega
      · rw [if_neg h2, e]
        omega
theorem sm_cv : ∀ (l : List EN) (n : Nat), (∀ z, z ∈ l → z.2.1.2 ≤ n) → sm (cv l) n = sumA l := by
  intro l
  induction l with
  | nil =>
    intro n _
    exact sm_zero n
  | cons y l ih =>
    intro n h
    have e : cv (y :: l) = fun c => cv l c + (if y.2.1.1 ≤ c ∧ c < y.2.1.2 then 1 else 0) := rfl
    rw [e, sm_add, ih n (fun z hz => h z (List.mem_cons_of_mem _ hz)), sm_ind]
    have hy := h y List.mem_cons_self
    show _ = sumA l + (y.2.1.2 - y.2.1.1)
    by_cases h1 : n ≤ y.2.1.2
    · rw [if_pos h1]
      omega
    · rw [if_neg h1]
theorem sum_le {l : List EN} {lo hi : Nat} (hp : l.Pairwise SEPE) (h : ∀ y, y ∈ l → (inA y = true → lo ≤ y.2.1.1) ∧ y.2.1.2 ≤ hi) : sumA l ≤ hi - lo := by
  rw [← sm_cv l hi (fun z hz => (h z hz).2)]
  have e : (if hi ≤ hi then hi else hi) - lo = hi - lo := by rw [if_pos (Nat.le_refl _)]
  rw [← e, ← sm_ind lo hi hi]
  refine sm_le (fun c => ?_) hi
  by_cases hc : lo ≤ c ∧ c < hi
  · rw [if_pos hc]
    exact cv_one l c hp
  · rw [if_neg hc, cv_zero l c (fun z hz hzc => ?_)]
    · exact Nat.le_refl _
    · have h1 := h z hz
      have h2 := h1.1 (decide_eq_true (by omega))
      omega
