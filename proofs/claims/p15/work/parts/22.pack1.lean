/-! packing: how often a tree's rows are gone through -/
def sm (f : Nat → Nat) : Nat → Nat
  | 0 => 0
  | n + 1 => sm f n + f n
theorem sm_le {f g : Nat → Nat} (h : ∀ c, f c ≤ g c) : ∀ n, sm f n ≤ sm g n := by
  intro n
  induction n with
  | zero => exact Nat.le_refl _
  | succ n ih => rw [sm, sm]; have := h n; omega
theorem sm_at {f : Nat → Nat} : ∀ n x, x < n → f x ≤ sm f n := by
  intro n
  induction n with
  | zero => intro x hx; omega
  | succ n ih =>
    intro x hx
    rw [sm]
    by_cases e : x = n
    · subst e; omega
    · have := ih x (by omega); omega
theorem sm_split {f g : Nat → Nat} (h : ∀ c, g c ≤ f c) {x : Nat} (hx : g x = 0) : ∀ n, x < n → sm g n + f x ≤ sm f n := by
  intro n
  induction n with
  | zero => intro hn; omega
  | succ n ih =>
    intro hn
    rw [sm, sm]
    by_cases e : x = n
    · subst e
      have := sm_le h x
      omega
    · have := ih (by omega)
      have := h n
      omega
theorem sm_add {f g : Nat → Nat} : ∀ n, sm (fun c => f c + g c) n = sm f n + sm g n := by
  intro n
  induction n with
  | zero => rfl
  | succ n ih => rw [sm, sm, sm, ih]; omega
theorem sm_zero : ∀ n, sm (fun _ => 0) n = 0 := by
  intro n
  induction n with
  | zero => rfl
  | succ n ih => rw [sm, ih]
theorem sm_c1 : ∀ n, sm (fun _ => 1) n = n := by
  intro n
  induction n with
  | zero => rfl
  | succ n ih => rw [sm, ih]
theorem sm_swap {F : Nat → Nat → Nat} (S : Nat) : ∀ R, sm (fun r => sm (F r) S) R = sm (fun c => sm (fun r => F r c) R) S := by
  intro R
  induction R with
  | zero =>
    show 0 = sm (fun c => 0) S
    rw [sm_zero]
  | succ R ih =>
    show sm (fun r => sm (F r) S) R + sm (F R) S = sm (fun c => sm (fun r => F r c) R + F R c) S
    rw [ih, sm_add]
theorem sm_one {P : Int} {v : Nat} : ∀ R : Nat, sm (fun r : Nat => if P = (r : Int) then v else 0) R ≤ (if P < (R : Int) then v else 0) := by
  intro R
  induction R with
  | zero => exact Nat.zero_le _
  | succ R ih =>
    rw [sm]
    by_cases e : P = (R : Int)
    · rw [if_neg (by omega)] at ih
      rw [if_pos e, if_pos (by omega)]
      omega
    · rw [if_neg e]
      by_cases e2 : P < (R : Int)
      · rw [if_pos e2] at ih
        rw [if_pos (by omega)]
        omega
      · rw [if_neg e2] at ih
        omega
/-- how many rows lie in one another below a row, so deep -/
def Wt (S : Nat) (P : Nat → Int) : Nat → Nat → Nat
  | 0, _ => 0
  | d + 1, r => 1 + sm (fun c => if P c = (r : Int) then Wt S P d c else 0) S
theorem Wt_total {S : Nat} {P : Nat → Int} : ∀ d, sm (Wt S P d) S ≤ d * S := by
  intro d
  induction d with
  | zero =>
    have e : Wt S P 0 = fun _ => 0 := by funext r; rw [Wt]
    rw [e, sm_zero]; omega
  | succ d ih =>
    have e : Wt S P (d + 1) = fun r : Nat => 1 + sm (fun c => if P c = (r : Int) then Wt S P d c else 0) S := by funext r; rw [Wt]
    rw [e, sm_add (f := fun _ => 1) (g := fun r : Nat => sm (fun c => if P c = (r : Int) then Wt S P d c else 0) S), sm_c1, sm_swap (F := fun (r c : Nat) => if P c = (r : Int) then Wt S P d c else 0)]
    have h : sm (fun c => sm (fun r : Nat => if P c = (r : Int) then Wt S P d c else 0) S) S ≤ sm (Wt S P d) S := sm_le (fun c => by
      have := sm_one (P := P c) (v := Wt S P d c) S
      split at this <;> omega) S
    have e2 : (d + 1) * S = d * S + S := Nat.succ_mul d S
    omega
theorem Wt_root {S : Nat} {P : Nat → Int} (d : Nat) {r : Nat} (h : r < S) : Wt S P d r ≤ d * S := Nat.le_trans (sm_at (f := Wt S P d) S r h) (Wt_total d)
/-- what is left of a row's children from one of them on -/
def Rm (S : Nat) (P C : Nat → Int) (d : Nat) (r : Int) (x : Nat) : Nat := sm (fun c => if P c = r ∧ ¬ (C c < C x ∨ C c = C x ∧ x < c) then Wt S P d c else 0) S
theorem Rm_step {S : Nat} {P C : Nat → Int} {d : Nat} {r : Int} {x y : Nat} (hx : x < S) (hP : P x = r) (hk : C x < C y ∨ C x = C y ∧ y < x) : Rm S P C d r y + Wt S P d x ≤ Rm S P C d r x := by
  unfold Rm
  have h := sm_split (f := fun c => if P c = r ∧ ¬ (C c < C x ∨ C c = C x ∧ x < c) then Wt S P d c else 0) (g := fun c => if P c = r ∧ ¬ (C c < C y ∨ C c = C y ∧ y < c) then Wt S P d c else 0) (fun c => by
    by_cases h1 : P c = r ∧ ¬ (C c < C y ∨ C c = C y ∧ y < c)
    · rw [if_pos h1, if_pos ⟨h1.1, by have := h1.2; omega⟩]
      exact Nat.le_refl _
    · rw [if_neg h1]; exact Nat.zero_le _) (x := x) (if_neg (fun h9 => h9.2 hk)) S hx
  have e : (if P x = r ∧ ¬ (C x < C x ∨ C x = C x ∧ x < x) then Wt S P d x else 0) = Wt S P d x := if_pos ⟨hP, by omega⟩
  rw [e] at h
  exact h
theorem Rm_last {S : Nat} {P C : Nat → Int} {d : Nat} {r : Int} {x : Nat} (hx : x < S) (hP : P x = r) : Wt S P d x ≤ Rm S P C d r x := by
  have h := sm_at (f := fun c => if P c = r ∧ ¬ (C c < C x ∨ C c = C x ∧ x < c) then Wt S P d c else 0) S x hx
  have e : (if P x = r ∧ ¬ (C x < C x ∨ C x = C x ∧ x < x) then Wt S P d x else 0) = Wt S P d x := if_pos ⟨hP, by omega⟩
  rw [e] at h
  exact h
theorem Rm_all {S : Nat} {P C : Nat → Int} {d : Nat} {r : Nat} {x : Nat} : 1 + Rm S P C d (r : Int) x ≤ Wt S P (d + 1) r := by
  rw [Wt]
  unfold Rm
  have h := sm_le (f := fun c => if P c = (r : Int) ∧ ¬ (C c < C x ∨ C c = C x ∧ x < c) then Wt S P d c else 0) (g := fun c => if P c = (r : Int) then Wt S P d c else 0) (fun c => by
    by_cases h1 : P c = (r : Int)
    · rw [if_pos h1]
      split
      · exact Nat.le_refl _
      · exact Nat.zero_le _
    · rw [if_neg h1, if_neg (fun h9 => h1 h9.1)]
      exact Nat.le_refl _) S
  omega
