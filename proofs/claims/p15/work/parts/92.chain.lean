/-! rows that follow one another -/
/-- the rows of a list, from x on -/
def CN (nx : Nat → Int32) : Int32 → List Nat → Prop
  | x, [] => x.toInt = -1
  | x, r :: l => x.toInt = (r : Int) ∧ CN nx (nx r) l
/-- the last of them -/
def lz : Int → List Nat → Int
  | d, [] => d
  | _, r :: l => lz r l
theorem lz_app (l m : List Nat) : ∀ d : Int, lz d (l ++ m) = lz (lz d l) m := by
  induction l with
  | nil => intro d; rfl
  | cons r l ih => intro d; exact ih _
theorem lz_in (l : List Nat) : ∀ d : Int, (l = [] ∧ lz d l = d) ∨ ∃ q : Nat, q ∈ l ∧ lz d l = q := by
  induction l with
  | nil => intro d; exact .inl ⟨rfl, rfl⟩
  | cons r l ih =>
    intro d
    rcases ih (r : Int) with ⟨e, h⟩ | ⟨q, h1, h2⟩
    · exact .inr ⟨r, List.mem_cons_self, by show lz (r : Int) l = r; exact h⟩
    · exact .inr ⟨q, List.mem_cons_of_mem _ h1, h2⟩
theorem CN.ext {nx ny : Nat → Int32} : ∀ (l : List Nat) (x : Int32), CN nx x l → (∀ r, r ∈ l → ny r = nx r) → CN ny x l := by
  intro l
  induction l with
  | nil => intro x h _; exact h
  | cons r l ih =>
    intro x h e
    obtain ⟨h1, h2⟩ := h
    refine ⟨h1, ?_⟩
    rw [e r List.mem_cons_self]
    exact ih _ h2 (fun r hr => e r (List.mem_cons_of_mem _ hr))
theorem CN.head {nx : Nat → Int32} {x y : Int32} {l : List Nat} (h : CN nx x l) (e : y.toInt = x.toInt) : CN nx y l := by
  cases l with
  | nil => exact e.trans h
  | cons r l => exact ⟨e.trans h.1, h.2⟩
/-- behind a first part -/
theorem CN.mid {nx : Nat → Int32} : ∀ (l m : List Nat) (x : Int32), CN nx x (l ++ m) → ∃ y : Int32, CN nx y m ∧ ((l = [] ∧ y = x) ∨ ∃ q : Nat, lz (-1) l = q ∧ y = nx q) := by
  intro l
  induction l with
  | nil => intro m x h; exact ⟨x, h, .inl ⟨rfl, rfl⟩⟩
  | cons r l ih =>
    intro m x h
    obtain ⟨y, h1, h2⟩ := ih m (nx r) h.2
    refine ⟨y, h1, .inr ?_⟩
    rcases h2 with ⟨e, h2⟩ | ⟨q, e, h2⟩
    · refine ⟨r, ?_, h2⟩
      rw [e]
      rfl
    · refine ⟨q, ?_, h2⟩
      show lz (r : Int) l = q
      cases l with
      | nil => exact absurd e (by show ¬ (-1 : Int) = (q : Int); omega)
      | cons a l => exact e
theorem CN.glue {nx ny : Nat → Int32} {x : Int32} {r : Nat} {m : List Nat} : ∀ (l : List Nat) (z : Int32), CN nx z (l ++ m) → l.Nodup → l ≠ [] → x.toInt = (r : Int) → CN ny (ny r) m → (∀ j, j ∈ l → (j : Int) ≠ lz (-1) l → ny j = nx j) → (∀ q : Nat, (q : Int) = lz (-1) l → ny q = x) → CN ny z (l ++ r :: m) := by
  intro l
  induction l with
  | nil => intro z _ _ h; exact absurd rfl h
  | cons a l ih =>
    intro z h hd _ hx hm h1 h2
    refine ⟨h.1, ?_⟩
    cases l with
    | nil =>
      rw [h2 a rfl]
      exact ⟨hx, hm⟩
    | cons b l =>
      have hd2 := List.nodup_cons.mp hd
      have hab : ¬ (a : Int) = lz (-1) (a :: b :: l) := fun e => by
        have e : (a : Int) = lz b l := e
        rcases lz_in l (b : Int) with ⟨_, h9⟩ | ⟨q, h8, h9⟩
        · have : a = b := by omega
          exact hd2.1 (by rw [this]; exact List.mem_cons_self)
        · have : a = q := by omega
          exact hd2.1 (by rw [this]; exact List.mem_cons_of_mem _ h8)
      rw [h1 a List.mem_cons_self hab]
      exact ih (nx a) h.2 hd2.2 (by simp) hx hm (fun j hj hn => h1 j (List.mem_cons_of_mem _ hj) hn) (fun q hq => h2 q hq)
/-- a row x came below p, behind l and ahead of m -/
def LKG (F L N F' L' N' : Nat → Int32) (x p : Nat) (l m : List Nat) : Prop := (∀ j, j ≠ p → F' j = F j ∧ L' j = L j) ∧ (∀ j, j ≠ x → (j : Int) ≠ lz (-1) l → N' j = N j) ∧ CN N' (F' p) (l ++ x :: m) ∧ (L' p).toInt = lz (-1) (l ++ x :: m)
theorem lkg_0 {F L N F' L' N' : Nat → Int32} {x p : Nat} {m : List Nat} {v : Int32} (hv : v.toInt = (x : Int)) (hx : x ∉ m) (hc : CN N (F p) m) (hl : (L p).toInt = lz (-1) m) (hF : F' p = v ∧ ∀ j, j ≠ p → F' j = F j) (hN : N' x = F p ∧ ∀ j, j ≠ x → N' j = N j) (hL : ((F p).toInt = -1 ∧ L' p = v ∨ ¬ (F p).toInt = -1 ∧ L' p = L p) ∧ ∀ j, j ≠ p → L' j = L j) : LKG F L N F' L' N' x p [] m := by
  refine ⟨fun j hj => ⟨hF.2 j hj, hL.2 j hj⟩, fun j hj _ => hN.2 j hj, ?_, ?_⟩
  · show CN N' (F' p) (x :: m)
    rw [hF.1]
    refine ⟨hv, ?_⟩
    rw [hN.1]
    exact hc.ext _ _ (fun r hr => hN.2 r (fun e => hx (by rw [← e]; exact hr)))
  · show (L' p).toInt = lz (x : Int) m
    cases m with
    | nil =>
      rcases hL.1 with ⟨_, h⟩ | ⟨h, _⟩
      · rw [h]
        exact hv
      · exact absurd hc h
    | cons r m =>
      have h1 := hc.1
      rcases hL.1 with ⟨h, _⟩ | ⟨_, h⟩
      · omega
      · rw [h]
        exact hl
theorem lkg_1 {F L N F' L' N' : Nat → Int32} {x p q : Nat} {l m : List Nat} {v : Int32} (hv : v.toInt = (x : Int)) (hx : x ∉ l ++ m) (hd : (l ++ m).Nodup) (hc : CN N (F p) (l ++ m)) (hq : (q : Int) = lz (-1) l) (hl : (L p).toInt = lz (-1) (l ++ m)) (hF : ∀ j, F' j = F j) (hN : (N' x = N q ∧ N' q = v) ∧ ∀ j, j ≠ x → j ≠ q → N' j = N j) (hL : ((N q).toInt = -1 ∧ L' p = v ∨ ¬ (N q).toInt = -1 ∧ L' p = L p) ∧ ∀ j, j ≠ p → L' j = L j) : LKG F L N F' L' N' x p l m := by
  have hle : l ≠ [] := fun e => by
    rw [e] at hq
    have hq : (q : Int) = -1 := hq
    omega
  obtain ⟨y, hy, hy2⟩ := CN.mid l m (F p) hc
  have ey : y = N q := by
    rcases hy2 with ⟨e, _⟩ | ⟨q', e, h⟩
    · exact absurd e hle
    · have : q' = q := by omega
      rw [this] at h
      exact h
  have hqm : q ∉ m := fun h => by
    rcases lz_in l (-1) with ⟨e, _⟩ | ⟨q', h1, h2⟩
    · exact hle e
    · have : q' = q := by omega
      rw [this] at h1
      exact (List.nodup_append.mp hd).2.2 q h1 q h rfl
  refine ⟨fun j hj => ⟨hF j, hL.2 j hj⟩, fun j hj hn => hN.2 j hj (fun e => hn (by rw [e]; exact hq)), ?_, ?_⟩
  · rw [hF p]
    refine CN.glue l (F p) hc (List.Sublist.nodup (List.sublist_append_left l m) hd) hle hv ?_ (fun j hj hn => hN.2 j (fun e => hx (List.mem_append_left _ (by rw [← e]; exact hj))) (fun e => hn (by rw [e]; exact hq))) (fun j hj => by
      have : j = q := by omega
      rw [this]
      exact hN.1.2)
    rw [hN.1.1, ← ey]
    exact hy.ext _ _ (fun r hr => hN.2 r (fun e => hx (List.mem_append_right _ (by rw [← e]; exact hr))) (fun e => hqm (by rw [← e]; exact hr)))
  · rw [lz_app]
    show (L' p).toInt = lz (x : Int) m
    rw [ey] at hy
    cases m with
    | nil =>
      rcases hL.1 with ⟨_, h⟩ | ⟨h, _⟩
      · rw [h]
        exact hv
      · exact absurd hy h
    | cons r m =>
      have h1 := hy.1
      rcases hL.1 with ⟨h, _⟩ | ⟨_, h⟩
      · omega
      · rw [h, hl, lz_app]
        rfl
