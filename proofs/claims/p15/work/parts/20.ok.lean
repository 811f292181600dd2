/-! STAGE 2: the pure functions answer, over an invariant -/
def OK {α : Type} (o : Option α) (P : α → Prop) : Prop := ∃ q, o = some q ∧ P q
theorem OK.ret {α : Type} {q : α} {P : α → Prop} (h : P q) : OK (some q) P := ⟨q, rfl, h⟩
theorem OK.mono {α : Type} {o : Option α} {P Q : α → Prop} (h : OK o P) (k : ∀ q, P q → Q q) : OK o Q := by
  obtain ⟨q, e, hq⟩ := h
  exact ⟨q, e, k q hq⟩
theorem OK.ite {α : Type} {c : Prop} {i : Decidable c} {x y : Option α} {P : α → Prop} (h1 : c → OK x P) (h2 : ¬ c → OK y P) : OK (@_root_.ite (Option α) c i x y) P := by
  by_cases hc : c
  · rw [if_pos hc]; exact h1 hc
  · rw [if_neg hc]; exact h2 hc
theorem OK.grd {α : Type} {c : Prop} {i : Decidable c} {x : Option α} {P : α → Prop} (hc : c) (h : OK x P) : OK (@_root_.ite (Option α) c i x none) P := by
  rw [if_pos hc]; exact h
theorem OK.ilt {α : Type} {a b : Int32} {i : Decidable (a < b)} {x y : Option α} {P : α → Prop} (h1 : a.toInt < b.toInt → OK x P) (h2 : b.toInt ≤ a.toInt → OK y P) : OK (@_root_.ite (Option α) (a < b) i x y) P := OK.ite (fun h => h1 (il_lt h)) (fun h => h2 (il_nlt h))
theorem OK.ile {α : Type} {a b : Int32} {i : Decidable (a ≤ b)} {x y : Option α} {P : α → Prop} (h1 : a.toInt ≤ b.toInt → OK x P) (h2 : b.toInt < a.toInt → OK y P) : OK (@_root_.ite (Option α) (a ≤ b) i x y) P := OK.ite (fun h => h1 (il_le h)) (fun h => h2 (il_nle h))
theorem OK.ieq {α : Type} {a b : Int32} {i : Decidable (a = b)} {x y : Option α} {P : α → Prop} (h1 : a.toInt = b.toInt → OK x P) (h2 : ¬ a.toInt = b.toInt → OK y P) : OK (@_root_.ite (Option α) (a = b) i x y) P := OK.ite (fun h => h1 (il_eq h)) (fun h => h2 (il_ne h))
theorem OK.bnd {α β : Type} {o : Option α} {f : α → Option β} {Q : α → Prop} {P : β → Prop} (h : OK o Q) (k : ∀ q, Q q → OK (f q) P) : OK (o.bind f) P := by
  obtain ⟨q, e, hq⟩ := h
  rw [e]; exact k q hq
theorem OK.lt {α β : Type} {e : α} {f : α → Option β} {P : β → Prop} (k : ∀ z, z = e → OK (f z) P) : OK ((some e).bind f) P := k e rfl
def RO {α : Type} (σ : ST) (Q : α → Prop) (q : α × ST) : Prop := q.2 = σ ∧ Q q.1
theorem OK.roret {α : Type} {v : α} {σ : ST} {Q : α → Prop} (h : Q v) : OK (some (v, σ)) (RO σ Q) := ⟨_, rfl, rfl, h⟩
theorem OK.bndR {α β : Type} {o : Option (α × ST)} {f : α × ST → Option β} {s : ST} {Q : α → Prop} {P : β → Prop} (h : OK o (RO s Q)) (k : ∀ v, Q v → OK (f (v, s)) P) : OK (o.bind f) P := by
  obtain ⟨⟨v, s1⟩, e, h1, h2⟩ := h
  have h1 : s1 = s := h1
  subst h1
  rw [e]; exact k v h2
theorem OK.roq {α : Type} {o : Option (α × ST)} {s : ST} {Q R : α → Prop} (h : OK o (RO s Q)) (k : ∀ v, Q v → R v) : OK o (RO s R) := h.mono (fun q hq => ⟨hq.1, k q.1 hq.2⟩)
/-- an answer of yes or no -/
def B01 (v : Int32) : Prop := v.toInt = 0 ∨ v.toInt = 1
theorem b01 {v : Int32} (h : v.toInt = 0 ∨ v.toInt = 1) : v = 0 ∨ v = 1 := h.elim (fun h => .inl (Int32.toInt_inj.mp h)) (fun h => .inr (Int32.toInt_inj.mp h))
theorem b01_0 : B01 0 := .inl (by decide)
theorem b01_1 : B01 1 := .inr (by decide)
/-- within two bounds -/
def bI (x : Int32) (a b : Int) : Prop := a ≤ x.toInt ∧ x.toInt ≤ b
theorem i_rng (x : Int32) : -2147483648 ≤ x.toInt ∧ x.toInt ≤ 2147483647 := ⟨Int32.le_toInt x, by have := Int32.toInt_lt x; omega⟩
theorem i_bm (x : Int) : ∃ k : Int, x.bmod (2 ^ 32) = x + 4294967296 * k := ⟨-(x.bdiv (2 ^ 32)), by have := Int.bmod_add_bdiv x (2 ^ 32); omega⟩
theorem i_add (x y : Int32) : ∃ k : Int, (x + y).toInt = x.toInt + y.toInt + 4294967296 * k ∧ -2147483648 ≤ (x + y).toInt ∧ (x + y).toInt ≤ 2147483647 := by
  obtain ⟨k, hk⟩ := i_bm (x.toInt + y.toInt)
  exact ⟨k, by rw [Int32.toInt_add]; exact hk, i_rng _⟩
theorem i_sub (x y : Int32) : ∃ k : Int, (x - y).toInt = x.toInt - y.toInt + 4294967296 * k ∧ -2147483648 ≤ (x - y).toInt ∧ (x - y).toInt ≤ 2147483647 := by
  obtain ⟨k, hk⟩ := i_bm (x.toInt - y.toInt)
  exact ⟨k, by rw [Int32.toInt_sub]; exact hk, i_rng _⟩
theorem i_mul (x y : Int32) : ∃ k : Int, (x * y).toInt = x.toInt * y.toInt + 4294967296 * k ∧ -2147483648 ≤ (x * y).toInt ∧ (x * y).toInt ≤ 2147483647 := by
  obtain ⟨k, hk⟩ := i_bm (x.toInt * y.toInt)
  exact ⟨k, by rw [Int32.toInt_mul]; exact hk, i_rng _⟩
theorem k0el {k : Int} {P : Prop} (h : k = 0) (f : k = 0 → P) : P := f h
/-! the class's invariant: bounds that its own tests rest on, and its trees -/
def updZ (f : Nat → Int) (i : Nat) (v : Int) : Nat → Int := fun j => if j = i then v else f j
/-- a tree's rows: parents, places, first and last children, the next of one parent -/
def TRf (S : Int) (P C F L N : Nat → Int) : Prop := ∀ r : Nat, (r : Int) < S →
  (F r = -1 ∨ 0 ≤ F r ∧ F r < S ∧ P (F r).toNat = r) ∧
  (L r = -1 ∨ 0 ≤ L r ∧ L r < S ∧ P (L r).toNat = r ∧ N (L r).toNat = -1) ∧
  (N r = -1 ∨ 0 ≤ N r ∧ N r < S ∧ P (N r).toNat = P r ∧ (C r < C (N r).toNat ∨ C r = C (N r).toNat ∧ N r < r))
theorem TRf.first {S : Int} {P C F L N : Nat → Int} (h : TRf S P C F L N) {row p : Nat} (hrow : (row : Int) = S - 1) (hp : (p : Int) < S) (hP : P row = p) (fresh : ∀ r : Nat, (r : Int) < S → F r < row ∧ L r < row ∧ N r < row) (hc : F p = -1 ∨ C row ≤ C (F p).toNat) : TRf S P C (updZ F p row) (if F p = -1 then updZ L p row else L) (updZ N row (F p)) := by
  intro r hr
  obtain ⟨hF, hL, hN⟩ := h r hr
  obtain ⟨f1, f2, f3⟩ := fresh r hr
  have hLr : L r = -1 ∨ 0 ≤ L r ∧ L r < S ∧ P (L r).toNat = r ∧ updZ N row (F p) (L r).toNat = -1 := by
    rcases hL with hL | ⟨a1, a2, a3, a4⟩
    · exact .inl hL
    · refine .inr ⟨a1, a2, a3, ?_⟩
      unfold updZ
      rw [if_neg (by omega)]
      exact a4
  refine ⟨?_, ?_, ?_⟩
  · unfold updZ
    by_cases e : r = p
    · rw [if_pos e]
      exact .inr ⟨by omega, by omega, by rw [Int.toNat_natCast, hP, e]⟩
    · rw [if_neg e]; exact hF
  · by_cases e1 : F p = -1
    · rw [if_pos e1]
      by_cases e : r = p
      · have e2 : updZ L p (row : Int) r = row := by unfold updZ; rw [if_pos e]
        rw [e2]
        refine .inr ⟨by omega, by omega, by rw [Int.toNat_natCast, hP, e], ?_⟩
        rw [Int.toNat_natCast]
        unfold updZ
        rw [if_pos rfl]; exact e1
      · have e2 : updZ L p (row : Int) r = L r := by unfold updZ; rw [if_neg e]
        rw [e2]; exact hLr
    · rw [if_neg e1]; exact hLr
  · by_cases e : r = row
    · have e2 : updZ N row (F p) r = F p := by unfold updZ; rw [if_pos e]
      rw [e2]
      rcases (h p hp).1 with a | ⟨a1, a2, a3⟩
      · exact .inl a
      · have fp := (fresh p hp).1
        refine .inr ⟨a1, a2, by rw [a3, e, hP], ?_⟩
        rw [e]
        rcases hc with hc | hc
        · omega
        · rcases Int.lt_or_eq_of_le hc with hc | hc
          · exact .inl hc
          · exact .inr ⟨hc, fp⟩
    · have e2 : updZ N row (F p) r = N r := by unfold updZ; rw [if_neg e]
      rw [e2]; exact hN
theorem TRf.after {S : Int} {P C F L N : Nat → Int} (h : TRf S P C F L N) {row p q : Nat} (hrow : (row : Int) = S - 1) (hP : P row = p) (fresh : ∀ r : Nat, (r : Int) < S → F r < row ∧ L r < row ∧ N r < row) (hq : q < row) (hPq : P q = p) (hCq : C q < C row) (hc : N q = -1 ∨ C row ≤ C (N q).toNat) : TRf S P C F (if N q = -1 then updZ L p row else L) (updZ (updZ N row (N q)) q row) := by
  intro r hr
  obtain ⟨hF, hL, hN⟩ := h r hr
  obtain ⟨f1, f2, f3⟩ := fresh r hr
  have nq : ∀ j : Nat, j ≠ q → j ≠ row → updZ (updZ N row (N q)) q (row : Int) j = N j := fun j h1 h2 => by unfold updZ; rw [if_neg h1, if_neg h2]
  have nrow : updZ (updZ N row (N q)) q (row : Int) row = N q := by unfold updZ; rw [if_neg (by omega), if_pos rfl]
  refine ⟨hF, ?_, ?_⟩
  · by_cases e1 : N q = -1
    · rw [if_pos e1]
      by_cases e : r = p
      · have e2 : updZ L p (row : Int) r = row := by unfold updZ; rw [if_pos e]
        rw [e2]
        refine .inr ⟨by omega, by omega, by rw [Int.toNat_natCast, hP, e], ?_⟩
        rw [Int.toNat_natCast, nrow]; exact e1
      · have e2 : updZ L p (row : Int) r = L r := by unfold updZ; rw [if_neg e]
        rw [e2]
        rcases hL with hL | ⟨a1, a2, a3, a4⟩
        · exact .inl hL
        · refine .inr ⟨a1, a2, a3, ?_⟩
          rw [nq _ (fun h9 => e (by rw [h9, hPq] at a3; omega)) (by omega)]
          exact a4
    · rw [if_neg e1]
      rcases hL with hL | ⟨a1, a2, a3, a4⟩
      · exact .inl hL
      · refine .inr ⟨a1, a2, a3, ?_⟩
        rw [nq _ (fun h9 => e1 (by rw [← h9]; exact a4)) (by omega)]
        exact a4
  · by_cases e : r = q
    · have e2 : updZ (updZ N row (N q)) q (row : Int) r = row := by unfold updZ; rw [if_pos e]
      rw [e2, Int.toNat_natCast, hP, e, hPq]
      exact .inr ⟨by omega, by omega, rfl, .inl hCq⟩
    · by_cases e3 : r = row
      · rw [e3, nrow]
        have hqS : (q : Int) < S := by omega
        rcases (h q hqS).2.2 with a | ⟨a1, a2, a3, _⟩
        · exact .inl a
        · have fp := (fresh q hqS).2.2
          refine .inr ⟨a1, a2, by rw [a3, hP, hPq], ?_⟩
          rcases hc with hc | hc
          · omega
          · rcases Int.lt_or_eq_of_le hc with hc | hc
            · exact .inl hc
            · exact .inr ⟨hc, fp⟩
      · rw [nq _ e e3]; exact hN
/-- a count below a bound -/
def cntZ (p : Nat → Prop) [DecidablePred p] : Nat → Nat
  | 0 => 0
  | n + 1 => cntZ p n + (if p n then 1 else 0)
theorem cntZ_le {p : Nat → Prop} [DecidablePred p] : ∀ n : Nat, cntZ p n ≤ n := by
  intro n
  induction n with
  | zero => exact Nat.le_refl 0
  | succ n ih => rw [cntZ]; split <;> omega
theorem cntZ_mono {p q : Nat → Prop} [DecidablePred p] [DecidablePred q] (h : ∀ r, p r → q r) : ∀ n : Nat, cntZ p n ≤ cntZ q n := by
  intro n
  induction n with
  | zero => exact Nat.le_refl 0
  | succ n ih =>
    rw [cntZ, cntZ]
    by_cases hp : p n
    · rw [if_pos hp, if_pos (h n hp)]; omega
    · rw [if_neg hp]; split <;> omega
theorem cntZ_lt {p q : Nat → Prop} [DecidablePred p] [DecidablePred q] (h : ∀ r, p r → q r) {c : Nat} (hp : ¬ p c) (hq : q c) : ∀ n : Nat, c < n → cntZ p n + 1 ≤ cntZ q n := by
  intro n
  induction n with
  | zero => intro hc; omega
  | succ n ih =>
    intro hc
    rw [cntZ, cntZ]
    by_cases e : c = n
    · subst e
      rw [if_neg hp, if_pos hq]
      have := cntZ_mono h c
      omega
    · have := ih (by omega)
      by_cases hp : p n
      · rw [if_pos hp, if_pos (h n hp)]; omega
      · rw [if_neg hp]; split <;> omega
def TR (b : Nat) (n : Int) (σ : ST) : Prop :=
  (σ.1 b 0).toInt = n ∧ bI (σ.1 b 1) 0 n ∧ TRf (σ.1 b 1).toInt (fun r => (σ.1 (b + 2) r).toInt) (fun r => (σ.1 (b + 3) r).toInt) (fun r => (σ.1 (b + 7) r).toInt) (fun r => (σ.1 (b + 8) r).toInt) (fun r => (σ.1 (b + 9) r).toInt)
def IA (σ : ST) : Prop :=
  bI (σ.1 0 1) 0 1000 ∧ bI (σ.1 2 2) 0 1000 ∧ bI (σ.1 2 3) 0 1030 ∧ bI (σ.1 2 5) 0 1030 ∧
  bI (σ.1 4 0) 0 6 ∧ bI (σ.1 20 0) 0 6 ∧ bI (σ.1 20 1) 0 262 ∧
  (∀ i, bI (σ.1 5 i) 0 36) ∧ (∀ i, bI (σ.1 21 i) 0 36) ∧ (∀ i, bI (σ.1 7 i) 0 8) ∧ (∀ i, bI (σ.1 23 i) 0 8) ∧ (∀ i, -1 ≤ (σ.1 22 i).toInt) ∧
  bI (σ.1 48 1) 0 4 ∧ (∀ i, bI (σ.1 88 i) (-128) 127) ∧ 0 ≤ (σ.1 87 2).toInt ∧
  σ.2.2.2 89 = 50 ∧ (σ.2.2.2 92 = 62 ∨ σ.2.2.2 92 = 74) ∧ TR 50 400 σ ∧ TR 62 502 σ ∧ TR 74 400 σ
theorem IA.tape {σ : ST} (h : IA σ) : bI (σ.1 0 1) 0 1000 := h.1
theorem IA.tend {σ : ST} (h : IA σ) : bI (σ.1 2 2) 0 1000 := h.2.1
theorem IA.tnext {σ : ST} (h : IA σ) : bI (σ.1 2 3) 0 1030 := h.2.2.1
theorem IA.tstart {σ : ST} (h : IA σ) : bI (σ.1 2 5) 0 1030 := h.2.2.2.1
theorem IA.plans {σ : ST} (h : IA σ) : bI (σ.1 4 0) 0 6 := h.2.2.2.2.1
theorem IA.dplans {σ : ST} (h : IA σ) : bI (σ.1 20 0) 0 6 := h.2.2.2.2.2.1
theorem IA.dtypes {σ : ST} (h : IA σ) : bI (σ.1 20 1) 0 262 := h.2.2.2.2.2.2.1
theorem IA.recs {σ : ST} (h : IA σ) (i : Nat) : bI (σ.1 5 i) 0 36 := h.2.2.2.2.2.2.2.1 i
theorem IA.drecs {σ : ST} (h : IA σ) (i : Nat) : bI (σ.1 21 i) 0 36 := h.2.2.2.2.2.2.2.2.1 i
theorem IA.flds {σ : ST} (h : IA σ) (i : Nat) : bI (σ.1 7 i) 0 8 := h.2.2.2.2.2.2.2.2.2.1 i
theorem IA.dflds {σ : ST} (h : IA σ) (i : Nat) : bI (σ.1 23 i) 0 8 := h.2.2.2.2.2.2.2.2.2.2.1 i
theorem IA.droot {σ : ST} (h : IA σ) (i : Nat) : -1 ≤ (σ.1 22 i).toInt := h.2.2.2.2.2.2.2.2.2.2.2.1 i
theorem IA.ways {σ : ST} (h : IA σ) : bI (σ.1 48 1) 0 4 := h.2.2.2.2.2.2.2.2.2.2.2.2.1
theorem IA.pkb {σ : ST} (h : IA σ) (i : Nat) : bI (σ.1 88 i) (-128) 127 := h.2.2.2.2.2.2.2.2.2.2.2.2.2.1 i
theorem IA.pks {σ : ST} (h : IA σ) : 0 ≤ (σ.1 87 2).toInt := h.2.2.2.2.2.2.2.2.2.2.2.2.2.2.1
theorem IA.r89 {σ : ST} (h : IA σ) : σ.2.2.2 89 = 50 := h.2.2.2.2.2.2.2.2.2.2.2.2.2.2.2.1
theorem IA.r92 {σ : ST} (h : IA σ) : σ.2.2.2 92 = 62 ∨ σ.2.2.2 92 = 74 := h.2.2.2.2.2.2.2.2.2.2.2.2.2.2.2.2.1
theorem IA.t50 {σ : ST} (h : IA σ) : TR 50 400 σ := h.2.2.2.2.2.2.2.2.2.2.2.2.2.2.2.2.2.1
theorem IA.t62 {σ : ST} (h : IA σ) : TR 62 502 σ := h.2.2.2.2.2.2.2.2.2.2.2.2.2.2.2.2.2.2.1
theorem IA.t74 {σ : ST} (h : IA σ) : TR 74 400 σ := h.2.2.2.2.2.2.2.2.2.2.2.2.2.2.2.2.2.2.2
theorem ia_L {σ : ST} {c i : Nat} {v : Int64} (h : IA σ) : IA (stL σ c i v) := h
theorem ia_FL {σ : ST} {c : Nat} {f : Nat → Int64} (h : IA σ) : IA (stFL σ c f) := h
/-- what the inner calls leave as it is: the tape, the plans' number, the references -/
def Fr (σ τ : ST) : Prop := τ.1 0 = σ.1 0 ∧ τ.1 1 = σ.1 1 ∧ (τ.1 4 = σ.1 4 ∧ τ.2.1 3 = σ.2.1 3) ∧ τ.2.2.2 = σ.2.2.2
theorem Fr.rf {σ : ST} : Fr σ σ := ⟨rfl, rfl, ⟨rfl, rfl⟩, rfl⟩
theorem Fr.trans {σ τ υ : ST} (h : Fr σ τ) (k : Fr τ υ) : Fr σ υ := ⟨k.1.trans h.1, k.2.1.trans h.2.1, ⟨k.2.2.1.1.trans h.2.2.1.1, k.2.2.1.2.trans h.2.2.1.2⟩, k.2.2.2.trans h.2.2.2⟩
theorem stL_3 {σ : ST} {q i : Nat} {v : Int64} (h : q ≠ 3) : (stL σ q i v).2.1 3 = σ.2.1 3 := by
  show (bif Nat.beq 3 q then vp_updL (σ.2.1 3) i v else σ.2.1 3) = σ.2.1 3
  have hb : Nat.beq 3 q = false := by
    cases hb : Nat.beq 3 q with
    | false => rfl
    | true => exact absurd (Nat.eq_of_beq_eq_true hb).symm h
  rw [hb]; rfl
theorem stFL_3 {σ : ST} {q : Nat} {f : Nat → Int64} (h : q ≠ 3) : (stFL σ q f).2.1 3 = σ.2.1 3 := by
  show (bif Nat.beq 3 q then f else σ.2.1 3) = σ.2.1 3
  have hb : Nat.beq 3 q = false := by
    cases hb : Nat.beq 3 q with
    | false => rfl
    | true => exact absurd (Nat.eq_of_beq_eq_true hb).symm h
  rw [hb]; rfl
theorem fr_L {σ τ : ST} {c i : Nat} {v : Int64} (h : Fr σ τ) (hc : c ≠ 3 := by decide) : Fr σ (stL τ c i v) := ⟨h.1, h.2.1, ⟨h.2.2.1.1, (stL_3 hc).trans h.2.2.1.2⟩, h.2.2.2⟩
theorem fr_FL {σ τ : ST} {c : Nat} {f : Nat → Int64} (h : Fr σ τ) (hc : c ≠ 3 := by decide) : Fr σ (stFL τ c f) := ⟨h.1, h.2.1, ⟨h.2.2.1.1, (stFL_3 hc).trans h.2.2.1.2⟩, h.2.2.2⟩
def RW {α : Type} (σ : ST) (Q : α → Prop) (q : α × ST) : Prop := (IA q.2 ∧ Fr σ q.2) ∧ Q q.1
def RS (σ : ST) (q : ST) : Prop := IA q ∧ Fr σ q
theorem OK.wret {α : Type} {v : α} {σ s : ST} {Q : α → Prop} (h : IA s) (f : Fr σ s) (hq : Q v) : OK (some (v, s)) (RW σ Q) := ⟨_, rfl, ⟨h, f⟩, hq⟩
theorem OK.sret {σ s : ST} (h : IA s) (f : Fr σ s) : OK (some s) (RS σ) := ⟨_, rfl, h, f⟩
theorem OK.bndW {α β : Type} {o : Option (α × ST)} {f : α × ST → Option β} {s σ : ST} {Q : α → Prop} {P : β → Prop} (h : OK o (RW s Q)) (hF : Fr σ s) (k : ∀ (v : α) (t : ST), IA t → Fr σ t → Q v → OK (f (v, t)) P) : OK (o.bind f) P := by
  obtain ⟨⟨v, s1⟩, e, h1, h2⟩ := h
  rw [e]; exact k v s1 h1.1 (hF.trans h1.2) h2
theorem OK.bndS {β : Type} {o : Option ST} {f : ST → Option β} {s σ : ST} {P : β → Prop} (h : OK o (RS s)) (hF : Fr σ s) (k : ∀ t : ST, IA t → Fr σ t → OK (f t) P) : OK (o.bind f) P := by
  obtain ⟨s1, e, h1⟩ := h
  rw [e]; exact k s1 h1.1 (hF.trans h1.2)
theorem OK.trS {o : Option ST} {s σ : ST} (h : OK o (RS s)) (hF : Fr σ s) : OK o (RS σ) := h.mono (fun _ hq => ⟨hq.1, hF.trans hq.2⟩)
theorem OK.trW {α : Type} {o : Option (α × ST)} {s σ : ST} {Q R : α → Prop} (h : OK o (RW s Q)) (hF : Fr σ s) (k : ∀ v, Q v → R v) : OK o (RW σ R) := h.mono (fun q hq => ⟨⟨hq.1.1, hF.trans hq.1.2⟩, k q.1 hq.2⟩)
theorem OK.row {α : Type} {o : Option (α × ST)} {s σ : ST} {Q R : α → Prop} (h : OK o (RO s Q)) (hI : IA s) (hF : Fr σ s) (k : ∀ v, Q v → R v) : OK o (RW σ R) := h.mono (fun q hq => by
  obtain ⟨v, t⟩ := q
  obtain ⟨h1, h2⟩ := hq
  have h1 : t = s := h1
  subst h1
  exact ⟨⟨hI, hF⟩, k v h2⟩)
theorem ia_J_0_1 {σ : ST} {v : Int32} (h : IA σ) (hv : bI v 0 1000) : IA (stI σ 0 1 v) := ⟨hv, h.2⟩
theorem ia_J_2_2 {σ : ST} {v : Int32} (h : IA σ) (hv : bI v 0 1000) : IA (stI σ 2 2 v) := ⟨h.1, hv, h.2.2⟩
theorem ia_J_2_3 {σ : ST} {v : Int32} (h : IA σ) (hv : bI v 0 1030) : IA (stI σ 2 3 v) := ⟨h.1, h.2.1, hv, h.2.2.2⟩
theorem ia_J_2_5 {σ : ST} {v : Int32} (h : IA σ) (hv : bI v 0 1030) : IA (stI σ 2 5 v) := ⟨h.1, h.2.1, h.2.2.1, hv, h.2.2.2.2⟩
theorem ia_J_4_0 {σ : ST} {v : Int32} (h : IA σ) (hv : bI v 0 6) : IA (stI σ 4 0 v) := ⟨h.1, h.2.1, h.2.2.1, h.2.2.2.1, hv, h.2.2.2.2.2⟩
theorem ia_J_20_0 {σ : ST} {v : Int32} (h : IA σ) (hv : bI v 0 6) : IA (stI σ 20 0 v) := ⟨h.1, h.2.1, h.2.2.1, h.2.2.2.1, h.2.2.2.2.1, hv, h.2.2.2.2.2.2⟩
theorem ia_J_20_1 {σ : ST} {v : Int32} (h : IA σ) (hv : bI v 0 262) : IA (stI σ 20 1 v) := ⟨h.1, h.2.1, h.2.2.1, h.2.2.2.1, h.2.2.2.2.1, h.2.2.2.2.2.1, hv, h.2.2.2.2.2.2.2⟩
theorem ia_J_48_1 {σ : ST} {v : Int32} (h : IA σ) (hv : bI v 0 4) : IA (stI σ 48 1 v) := ⟨h.1, h.2.1, h.2.2.1, h.2.2.2.1, h.2.2.2.2.1, h.2.2.2.2.2.1, h.2.2.2.2.2.2.1, h.2.2.2.2.2.2.2.1, h.2.2.2.2.2.2.2.2.1, h.2.2.2.2.2.2.2.2.2.1, h.2.2.2.2.2.2.2.2.2.2.1, h.2.2.2.2.2.2.2.2.2.2.2.1, hv, h.2.2.2.2.2.2.2.2.2.2.2.2.2⟩
theorem ia_J_87_2 {σ : ST} {v : Int32} (h : IA σ) (hv : 0 ≤ v.toInt) : IA (stI σ 87 2 v) := ⟨h.1, h.2.1, h.2.2.1, h.2.2.2.1, h.2.2.2.2.1, h.2.2.2.2.2.1, h.2.2.2.2.2.2.1, h.2.2.2.2.2.2.2.1, h.2.2.2.2.2.2.2.2.1, h.2.2.2.2.2.2.2.2.2.1, h.2.2.2.2.2.2.2.2.2.2.1, h.2.2.2.2.2.2.2.2.2.2.2.1, h.2.2.2.2.2.2.2.2.2.2.2.2.1, h.2.2.2.2.2.2.2.2.2.2.2.2.2.1, hv, h.2.2.2.2.2.2.2.2.2.2.2.2.2.2.2⟩
theorem upd_all {P : Int32 → Prop} {f : Nat → Int32} {i : Nat} {v : Int32} (h : ∀ j, P (f j)) (hv : P v) : ∀ j, P (upd f i v j) := by
  intro j
  unfold upd
  split
  · exact hv
  · exact h j
theorem ia_J_21 {σ : ST} {i : Nat} {v : Int32} (h : IA σ) (hv : bI v 0 36) : IA (stI σ 21 i v) := ⟨h.1, h.2.1, h.2.2.1, h.2.2.2.1, h.2.2.2.2.1, h.2.2.2.2.2.1, h.2.2.2.2.2.2.1, h.2.2.2.2.2.2.2.1, upd_all (P := fun x => bI x 0 36) (h.2.2.2.2.2.2.2.2.1) hv, h.2.2.2.2.2.2.2.2.2⟩
theorem ia_J_23 {σ : ST} {i : Nat} {v : Int32} (h : IA σ) (hv : bI v 0 8) : IA (stI σ 23 i v) := ⟨h.1, h.2.1, h.2.2.1, h.2.2.2.1, h.2.2.2.2.1, h.2.2.2.2.2.1, h.2.2.2.2.2.2.1, h.2.2.2.2.2.2.2.1, h.2.2.2.2.2.2.2.2.1, h.2.2.2.2.2.2.2.2.2.1, upd_all (P := fun x => bI x 0 8) (h.2.2.2.2.2.2.2.2.2.2.1) hv, h.2.2.2.2.2.2.2.2.2.2.2⟩
theorem ia_J_22 {σ : ST} {i : Nat} {v : Int32} (h : IA σ) (hv : -1 ≤ v.toInt) : IA (stI σ 22 i v) := ⟨h.1, h.2.1, h.2.2.1, h.2.2.2.1, h.2.2.2.2.1, h.2.2.2.2.2.1, h.2.2.2.2.2.2.1, h.2.2.2.2.2.2.2.1, h.2.2.2.2.2.2.2.2.1, h.2.2.2.2.2.2.2.2.2.1, h.2.2.2.2.2.2.2.2.2.2.1, upd_all (P := fun x => -1 ≤ x.toInt) (h.2.2.2.2.2.2.2.2.2.2.2.1) hv, h.2.2.2.2.2.2.2.2.2.2.2.2⟩
theorem ia_J_88 {σ : ST} {i : Nat} {v : Int32} (h : IA σ) (hv : bI v (-128) 127) : IA (stI σ 88 i v) := ⟨h.1, h.2.1, h.2.2.1, h.2.2.2.1, h.2.2.2.2.1, h.2.2.2.2.2.1, h.2.2.2.2.2.2.1, h.2.2.2.2.2.2.2.1, h.2.2.2.2.2.2.2.2.1, h.2.2.2.2.2.2.2.2.2.1, h.2.2.2.2.2.2.2.2.2.2.1, h.2.2.2.2.2.2.2.2.2.2.2.1, h.2.2.2.2.2.2.2.2.2.2.2.2.1, upd_all (P := fun x => bI x (-128) 127) (h.2.2.2.2.2.2.2.2.2.2.2.2.2.1) hv, h.2.2.2.2.2.2.2.2.2.2.2.2.2.2⟩
theorem li_m1 : (-1 : Int32).toInt = -1 := by decide
theorem li_0 : (0 : Int32).toInt = 0 := by decide
theorem li_1 : (1 : Int32).toInt = 1 := by decide
theorem li_2 : (2 : Int32).toInt = 2 := by decide
theorem li_3 : (3 : Int32).toInt = 3 := by decide
theorem li_4 : (4 : Int32).toInt = 4 := by decide
theorem li_5 : (5 : Int32).toInt = 5 := by decide
theorem li_6 : (6 : Int32).toInt = 6 := by decide
theorem li_7 : (7 : Int32).toInt = 7 := by decide
theorem li_8 : (8 : Int32).toInt = 8 := by decide
theorem li_9 : (9 : Int32).toInt = 9 := by decide
theorem li_10 : (10 : Int32).toInt = 10 := by decide
theorem li_11 : (11 : Int32).toInt = 11 := by decide
theorem li_12 : (12 : Int32).toInt = 12 := by decide
theorem li_13 : (13 : Int32).toInt = 13 := by decide
theorem li_14 : (14 : Int32).toInt = 14 := by decide
theorem li_15 : (15 : Int32).toInt = 15 := by decide
theorem li_16 : (16 : Int32).toInt = 16 := by decide
theorem li_18 : (18 : Int32).toInt = 18 := by decide
theorem li_20 : (20 : Int32).toInt = 20 := by decide
theorem li_24 : (24 : Int32).toInt = 24 := by decide
theorem li_31 : (31 : Int32).toInt = 31 := by decide
theorem li_32 : (32 : Int32).toInt = 32 := by decide
theorem li_34 : (34 : Int32).toInt = 34 := by decide
theorem li_36 : (36 : Int32).toInt = 36 := by decide
theorem li_40 : (40 : Int32).toInt = 40 := by decide
theorem li_42 : (42 : Int32).toInt = 42 := by decide
theorem li_44 : (44 : Int32).toInt = 44 := by decide
theorem li_45 : (45 : Int32).toInt = 45 := by decide
theorem li_46 : (46 : Int32).toInt = 46 := by decide
theorem li_48 : (48 : Int32).toInt = 48 := by decide
theorem li_52 : (52 : Int32).toInt = 52 := by decide
theorem li_56 : (56 : Int32).toInt = 56 := by decide
theorem li_57 : (57 : Int32).toInt = 57 := by decide
theorem li_59 : (59 : Int32).toInt = 59 := by decide
theorem li_63 : (63 : Int32).toInt = 63 := by decide
theorem li_64 : (64 : Int32).toInt = 64 := by decide
theorem li_91 : (91 : Int32).toInt = 91 := by decide
theorem li_93 : (93 : Int32).toInt = 93 := by decide
theorem li_97 : (97 : Int32).toInt = 97 := by decide
theorem li_100 : (100 : Int32).toInt = 100 := by decide
theorem li_122 : (122 : Int32).toInt = 122 := by decide
theorem li_123 : (123 : Int32).toInt = 123 := by decide
theorem li_125 : (125 : Int32).toInt = 125 := by decide
theorem li_127 : (127 : Int32).toInt = 127 := by decide
theorem li_128 : (128 : Int32).toInt = 128 := by decide
theorem li_200 : (200 : Int32).toInt = 200 := by decide
theorem li_255 : (255 : Int32).toInt = 255 := by decide
theorem li_256 : (256 : Int32).toInt = 256 := by decide
theorem li_262 : (262 : Int32).toInt = 262 := by decide
theorem li_400 : (400 : Int32).toInt = 400 := by decide
theorem li_1000 : (1000 : Int32).toInt = 1000 := by decide
theorem li_1600 : (1600 : Int32).toInt = 1600 := by decide
theorem ia_I_2_4 {σ : ST} {v : Int32} (h : IA σ) : IA (stI σ 2 4 v) := h
theorem ia_I_2_6 {σ : ST} {v : Int32} (h : IA σ) : IA (stI σ 2 6 v) := h
theorem ia_I_2_9 {σ : ST} {v : Int32} (h : IA σ) : IA (stI σ 2 9 v) := h
theorem ia_I_2_10 {σ : ST} {v : Int32} (h : IA σ) : IA (stI σ 2 10 v) := h
theorem ia_I_2_11 {σ : ST} {v : Int32} (h : IA σ) : IA (stI σ 2 11 v) := h
theorem ia_I_2_12 {σ : ST} {v : Int32} (h : IA σ) : IA (stI σ 2 12 v) := h
theorem ia_I_2_13 {σ : ST} {v : Int32} (h : IA σ) : IA (stI σ 2 13 v) := h
theorem ia_I_4_1 {σ : ST} {v : Int32} (h : IA σ) : IA (stI σ 4 1 v) := h
theorem ia_I_10 {σ : ST} {i : Nat} {v : Int32} (h : IA σ) : IA (stI σ 10 i v) := h
theorem ia_I_25 {σ : ST} {i : Nat} {v : Int32} (h : IA σ) : IA (stI σ 25 i v) := h
theorem ia_I_29 {σ : ST} {i : Nat} {v : Int32} (h : IA σ) : IA (stI σ 29 i v) := h
theorem ia_I_31 {σ : ST} {i : Nat} {v : Int32} (h : IA σ) : IA (stI σ 31 i v) := h
theorem ia_I_32 {σ : ST} {i : Nat} {v : Int32} (h : IA σ) : IA (stI σ 32 i v) := h
theorem ia_I_33 {σ : ST} {i : Nat} {v : Int32} (h : IA σ) : IA (stI σ 33 i v) := h
theorem ia_I_35 {σ : ST} {i : Nat} {v : Int32} (h : IA σ) : IA (stI σ 35 i v) := h
theorem ia_I_38 {σ : ST} {i : Nat} {v : Int32} (h : IA σ) : IA (stI σ 38 i v) := h
theorem ia_I_39 {σ : ST} {i : Nat} {v : Int32} (h : IA σ) : IA (stI σ 39 i v) := h
theorem ia_I_40 {σ : ST} {i : Nat} {v : Int32} (h : IA σ) : IA (stI σ 40 i v) := h
theorem ia_I_41 {σ : ST} {i : Nat} {v : Int32} (h : IA σ) : IA (stI σ 41 i v) := h
theorem ia_I_43 {σ : ST} {i : Nat} {v : Int32} (h : IA σ) : IA (stI σ 43 i v) := h
theorem ia_I_44 {σ : ST} {i : Nat} {v : Int32} (h : IA σ) : IA (stI σ 44 i v) := h
theorem ia_I_45 {σ : ST} {i : Nat} {v : Int32} (h : IA σ) : IA (stI σ 45 i v) := h
theorem ia_I_47 {σ : ST} {i : Nat} {v : Int32} (h : IA σ) : IA (stI σ 47 i v) := h
theorem ia_I_48_2 {σ : ST} {v : Int32} (h : IA σ) : IA (stI σ 48 2 v) := h
theorem ia_I_48_3 {σ : ST} {v : Int32} (h : IA σ) : IA (stI σ 48 3 v) := h
theorem ia_I_49 {σ : ST} {i : Nat} {v : Int32} (h : IA σ) : IA (stI σ 49 i v) := h
theorem ia_I_54 {σ : ST} {i : Nat} {v : Int32} (h : IA σ) : IA (stI σ 54 i v) := h
theorem ia_I_55 {σ : ST} {i : Nat} {v : Int32} (h : IA σ) : IA (stI σ 55 i v) := h
theorem ia_I_60 {σ : ST} {i : Nat} {v : Int32} (h : IA σ) : IA (stI σ 60 i v) := h
theorem ia_I_61 {σ : ST} {i : Nat} {v : Int32} (h : IA σ) : IA (stI σ 61 i v) := h
theorem ia_I_66 {σ : ST} {i : Nat} {v : Int32} (h : IA σ) : IA (stI σ 66 i v) := h
theorem ia_I_67 {σ : ST} {i : Nat} {v : Int32} (h : IA σ) : IA (stI σ 67 i v) := h
theorem ia_I_72 {σ : ST} {i : Nat} {v : Int32} (h : IA σ) : IA (stI σ 72 i v) := h
theorem ia_I_73 {σ : ST} {i : Nat} {v : Int32} (h : IA σ) : IA (stI σ 73 i v) := h
theorem ia_I_78 {σ : ST} {i : Nat} {v : Int32} (h : IA σ) : IA (stI σ 78 i v) := h
theorem ia_I_79 {σ : ST} {i : Nat} {v : Int32} (h : IA σ) : IA (stI σ 79 i v) := h
theorem ia_I_84 {σ : ST} {i : Nat} {v : Int32} (h : IA σ) : IA (stI σ 84 i v) := h
theorem ia_I_85 {σ : ST} {i : Nat} {v : Int32} (h : IA σ) : IA (stI σ 85 i v) := h
theorem ia_I_89 {σ : ST} {i : Nat} {v : Int32} (h : IA σ) : IA (stI σ 89 i v) := h
theorem ia_I_90 {σ : ST} {i : Nat} {v : Int32} (h : IA σ) : IA (stI σ 90 i v) := h
theorem ia_I_91 {σ : ST} {i : Nat} {v : Int32} (h : IA σ) : IA (stI σ 91 i v) := h
theorem ia_I_92 {σ : ST} {i : Nat} {v : Int32} (h : IA σ) : IA (stI σ 92 i v) := h
theorem ia_I_93 {σ : ST} {i : Nat} {v : Int32} (h : IA σ) : IA (stI σ 93 i v) := h
theorem ia_I_94 {σ : ST} {i : Nat} {v : Int32} (h : IA σ) : IA (stI σ 94 i v) := h
theorem fr_I_2 {σ τ : ST} {i : Nat} {v : Int32} (h : Fr σ τ) : Fr σ (stI τ 2 i v) := h
theorem fr_I_10 {σ τ : ST} {i : Nat} {v : Int32} (h : Fr σ τ) : Fr σ (stI τ 10 i v) := h
theorem fr_I_20 {σ τ : ST} {i : Nat} {v : Int32} (h : Fr σ τ) : Fr σ (stI τ 20 i v) := h
theorem fr_I_21 {σ τ : ST} {i : Nat} {v : Int32} (h : Fr σ τ) : Fr σ (stI τ 21 i v) := h
theorem fr_I_22 {σ τ : ST} {i : Nat} {v : Int32} (h : Fr σ τ) : Fr σ (stI τ 22 i v) := h
theorem fr_I_23 {σ τ : ST} {i : Nat} {v : Int32} (h : Fr σ τ) : Fr σ (stI τ 23 i v) := h
theorem fr_I_25 {σ τ : ST} {i : Nat} {v : Int32} (h : Fr σ τ) : Fr σ (stI τ 25 i v) := h
theorem fr_I_29 {σ τ : ST} {i : Nat} {v : Int32} (h : Fr σ τ) : Fr σ (stI τ 29 i v) := h
theorem fr_I_31 {σ τ : ST} {i : Nat} {v : Int32} (h : Fr σ τ) : Fr σ (stI τ 31 i v) := h
theorem fr_I_32 {σ τ : ST} {i : Nat} {v : Int32} (h : Fr σ τ) : Fr σ (stI τ 32 i v) := h
theorem fr_I_33 {σ τ : ST} {i : Nat} {v : Int32} (h : Fr σ τ) : Fr σ (stI τ 33 i v) := h
theorem fr_I_35 {σ τ : ST} {i : Nat} {v : Int32} (h : Fr σ τ) : Fr σ (stI τ 35 i v) := h
theorem fr_I_38 {σ τ : ST} {i : Nat} {v : Int32} (h : Fr σ τ) : Fr σ (stI τ 38 i v) := h
theorem fr_I_39 {σ τ : ST} {i : Nat} {v : Int32} (h : Fr σ τ) : Fr σ (stI τ 39 i v) := h
theorem fr_I_40 {σ τ : ST} {i : Nat} {v : Int32} (h : Fr σ τ) : Fr σ (stI τ 40 i v) := h
theorem fr_I_41 {σ τ : ST} {i : Nat} {v : Int32} (h : Fr σ τ) : Fr σ (stI τ 41 i v) := h
theorem fr_I_43 {σ τ : ST} {i : Nat} {v : Int32} (h : Fr σ τ) : Fr σ (stI τ 43 i v) := h
theorem fr_I_44 {σ τ : ST} {i : Nat} {v : Int32} (h : Fr σ τ) : Fr σ (stI τ 44 i v) := h
theorem fr_I_45 {σ τ : ST} {i : Nat} {v : Int32} (h : Fr σ τ) : Fr σ (stI τ 45 i v) := h
theorem fr_I_47 {σ τ : ST} {i : Nat} {v : Int32} (h : Fr σ τ) : Fr σ (stI τ 47 i v) := h
theorem fr_I_48 {σ τ : ST} {i : Nat} {v : Int32} (h : Fr σ τ) : Fr σ (stI τ 48 i v) := h
theorem fr_I_49 {σ τ : ST} {i : Nat} {v : Int32} (h : Fr σ τ) : Fr σ (stI τ 49 i v) := h
theorem fr_I_54 {σ τ : ST} {i : Nat} {v : Int32} (h : Fr σ τ) : Fr σ (stI τ 54 i v) := h
theorem fr_I_55 {σ τ : ST} {i : Nat} {v : Int32} (h : Fr σ τ) : Fr σ (stI τ 55 i v) := h
theorem fr_I_60 {σ τ : ST} {i : Nat} {v : Int32} (h : Fr σ τ) : Fr σ (stI τ 60 i v) := h
theorem fr_I_61 {σ τ : ST} {i : Nat} {v : Int32} (h : Fr σ τ) : Fr σ (stI τ 61 i v) := h
theorem fr_I_66 {σ τ : ST} {i : Nat} {v : Int32} (h : Fr σ τ) : Fr σ (stI τ 66 i v) := h
theorem fr_I_67 {σ τ : ST} {i : Nat} {v : Int32} (h : Fr σ τ) : Fr σ (stI τ 67 i v) := h
theorem fr_I_72 {σ τ : ST} {i : Nat} {v : Int32} (h : Fr σ τ) : Fr σ (stI τ 72 i v) := h
theorem fr_I_73 {σ τ : ST} {i : Nat} {v : Int32} (h : Fr σ τ) : Fr σ (stI τ 73 i v) := h
theorem fr_I_78 {σ τ : ST} {i : Nat} {v : Int32} (h : Fr σ τ) : Fr σ (stI τ 78 i v) := h
theorem fr_I_79 {σ τ : ST} {i : Nat} {v : Int32} (h : Fr σ τ) : Fr σ (stI τ 79 i v) := h
theorem fr_I_84 {σ τ : ST} {i : Nat} {v : Int32} (h : Fr σ τ) : Fr σ (stI τ 84 i v) := h
theorem fr_I_85 {σ τ : ST} {i : Nat} {v : Int32} (h : Fr σ τ) : Fr σ (stI τ 85 i v) := h
theorem fr_I_89 {σ τ : ST} {i : Nat} {v : Int32} (h : Fr σ τ) : Fr σ (stI τ 89 i v) := h
theorem fr_I_90 {σ τ : ST} {i : Nat} {v : Int32} (h : Fr σ τ) : Fr σ (stI τ 90 i v) := h
theorem fr_I_91 {σ τ : ST} {i : Nat} {v : Int32} (h : Fr σ τ) : Fr σ (stI τ 91 i v) := h
theorem fr_I_92 {σ τ : ST} {i : Nat} {v : Int32} (h : Fr σ τ) : Fr σ (stI τ 92 i v) := h
theorem fr_I_93 {σ τ : ST} {i : Nat} {v : Int32} (h : Fr σ τ) : Fr σ (stI τ 93 i v) := h
theorem fr_I_94 {σ τ : ST} {i : Nat} {v : Int32} (h : Fr σ τ) : Fr σ (stI τ 94 i v) := h
