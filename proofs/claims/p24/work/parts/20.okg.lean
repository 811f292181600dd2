/-! STAGE 2: the pure functions answer, over an invariant -/
def OK {α : Type} (o : Option α) (P : α → Prop) : Prop := ∃ q, o = some q ∧ P q
theorem OK.ret {α : Type} {q : α} {P : α → Prop} (h : P q) : OK (some q) P := ⟨q, rfl, h⟩
theorem OK.mono {α : Type} {o : Option α} {P Q : α → Prop} (h : OK o P) (k : ∀ q, P q → Q q) : OK o Q := by
  obtain ⟨q, e, hq⟩ := h
  exact ⟨q, e, k q hq⟩
theorem OK.ite {α : Type} {c : Prop} {i : Decidable c} {x y : Option α} {P : α → Prop} (h1 : c → OK x P) (h2 : ¬ c → OK y P) : OK (@_root_.ite (Option α) c i x y) P := by
  by_cases hc : c
  · rw [if_pos hc]; exact h1 hc
  · rw [if_neg hc]; exact h2 hc
theorem OK.grd {α : Type} {c : Prop} {i : Decidable c} {x : Option α} {P : α → Prop} (hc : c) (h : OK x P) : OK (@_root_.ite (Option α) c i x none) P := by
  rw [if_pos hc]; exact h
theorem OK.ilt {α : Type} {a b : Int32} {i : Decidable (a < b)} {x y : Option α} {P : α → Prop} (h1 : a.toInt < b.toInt → OK x P) (h2 : b.toInt ≤ a.toInt → OK y P) : OK (@_root_.ite (Option α) (a < b) i x y) P := OK.ite (fun h => h1 (il_lt h)) (fun h => h2 (il_nlt h))
theorem OK.ile {α : Type} {a b : Int32} {i : Decidable (a ≤ b)} {x y : Option α} {P : α → Prop} (h1 : a.toInt ≤ b.toInt → OK x P) (h2 : b.toInt < a.toInt → OK y P) : OK (@_root_.ite (Option α) (a ≤ b) i x y) P := OK.ite (fun h => h1 (il_le h)) (fun h => h2 (il_nle h))
theorem OK.ieq {α : Type} {a b : Int32} {i : Decidable (a = b)} {x y : Option α} {P : α → Prop} (h1 : a.toInt = b.toInt → OK x P) (h2 : ¬ a.toInt = b.toInt → OK y P) : OK (@_root_.ite (Option α) (a = b) i x y) P := OK.ite (fun h => h1 (il_eq h)) (fun h => h2 (il_ne h))
theorem OK.bnd {α β : Type} {o : Option α} {f : α → Option β} {Q : α → Prop} {P : β → Prop} (h : OK o Q) (k : ∀ q, Q q → OK (f q) P) : OK (o.bind f) P := by
  obtain ⟨q, e, hq⟩ := h
  rw [e]; exact k q hq
theorem OK.lt {α β : Type} {e : α} {f : α → Option β} {P : β → Prop} (k : ∀ z, z = e → OK (f z) P) : OK ((some e).bind f) P := k e rfl
def RO {α : Type} (σ : ST) (Q : α → Prop) (q : α × ST) : Prop := q.2 = σ ∧ Q q.1
theorem OK.roret {α : Type} {v : α} {σ : ST} {Q : α → Prop} (h : Q v) : OK (some (v, σ)) (RO σ Q) := ⟨_, rfl, rfl, h⟩
theorem OK.bndR {α β : Type} {o : Option (α × ST)} {f : α × ST → Option β} {s : ST} {Q : α → Prop} {P : β → Prop} (h : OK o (RO s Q)) (k : ∀ v, Q v → OK (f (v, s)) P) : OK (o.bind f) P := by
  obtain ⟨⟨v, s1⟩, e, h1, h2⟩ := h
  have h1 : s1 = s := h1
  subst h1
  rw [e]; exact k v h2
theorem OK.roq {α : Type} {o : Option (α × ST)} {s : ST} {Q R : α → Prop} (h : OK o (RO s Q)) (k : ∀ v, Q v → R v) : OK o (RO s R) := h.mono (fun q hq => ⟨hq.1, k q.1 hq.2⟩)
/-- an answer of yes or no -/
def B01 (v : Int32) : Prop := v.toInt = 0 ∨ v.toInt = 1
theorem b01 {v : Int32} (h : v.toInt = 0 ∨ v.toInt = 1) : v = 0 ∨ v = 1 := h.elim (fun h => .inl (Int32.toInt_inj.mp h)) (fun h => .inr (Int32.toInt_inj.mp h))
theorem b01_0 : B01 0 := .inl (by decide)
theorem b01_1 : B01 1 := .inr (by decide)
/-- within two bounds -/
def bI (x : Int32) (a b : Int) : Prop := a ≤ x.toInt ∧ x.toInt ≤ b
theorem i_rng (x : Int32) : -2147483648 ≤ x.toInt ∧ x.toInt ≤ 2147483647 := ⟨Int32.le_toInt x, by have := Int32.toInt_lt x; omega⟩
theorem i_bm (x : Int) : ∃ k : Int, x.bmod (2 ^ 32) = x + 4294967296 * k := ⟨-(x.bdiv (2 ^ 32)), by have := Int.bmod_add_bdiv x (2 ^ 32); omega⟩
theorem i_add (x y : Int32) : ∃ k : Int, (x + y).toInt = x.toInt + y.toInt + 4294967296 * k ∧ -2147483648 ≤ (x + y).toInt ∧ (x + y).toInt ≤ 2147483647 := by
  obtain ⟨k, hk⟩ := i_bm (x.toInt + y.toInt)
  exact ⟨k, by rw [Int32.toInt_add]; exact hk, i_rng _⟩
theorem i_sub (x y : Int32) : ∃ k : Int, (x - y).toInt = x.toInt - y.toInt + 4294967296 * k ∧ -2147483648 ≤ (x - y).toInt ∧ (x - y).toInt ≤ 2147483647 := by
  obtain ⟨k, hk⟩ := i_bm (x.toInt - y.toInt)
  exact ⟨k, by rw [Int32.toInt_sub]; exact hk, i_rng _⟩
theorem i_mul (x y : Int32) : ∃ k : Int, (x * y).toInt = x.toInt * y.toInt + 4294967296 * k ∧ -2147483648 ≤ (x * y).toInt ∧ (x * y).toInt ≤ 2147483647 := by
  obtain ⟨k, hk⟩ := i_bm (x.toInt * y.toInt)
  exact ⟨k, by rw [Int32.toInt_mul]; exact hk, i_rng _⟩
theorem k0el {k : Int} {P : Prop} (h : k = 0) (f : k = 0 → P) : P := f h
/-! the class's invariant: bounds that its own tests rest on, and its trees -/
def updZ (f : Nat → Int) (i : Nat) (v : Int) : Nat → Int := fun j => if j = i then v else f j
/-- a tree's rows: parents, places, first and last children, the next of one parent -/
def TRf (S : Int) (P C F L N : Nat → Int) : Prop := ∀ r : Nat, (r : Int) < S →
  (F r = -1 ∨ 0 ≤ F r ∧ F r < S ∧ P (F r).toNat = r) ∧
  (L r = -1 ∨ 0 ≤ L r ∧ L r < S ∧ P (L r).toNat = r ∧ N (L r).toNat = -1) ∧
  (N r = -1 ∨ 0 ≤ N r ∧ N r < S ∧ P (N r).toNat = P r ∧ (C r < C (N r).toNat ∨ C r = C (N r).toNat ∧ N r < r))
theorem TRf.first {S : Int} {P C F L N : Nat → Int} (h : TRf S P C F L N) {row p : Nat} (hrow : (row : Int) = S - 1) (hp : (p : Int) < S) (hP : P row = p) (fresh : ∀ r : Nat, (r : Int) < S → F r < row ∧ L r < row ∧ N r < row) (hc : F p = -1 ∨ C row ≤ C (F p).toNat) : TRf S P C (updZ F p row) (if F p = -1 then updZ L p row else L) (updZ N row (F p)) := by
  intro r hr
  obtain ⟨hF, hL, hN⟩ := h r hr
  obtain ⟨f1, f2, f3⟩ := fresh r hr
  have hLr : L r = -1 ∨ 0 ≤ L r ∧ L r < S ∧ P (L r).toNat = r ∧ updZ N row (F p) (L r).toNat = -1 := by
    rcases hL with hL | ⟨a1, a2, a3, a4⟩
    · exact .inl hL
    · refine .inr ⟨a1, a2, a3, ?_⟩
      unfold updZ
      rw [if_neg (by omega)]
      exact a4
  refine ⟨?_, ?_, ?_⟩
  · unfold updZ
    by_cases e : r = p
    · rw [if_pos e]
      exact .inr ⟨by omega, by omega, by rw [Int.toNat_natCast, hP, e]⟩
    · rw [if_neg e]; exact hF
  · by_cases e1 : F p = -1
    · rw [if_pos e1]
      by_cases e : r = p
      · have e2 : updZ L p (row : Int) r = row := by unfold updZ; rw [if_pos e]
        rw [e2]
        refine .inr ⟨by omega, by omega, by rw [Int.toNat_natCast, hP, e], ?_⟩
        rw [Int.toNat_natCast]
        unfold updZ
        rw [if_pos rfl]; exact e1
      · have e2 : updZ L p (row : Int) r = L r := by unfold updZ; rw [if_neg e]
        rw [e2]; exact hLr
    · rw [if_neg e1]; exact hLr
  · by_cases e : r = row
    · have e2 : updZ N row (F p) r = F p := by unfold updZ; rw [if_pos e]
      rw [e2]
      rcases (h p hp).1 with a | ⟨a1, a2, a3⟩
      · exact .inl a
      · have fp := (fresh p hp).1
        refine .inr ⟨a1, a2, by rw [a3, e, hP], ?_⟩
        rw [e]
        rcases hc with hc | hc
        · omega
        · rcases Int.lt_or_eq_of_le hc with hc | hc
          · exact .inl hc
          · exact .inr ⟨hc, fp⟩
    · have e2 : updZ N row (F p) r = N r := by unfold updZ; rw [if_neg e]
      rw [e2]; exact hN
theorem TRf.after {S : Int} {P C F L N : Nat → Int} (h : TRf S P C F L N) {row p q : Nat} (hrow : (row : Int) = S - 1) (hP : P row = p) (fresh : ∀ r : Nat, (r : Int) < S → F r < row ∧ L r < row ∧ N r < row) (hq : q < row) (hPq : P q = p) (hCq : C q < C row) (hc : N q = -1 ∨ C row ≤ C (N q).toNat) : TRf S P C F (if N q = -1 then updZ L p row else L) (updZ (updZ N row (N q)) q row) := by
  intro r hr
  obtain ⟨hF, hL, hN⟩ := h r hr
  obtain ⟨f1, f2, f3⟩ := fresh r hr
  have nq : ∀ j : Nat, j ≠ q → j ≠ row → updZ (updZ N row (N q)) q (row : Int) j = N j := fun j h1 h2 => by unfold updZ; rw [if_neg h1, if_neg h2]
  have nrow : updZ (updZ N row (N q)) q (row : Int) row = N q := by unfold updZ; rw [if_neg (by omega), if_pos rfl]
  refine ⟨hF, ?_, ?_⟩
  · by_cases e1 : N q = -1
    · rw [if_pos e1]
      by_cases e : r = p
      · have e2 : updZ L p (row : Int) r = row := by unfold updZ; rw [if_pos e]
        rw [e2]
        refine .inr ⟨by omega, by omega, by rw [Int.toNat_natCast, hP, e], ?_⟩
        rw [Int.toNat_natCast, nrow]; exact e1
      · have e2 : updZ L p (row : Int) r = L r := by unfold updZ; rw [if_neg e]
        rw [e2]
        rcases hL with hL | ⟨a1, a2, a3, a4⟩
        · exact .inl hL
        · refine .inr ⟨a1, a2, a3, ?_⟩
          rw [nq _ (fun h9 => e (by rw [h9, hPq] at a3; omega)) (by omega)]
          exact a4
    · rw [if_neg e1]
      rcases hL with hL | ⟨a1, a2, a3, a4⟩
      · exact .inl hL
      · refine .inr ⟨a1, a2, a3, ?_⟩
        rw [nq _ (fun h9 => e1 (by rw [← h9]; exact a4)) (by omega)]
        exact a4
  · by_cases e : r = q
    · have e2 : updZ (updZ N row (N q)) q (row : Int) r = row := by unfold updZ; rw [if_pos e]
      rw [e2, Int.toNat_natCast, hP, e, hPq]
      exact .inr ⟨by omega, by omega, rfl, .inl hCq⟩
    · by_cases e3 : r = row
      · rw [e3, nrow]
        have hqS : (q : Int) < S := by omega
        rcases (h q hqS).2.2 with a | ⟨a1, a2, a3, _⟩
        · exact .inl a
        · have fp := (fresh q hqS).2.2
          refine .inr ⟨a1, a2, by rw [a3, hP, hPq], ?_⟩
          rcases hc with hc | hc
          · omega
          · rcases Int.lt_or_eq_of_le hc with hc | hc
            · exact .inl hc
            · exact .inr ⟨hc, fp⟩
      · rw [nq _ e e3]; exact hN
/-- a count below a bound -/
def cntZ (p : Nat → Prop) [DecidablePred p] : Nat → Nat
  | 0 => 0
  | n + 1 => cntZ p n + (if p n then 1 else 0)
theorem cntZ_le {p : Nat → Prop} [DecidablePred p] : ∀ n : Nat, cntZ p n ≤ n := by
  intro n
  induction n with
  | zero => exact Nat.le_refl 0
  | succ n ih => rw [cntZ]; split <;> omega
theorem cntZ_mono {p q : Nat → Prop} [DecidablePred p] [DecidablePred q] (h : ∀ r, p r → q r) : ∀ n : Nat, cntZ p n ≤ cntZ q n := by
  intro n
  induction n with
  | zero => exact Nat.le_refl 0
  | succ n ih =>
    rw [cntZ, cntZ]
    by_cases hp : p n
    · rw [if_pos hp, if_pos (h n hp)]; omega
    · rw [if_neg hp]; split <;> omega
theorem cntZ_lt {p q : Nat → Prop} [DecidablePred p] [DecidablePred q] (h : ∀ r, p r → q r) {c : Nat} (hp : ¬ p c) (hq : q c) : ∀ n : Nat, c < n → cntZ p n + 1 ≤ cntZ q n := by
  intro n
  induction n with
  | zero => intro hc; omega
  | succ n ih =>
    intro hc
    rw [cntZ, cntZ]
    by_cases e : c = n
    · subst e
      rw [if_neg hp, if_pos hq]
      have := cntZ_mono h c
      omega
    · have := ih (by omega)
      by_cases hp : p n
      · rw [if_pos hp, if_pos (h n hp)]; omega
      · rw [if_neg hp]; split <;> omega
def TR (b : Nat) (n : Int) (σ : ST) : Prop :=
  (σ.1 b 0).toInt = n ∧ bI (σ.1 b 1) 0 n ∧ TRf (σ.1 b 1).toInt (fun r => (σ.1 (b + 2) r).toInt) (fun r => (σ.1 (b + 3) r).toInt) (fun r => (σ.1 (b + 7) r).toInt) (fun r => (σ.1 (b + 8) r).toInt) (fun r => (σ.1 (b + 9) r).toInt)
def IA (σ : ST) : Prop :=
  bI (σ.1 0 1) 0 1000 ∧ bI (σ.1 2 2) 0 1000 ∧ bI (σ.1 2 3) 0 1030 ∧ bI (σ.1 2 5) 0 1030 ∧
  bI (σ.1 4 0) 0 6 ∧ bI (σ.1 20 0) 0 6 ∧ bI (σ.1 20 1) 0 262 ∧
  (∀ i, bI (σ.1 5 i) 0 36) ∧ (∀ i, bI (σ.1 21 i) 0 36) ∧ (∀ i, bI (σ.1 7 i) 0 8) ∧ (∀ i, bI (σ.1 23 i) 0 8) ∧ (∀ i, -1 ≤ (σ.1 22 i).toInt) ∧
  bI (σ.1 48 1) 0 4 ∧ (∀ i, bI (σ.1 88 i) (-128) 127) ∧ 0 ≤ (σ.1 87 2).toInt ∧
  σ.2.2.2 89 = 50 ∧ (σ.2.2.2 92 = 62 ∨ σ.2.2.2 92 = 74) ∧ TR 50 400 σ ∧ TR 62 502 σ ∧ TR 74 400 σ
theorem IA.tape {σ : ST} (h : IA σ) : bI (σ.1 0 1) 0 1000 := h.1
theorem IA.tend {σ : ST} (h : IA σ) : bI (σ.1 2 2) 0 1000 := h.2.1
theorem IA.tnext {σ : ST} (h : IA σ) : bI (σ.1 2 3) 0 1030 := h.2.2.1
theorem IA.tstart {σ : ST} (h : IA σ) : bI (σ.1 2 5) 0 1030 := h.2.2.2.1
theorem IA.plans {σ : ST} (h : IA σ) : bI (σ.1 4 0) 0 6 := h.2.2.2.2.1
theorem IA.dplans {σ : ST} (h : IA σ) : bI (σ.1 20 0) 0 6 := h.2.2.2.2.2.1
theorem IA.dtypes {σ : ST} (h : IA σ) : bI (σ.1 20 1) 0 262 := h.2.2.2.2.2.2.1
theorem IA.recs {σ : ST} (h : IA σ) (i : Nat) : bI (σ.1 5 i) 0 36 := h.2.2.2.2.2.2.2.1 i
theorem IA.drecs {σ : ST} (h : IA σ) (i : Nat) : bI (σ.1 21 i) 0 36 := h.2.2.2.2.2.2.2.2.1 i
theorem IA.flds {σ : ST} (h : IA σ) (i : Nat) : bI (σ.1 7 i) 0 8 := h.2.2.2.2.2.2.2.2.2.1 i
theorem IA.dflds {σ : ST} (h : IA σ) (i : Nat) : bI (σ.1 23 i) 0 8 := h.2.2.2.2.2.2.2.2.2.2.1 i
theorem IA.droot {σ : ST} (h : IA σ) (i : Nat) : -1 ≤ (σ.1 22 i).toInt := h.2.2.2.2.2.2.2.2.2.2.2.1 i
theorem IA.ways {σ : ST} (h : IA σ) : bI (σ.1 48 1) 0 4 := h.2.2.2.2.2.2.2.2.2.2.2.2.1
theorem IA.pkb {σ : ST} (h : IA σ) (i : Nat) : bI (σ.1 88 i) (-128) 127 := h.2.2.2.2.2.2.2.2.2.2.2.2.2.1 i
theorem IA.pks {σ : ST} (h : IA σ) : 0 ≤ (σ.1 87 2).toInt := h.2.2.2.2.2.2.2.2.2.2.2.2.2.2.1
theorem IA.r89 {σ : ST} (h : IA σ) : σ.2.2.2 89 = 50 := h.2.2.2.2.2.2.2.2.2.2.2.2.2.2.2.1
theorem IA.r92 {σ : ST} (h : IA σ) : σ.2.2.2 92 = 62 ∨ σ.2.2.2 92 = 74 := h.2.2.2.2.2.2.2.2.2.2.2.2.2.2.2.2.1
theorem IA.t50 {σ : ST} (h : IA σ) : TR 50 400 σ := h.2.2.2.2.2.2.2.2.2.2.2.2.2.2.2.2.2.1
theorem IA.t62 {σ : ST} (h : IA σ) : TR 62 502 σ := h.2.2.2.2.2.2.2.2.2.2.2.2.2.2.2.2.2.2.1
theorem IA.t74 {σ : ST} (h : IA σ) : TR 74 400 σ := h.2.2.2.2.2.2.2.2.2.2.2.2.2.2.2.2.2.2.2
theorem ia_L {σ : ST} {c i : Nat} {v : Int64} (h : IA σ) : IA (stL σ c i v) := h
theorem ia_FL {σ : ST} {c : Nat} {f : Nat → Int64} (h : IA σ) : IA (stFL σ c f) := h
/-- what the inner calls leave as it is: the tape, the plans' number, the references -/
def Fr (σ τ : ST) : Prop := τ.1 0 = σ.1 0 ∧ τ.1 1 = σ.1 1 ∧ (τ.1 4 = σ.1 4 ∧ τ.2.1 3 = σ.2.1 3) ∧ τ.2.2.2 = σ.2.2.2
theorem Fr.rf {σ : ST} : Fr σ σ := ⟨rfl, rfl, ⟨rfl, rfl⟩, rfl⟩
theorem Fr.trans {σ τ υ : ST} (h : Fr σ τ) (k : Fr τ υ) : Fr σ υ := ⟨k.1.trans h.1, k.2.1.trans h.2.1, ⟨k.2.2.1.1.trans h.2.2.1.1, k.2.2.1.2.trans h.2.2.1.2⟩, k.2.2.2.trans h.2.2.2⟩
theorem stL_3 {σ : ST} {q i : Nat} {v : Int64} (h : q ≠ 3) : (stL σ q i v).2.1 3 = σ.2.1 3 := by
  show (bif Nat.beq 3 q then vp_updL (σ.2.1 3) i v else σ.2.1 3) = σ.2.1 3
  have hb : Nat.beq 3 q = false := by
    cases hb : Nat.beq 3 q with
    | false => rfl
    | true => exact absurd (Nat.eq_of_beq_eq_true hb).symm h
  rw [hb]; rfl
theorem stFL_3 {σ : ST} {q : Nat} {f : Nat → Int64} (h : q ≠ 3) : (stFL σ q f).2.1 3 = σ.2.1 3 := by
  show (bif Nat.beq 3 q then f else σ.2.1 3) = σ.2.1 3
  have hb : Nat.beq 3 q = false := by
    cases hb : Nat.beq 3 q with
    | false => rfl
    | true => exact absurd (Nat.eq_of_beq_eq_true hb).symm h
  rw [hb]; rfl
theorem fr_L {σ τ : ST} {c i : Nat} {v : Int64} (h : Fr σ τ) (hc : c ≠ 3 := by decide) : Fr σ (stL τ c i v) := ⟨h.1, h.2.1, ⟨h.2.2.1.1, (stL_3 hc).trans h.2.2.1.2⟩, h.2.2.2⟩
theorem fr_FL {σ τ : ST} {c : Nat} {f : Nat → Int64} (h : Fr σ τ) (hc : c ≠ 3 := by decide) : Fr σ (stFL τ c f) := ⟨h.1, h.2.1, ⟨h.2.2.1.1, (stFL_3 hc).trans h.2.2.1.2⟩, h.2.2.2⟩
def RW {α : Type} (σ : ST) (Q : α → Prop) (q : α × ST) : Prop := (IA q.2 ∧ Fr σ q.2) ∧ Q q.1
def RS (σ : ST) (q : ST) : Prop := IA q ∧ Fr σ q
theorem OK.wret {α : Type} {v : α} {σ s : ST} {Q : α → Prop} (h : IA s) (f : Fr σ s) (hq : Q v) : OK (some (v, s)) (RW σ Q) := ⟨_, rfl, ⟨h, f⟩, hq⟩
theorem OK.sret {σ s : ST} (h : IA s) (f : Fr σ s) : OK (some s) (RS σ) := ⟨_, rfl, h, f⟩
theorem OK.bndW {α β : Type} {o : Option (α × ST)} {f : α × ST → Option β} {s σ : ST} {Q : α → Prop} {P : β → Prop} (h : OK o (RW s Q)) (hF : Fr σ s) (k : ∀ (v : α) (t : ST), IA t → Fr σ t → Q v → OK (f (v, t)) P) : OK (o.bind f) P := by
  obtain ⟨⟨v, s1⟩, e, h1, h2⟩ := h
  rw [e]; exact k v s1 h1.1 (hF.trans h1.2) h2
theorem OK.bndS {β : Type} {o : Option ST} {f : ST → Option β} {s σ : ST} {P : β → Prop} (h : OK o (RS s)) (hF : Fr σ s) (k : ∀ t : ST, IA t → Fr σ t → OK (f t) P) : OK (o.bind f) P := by
  obtain ⟨s1, e, h1⟩ := h
  rw [e]; exact k s1 h1.1 (hF.trans h1.2)
theorem OK.trS {o : Option ST} {s σ : ST} (h : OK o (RS s)) (hF : Fr σ s) : OK o (RS σ) := h.mono (fun _ hq => ⟨hq.1, hF.trans hq.2⟩)
theorem OK.trW {α : Type} {o : Option (α × ST)} {s σ : ST} {Q R : α → Prop} (h : OK o (RW s Q)) (hF : Fr σ s) (k : ∀ v, Q v → R v) : OK o (RW σ R) := h.mono (fun q hq => ⟨⟨hq.1.1, hF.trans hq.1.2⟩, k q.1 hq.2⟩)
theorem OK.row {α : Type} {o : Option (α × ST)} {s σ : ST} {Q R : α → Prop} (h : OK o (RO s Q)) (hI : IA s) (hF : Fr σ s) (k : ∀ v, Q v → R v) : OK o (RW σ R) := h.mono (fun q hq => by
  obtain ⟨v, t⟩ := q
  obtain ⟨h1, h2⟩ := hq
  have h1 : t = s := h1
  subst h1
  exact ⟨⟨hI, hF⟩, k v h2⟩)
theorem ia_J_0_1 {σ : ST} {v : Int32} (h : IA σ) (hv : bI v 0 1000) : IA (stI σ 0 1 v) := ⟨hv, h.2⟩
theorem ia_J_2_2 {σ : ST} {v : Int32} (h : IA σ) (hv : bI v 0 1000) : IA (stI σ 2 2 v) := ⟨h.1, hv, h.2.2⟩
theorem ia_J_2_3 {σ : ST} {v : Int32} (h : IA σ) (hv : bI v 0 1030) : IA (stI σ 2 3 v) := ⟨h.1, h.2.1, hv, h.2.2.2⟩
theorem ia_J_2_5 {σ : ST} {v : Int32} (h : IA σ) (hv : bI v 0 1030) : IA (stI σ 2 5 v) := ⟨h.1, h.2.1, h.2.2.1, hv, h.2.2.2.2⟩
theorem ia_J_4_0 {σ : ST} {v : Int32} (h : IA σ) (hv : bI v 0 6) : IA (stI σ 4 0 v) := ⟨h.1, h.2.1, h.2.2.1, h.2.2.2.1, hv, h.2.2.2.2.2⟩
theorem ia_J_20_0 {σ : ST} {v : Int32} (h : IA σ) (hv : bI v 0 6) : IA (stI σ 20 0 v) := ⟨h.1, h.2.1, h.2.2.1, h.2.2.2.1, h.2.2.2.2.1, hv, h.2.2.2.2.2.2⟩
theorem ia_J_20_1 {σ : ST} {v : Int32} (h : IA σ) (hv : bI v 0 262) : IA (stI σ 20 1 v) := ⟨h.1, h.2.1, h.2.2.1, h.2.2.2.1, h.2.2.2.2.1, h.2.2.2.2.2.1, hv, h.2.2.2.2.2.2.2⟩
theorem ia_J_48_1 {σ : ST} {v : Int32} (h : IA σ) (hv : bI v 0 4) : IA (stI σ 48 1 v) := ⟨h.1, h.2.1, h.2.2.1, h.2.2.2.1, h.2.2.2.2.1, h.2.2.2.2.2.1, h.2.2.2.2.2.2.1, h.2.2.2.2.2.2.2.1, h.2.2.2.2.2.2.2.2.1, h.2.2.2.2.2.2.2.2.2.1, h.2.2.2.2.2.2.2.2.2.2.1, h.2.2.2.2.2.2.2.2.2.2.2.1, hv, h.2.2.2.2.2.2.2.2.2.2.2.2.2⟩
theorem ia_J_87_2 {σ : ST} {v : Int32} (h : IA σ) (hv : 0 ≤ v.toInt) : IA (stI σ 87 2 v) := ⟨h.1, h.2.1, h.2.2.1, h.2.2.2.1, h.2.2.2.2.1, h.2.2.2.2.2.1, h.2.2.2.2.2.2.1, h.2.2.2.2.2.2.2.1, h.2.2.2.2.2.2.2.2.1, h.2.2.2.2.2.2.2.2.2.1, h.2.2.2.2.2.2.2.2.2.2.1, h.2.2.2.2.2.2.2.2.2.2.2.1, h.2.2.2.2.2.2.2.2.2.2.2.2.1, h.2.2.2.2.2.2.2.2.2.2.2.2.2.1, hv, h.2.2.2.2.2.2.2.2.2.2.2.2.2.2.2⟩
theorem upd_all {P : Int32 → Prop} {f : Nat → Int32} {i : Nat} {v : Int32} (h : ∀ j, P (f j)) (hv : P v) : ∀ j, P (upd f i v j) := by
  intro j
  unfold upd
  split
  · exact hv
  · exact h j
theorem ia_J_21 {σ : ST} {i : Nat} {v : Int32} (h : IA σ) (hv : bI v 0 36) : IA (stI σ 21 i v) := ⟨h.1, h.2.1, h.2.2.1, h.2.2.2.1, h.2.2.2.2.1, h.2.2.2.2.2.1, h.2.2.2.2.2.2.1, h.2.2.2.2.2.2.2.1, upd_all (P := fun x => bI x 0 36) (h.2.2.2.2.2.2.2.2.1) hv, h.2.2.2.2.2.2.2.2.2⟩
theorem ia_J_23 {σ : ST} {i : Nat} {v : Int32} (h : IA σ) (hv : bI v 0 8) : IA (stI σ 23 i v) := ⟨h.1, h.2.1, h.2.2.1, h.2.2.2.1, h.2.2.2.2.1, h.2.2.2.2.2.1, h.2.2.2.2.2.2.1, h.2.2.2.2.2.2.2.1, h.2.2.2.2.2.2.2.2.1, h.2.2.2.2.2.2.2.2.2.1, upd_all (P := fun x => bI x 0 8) (h.2.2.2.2.2.2.2.2.2.2.1) hv, h.2.2.2.2.2.2.2.2.2.2.2⟩
theorem ia_J_22 {σ : ST} {i : Nat} {v : Int32} (h : IA σ) (hv : -1 ≤ v.toInt) : IA (stI σ 22 i v) := ⟨h.1, h.2.1, h.2.2.1, h.2.2.2.1, h.2.2.2.2.1, h.2.2.2.2.2.1, h.2.2.2.2.2.2.1, h.2.2.2.2.2.2.2.1, h.2.2.2.2.2.2.2.2.1, h.2.2.2.2.2.2.2.2.2.1, h.2.2.2.2.2.2.2.2.2.2.1, upd_all (P := fun x => -1 ≤ x.toInt) (h.2.2.2.2.2.2.2.2.2.2.2.1) hv, h.2.2.2.2.2.2.2.2.2.2.2.2⟩
theorem ia_J_88 {σ : ST} {i : Nat} {v : Int32} (h : IA σ) (hv : bI v (-128) 127) : IA (stI σ 88 i v) := ⟨h.1, h.2.1, h.2.2.1, h.2.2.2.1, h.2.2.2.2.1, h.2.2.2.2.2.1, h.2.2.2.2.2.2.1, h.2.2.2.2.2.2.2.1, h.2.2.2.2.2.2.2.2.1, h.2.2.2.2.2.2.2.2.2.1, h.2.2.2.2.2.2.2.2.2.2.1, h.2.2.2.2.2.2.2.2.2.2.2.1, h.2.2.2.2.2.2.2.2.2.2.2.2.1, upd_all (P := fun x => bI x (-128) 127) (h.2.2.2.2.2.2.2.2.2.2.2.2.2.1) hv, h.2.2.2.2.2.2.2.2.2.2.2.2.2.2⟩
theorem li_m1 : (-1 : Int32).toInt = -1 := by decide
theorem li_0 : (0 : Int32).toInt = 0 := by decide
theorem li_1 : (1 : Int32).toInt = 1 := by decide
theorem li_2 : (2 : Int32).toInt = 2 := by decide
theorem li_3 : (3 : Int32).toInt = 3 := by decide
theorem li_4 : (4 : Int32).toInt = 4 := by decide
theorem li_5 : (5 : Int32).toInt = 5 := by decide
theorem li_6 : (6 : Int32).toInt = 6 := by decide
theorem li_7 : (7 : Int32).toInt = 7 := by decide
theorem li_8 : (8 : Int32).toInt = 8 := by decide
theorem li_9 : (9 : Int32).toInt = 9 := by decide
theorem li_10 : (10 : Int32).toInt = 10 := by decide
theorem li_11 : (11 : Int32).toInt = 11 := by decide
theorem li_12 : (12 : Int32).toInt = 12 := by decide
theorem li_13 : (13 : Int32).toInt = 13 := by decide
theorem li_14 : (14 : Int32).toInt = 14 := by decide
theorem li_15 : (15 : Int32).toInt = 15 := by decide
theorem li_16 : (16 : Int32).toInt = 16 := by decide
theorem li_18 : (18 : Int32).toInt = 18 := by decide
theorem li_20 : (20 : Int32).toInt = 20 := by decide
theorem li_24 : (24 : Int32).toInt = 24 := by decide
theorem li_31 : (31 : Int32).toInt = 31 := by decide
theorem li_32 : (32 : Int32).toInt = 32 := by decide
theorem li_34 : (34 : Int32).toInt = 34 := by decide
theorem li_36 : (36 : Int32).toInt = 36 := by decide
theorem li_40 : (40 : Int32).toInt = 40 := by decide
theorem li_42 : (42 : Int32).toInt = 42 := by decide
theorem li_44 : (44 : Int32).toInt = 44 := by decide
theorem li_45 : (45 : Int32).toInt = 45 := by decide
theorem li_46 : (46 : Int32).toInt = 46 := by decide
theorem li_48 : (48 : Int32).toInt = 48 := by decide
theorem li_52 : (52 : Int32).toInt = 52 := by decide
theorem li_56 : (56 : Int32).toInt = 56 := by decide
theorem li_57 : (57 : Int32).toInt = 57 := by decide
theorem li_59 : (59 : Int32).toInt = 59 := by decide
theorem li_63 : (63 : Int32).toInt = 63 := by decide
theorem li_64 : (64 : Int32).toInt = 64 := by decide
theorem li_91 : (91 : Int32).toInt = 91 := by decide
theorem li_93 : (93 : Int32).toInt = 93 := by decide
theorem li_97 : (97 : Int32).toInt = 97 := by decide
theorem li_100 : (100 : Int32).toInt = 100 := by decide
theorem li_122 : (122 : Int32).toInt = 122 := by decide
theorem li_123 : (123 : Int32).toInt = 123 := by decide
theorem li_125 : (125 : Int32).toInt = 125 := by decide
theorem li_127 : (127 : Int32).toInt = 127 := by decide
theorem li_128 : (128 : Int32).toInt = 128 := by decide
theorem li_200 : (200 : Int32).toInt = 200 := by decide
theorem li_255 : (255 : Int32).toInt = 255 := by decide
theorem li_256 : (256 : Int32).toInt = 256 := by decide
theorem li_262 : (262 : Int32).toInt = 262 := by decide
theorem li_400 : (400 : Int32).toInt = 400 := by decide
theorem li_1000 : (1000 : Int32).toInt = 1000 := by decide
theorem li_1600 : (1600 : Int32).toInt = 1600 := by decide
theorem ia_I_2_4 {σ : ST} {v : Int32} (h : IA σ) : IA (stI σ 2 4 v) := h
theorem ia_I_2_6 {σ : ST} {v : Int32} (h : IA σ) : IA (stI σ 2 6 v) := h
theorem ia_I_2_9 {σ : ST} {v : Int32} (h : IA σ) : IA (stI σ 2 9 v) := h
theorem ia_I_2_10 {σ : ST} {v : Int32} (h : IA σ) : IA (stI σ 2 10 v) := h
theorem ia_I_2_11 {σ : ST} {v : Int32} (h : IA σ) : IA (stI σ 2 11 v) := h
theorem ia_I_2_12 {σ : ST} {v : Int32} (h : IA σ) : IA (stI σ 2 12 v) := h
theorem ia_I_2_13 {σ : ST} {v : Int32} (h : IA σ) : IA (stI σ 2 13 v) := h
theorem ia_I_4_1 {σ : ST} {v : Int32} (h : IA σ) : IA (stI σ 4 1 v) := h
theorem ia_I_10 {σ : ST} {i : Nat} {v : Int32} (h : IA σ) : IA (stI σ 10 i v) := h
theorem ia_I_25 {σ : ST} {i : Nat} {v : Int32} (h : IA σ) : IA (stI σ 25 i v) := h
theorem ia_I_29 {σ : ST} {i : Nat} {v : Int32} (h : IA σ) : IA (stI σ 29 i v) := h
theorem ia_I_31 {σ : ST} {i : Nat} {v : Int32} (h : IA σ) : IA (stI σ 31 i v) := h
theorem ia_I_32 {σ : ST} {i : Nat} {v : Int32} (h : IA σ) : IA (stI σ 32 i v) := h
theorem ia_I_33 {σ : ST} {i : Nat} {v : Int32} (h : IA σ) : IA (stI σ 33 i v) := h
theorem ia_I_35 {σ : ST} {i : Nat} {v : Int32} (h : IA σ) : IA (stI σ 35 i v) := h
theorem ia_I_38 {σ : ST} {i : Nat} {v : Int32} (h : IA σ) : IA (stI σ 38 i v) := h
theorem ia_I_39 {σ : ST} {i : Nat} {v : Int32} (h : IA σ) : IA (stI σ 39 i v) := h
theorem ia_I_40 {σ : ST} {i : Nat} {v : Int32} (h : IA σ) : IA (stI σ 40 i v) := h
theorem ia_I_41 {σ : ST} {i : Nat} {v : Int32} (h : IA σ) : IA (stI σ 41 i v) := h
theorem ia_I_43 {σ : ST} {i : Nat} {v : Int32} (h : IA σ) : IA (stI σ 43 i v) := h
theorem ia_I_44 {σ : ST} {i : Nat} {v : Int32} (h : IA σ) : IA (stI σ 44 i v) := h
theorem ia_I_45 {σ : ST} {i : Nat} {v : Int32} (h : IA σ) : IA (stI σ 45 i v) := h
theorem ia_I_47 {σ : ST} {i : Nat} {v : Int32} (h : IA σ) : IA (stI σ 47 i v) := h
theorem ia_I_48_2 {σ : ST} {v : Int32} (h : IA σ) : IA (stI σ 48 2 v) := h
theorem ia_I_48_3 {σ : ST} {v : Int32} (h : IA σ) : IA (stI σ 48 3 v) := h
theorem ia_I_49 {σ : ST} {i : Nat} {v : Int32} (h : IA σ) : IA (stI σ 49 i v) := h
theorem ia_I_54 {σ : ST} {i : Nat} {v : Int32} (h : IA σ) : IA (stI σ 54 i v) := h
theorem ia_I_55 {σ : ST} {i : Nat} {v : Int32} (h : IA σ) : IA (stI σ 55 i v) := h
theorem ia_I_60 {σ : ST} {i : Nat} {v : Int32} (h : IA σ) : IA (stI σ 60 i v) := h
theorem ia_I_61 {σ : ST} {i : Nat} {v : Int32} (h : IA σ) : IA (stI σ 61 i v) := h
theorem ia_I_66 {σ : ST} {i : Nat} {v : Int32} (h : IA σ) : IA (stI σ 66 i v) := h
theorem ia_I_67 {σ : ST} {i : Nat} {v : Int32} (h : IA σ) : IA (stI σ 67 i v) := h
theorem ia_I_72 {σ : ST} {i : Nat} {v : Int32} (h : IA σ) : IA (stI σ 72 i v) := h
theorem ia_I_73 {σ : ST} {i : Nat} {v : Int32} (h : IA σ) : IA (stI σ 73 i v) := h
theorem ia_I_78 {σ : ST} {i : Nat} {v : Int32} (h : IA σ) : IA (stI σ 78 i v) := h
theorem ia_I_79 {σ : ST} {i : Nat} {v : Int32} (h : IA σ) : IA (stI σ 79 i v) := h
theorem ia_I_84 {σ : ST} {i : Nat} {v : Int32} (h : IA σ) : IA (stI σ 84 i v) := h
theorem ia_I_85 {σ : ST} {i : Nat} {v : Int32} (h : IA σ) : IA (stI σ 85 i v) := h
theorem ia_I_89 {σ : ST} {i : Nat} {v : Int32} (h : IA σ) : IA (stI σ 89 i v) := h
theorem ia_I_90 {σ : ST} {i : Nat} {v : Int32} (h : IA σ) : IA (stI σ 90 i v) := h
theorem ia_I_91 {σ : ST} {i : Nat} {v : Int32} (h : IA σ) : IA (stI σ 91 i v) := h
theorem ia_I_92 {σ : ST} {i : Nat} {v : Int32} (h : IA σ) : IA (stI σ 92 i v) := h
theorem ia_I_93 {σ : ST} {i : Nat} {v : Int32} (h : IA σ) : IA (stI σ 93 i v) := h
theorem ia_I_94 {σ : ST} {i : Nat} {v : Int32} (h : IA σ) : IA (stI σ 94 i v) := h
theorem fr_I_2 {σ τ : ST} {i : Nat} {v : Int32} (h : Fr σ τ) : Fr σ (stI τ 2 i v) := h
theorem fr_I_10 {σ τ : ST} {i : Nat} {v : Int32} (h : Fr σ τ) : Fr σ (stI τ 10 i v) := h
theorem fr_I_20 {σ τ : ST} {i : Nat} {v : Int32} (h : Fr σ τ) : Fr σ (stI τ 20 i v) := h
theorem fr_I_21 {σ τ : ST} {i : Nat} {v : Int32} (h : Fr σ τ) : Fr σ (stI τ 21 i v) := h
theorem fr_I_22 {σ τ : ST} {i : Nat} {v : Int32} (h : Fr σ τ) : Fr σ (stI τ 22 i v) := h
theorem fr_I_23 {σ τ : ST} {i : Nat} {v : Int32} (h : Fr σ τ) : Fr σ (stI τ 23 i v) := h
theorem fr_I_25 {σ τ : ST} {i : Nat} {v : Int32} (h : Fr σ τ) : Fr σ (stI τ 25 i v) := h
theorem fr_I_29 {σ τ : ST} {i : Nat} {v : Int32} (h : Fr σ τ) : Fr σ (stI τ 29 i v) := h
theorem fr_I_31 {σ τ : ST} {i : Nat} {v : Int32} (h : Fr σ τ) : Fr σ (stI τ 31 i v) := h
theorem fr_I_32 {σ τ : ST} {i : Nat} {v : Int32} (h : Fr σ τ) : Fr σ (stI τ 32 i v) := h
theorem fr_I_33 {σ τ : ST} {i : Nat} {v : Int32} (h : Fr σ τ) : Fr σ (stI τ 33 i v) := h
theorem fr_I_35 {σ τ : ST} {i : Nat} {v : Int32} (h : Fr σ τ) : Fr σ (stI τ 35 i v) := h
theorem fr_I_38 {σ τ : ST} {i : Nat} {v : Int32} (h : Fr σ τ) : Fr σ (stI τ 38 i v) := h
theorem fr_I_39 {σ τ : ST} {i : Nat} {v : Int32} (h : Fr σ τ) : Fr σ (stI τ 39 i v) := h
theorem fr_I_40 {σ τ : ST} {i : Nat} {v : Int32} (h : Fr σ τ) : Fr σ (stI τ 40 i v) := h
theorem fr_I_41 {σ τ : ST} {i : Nat} {v : Int32} (h : Fr σ τ) : Fr σ (stI τ 41 i v) := h
theorem fr_I_43 {σ τ : ST} {i : Nat} {v : Int32} (h : Fr σ τ) : Fr σ (stI τ 43 i v) := h
theorem fr_I_44 {σ τ : ST} {i : Nat} {v : Int32} (h : Fr σ τ) : Fr σ (stI τ 44 i v) := h
theorem fr_I_45 {σ τ : ST} {i : Nat} {v : Int32} (h : Fr σ τ) : Fr σ (stI τ 45 i v) := h
theorem fr_I_47 {σ τ : ST} {i : Nat} {v : Int32} (h : Fr σ τ) : Fr σ (stI τ 47 i v) := h
theorem fr_I_48 {σ τ : ST} {i : Nat} {v : Int32} (h : Fr σ τ) : Fr σ (stI τ 48 i v) := h
theorem fr_I_49 {σ τ : ST} {i : Nat} {v : Int32} (h : Fr σ τ) : Fr σ (stI τ 49 i v) := h
theorem fr_I_54 {σ τ : ST} {i : Nat} {v : Int32} (h : Fr σ τ) : Fr σ (stI τ 54 i v) := h
theorem fr_I_55 {σ τ : ST} {i : Nat} {v : Int32} (h : Fr σ τ) : Fr σ (stI τ 55 i v) := h
theorem fr_I_60 {σ τ : ST} {i : Nat} {v : Int32} (h : Fr σ τ) : Fr σ (stI τ 60 i v) := h
theorem fr_I_61 {σ τ : ST} {i : Nat} {v : Int32} (h : Fr σ τ) : Fr σ (stI τ 61 i v) := h
theorem fr_I_66 {σ τ : ST} {i : Nat} {v : Int32} (h : Fr σ τ) : Fr σ (stI τ 66 i v) := h
theorem fr_I_67 {σ τ : ST} {i : Nat} {v : Int32} (h : Fr σ τ) : Fr σ (stI τ 67 i v) := h
theorem fr_I_72 {σ τ : ST} {i : Nat} {v : Int32} (h : Fr σ τ) : Fr σ (stI τ 72 i v) := h
theorem fr_I_73 {σ τ : ST} {i : Nat} {v : Int32} (h : Fr σ τ) : Fr σ (stI τ 73 i v) := h
theorem fr_I_78 {σ τ : ST} {i : Nat} {v : Int32} (h : Fr σ τ) : Fr σ (stI τ 78 i v) := h
theorem fr_I_79 {σ τ : ST} {i : Nat} {v : Int32} (h : Fr σ τ) : Fr σ (stI τ 79 i v) := h
theorem fr_I_84 {σ τ : ST} {i : Nat} {v : Int32} (h : Fr σ τ) : Fr σ (stI τ 84 i v) := h
theorem fr_I_85 {σ τ : ST} {i : Nat} {v : Int32} (h : Fr σ τ) : Fr σ (stI τ 85 i v) := h
theorem fr_I_89 {σ τ : ST} {i : Nat} {v : Int32} (h : Fr σ τ) : Fr σ (stI τ 89 i v) := h
theorem fr_I_90 {σ τ : ST} {i : Nat} {v : Int32} (h : Fr σ τ) : Fr σ (stI τ 90 i v) := h
theorem fr_I_91 {σ τ : ST} {i : Nat} {v : Int32} (h : Fr σ τ) : Fr σ (stI τ 91 i v) := h
theorem fr_I_92 {σ τ : ST} {i : Nat} {v : Int32} (h : Fr σ τ) : Fr σ (stI τ 92 i v) := h
theorem fr_I_93 {σ τ : ST} {i : Nat} {v : Int32} (h : Fr σ τ) : Fr σ (stI τ 93 i v) := h
theorem fr_I_94 {σ τ : ST} {i : Nat} {v : Int32} (h : Fr σ τ) : Fr σ (stI τ 94 i v) := h
theorem k_J6_bitCount_0f7a4 (p0 : Int32) (σ : ST) (hI : IA σ)  : OK (f_J6_bitCount_0f7a4  p0 σ) (RO σ fun v => True) := by
  unfold f_J6_bitCount_0f7a4
  have lt_0 := li_0
  have lt_1 := li_1
  have lt_63 := li_63
  have lFU : ((FU : Nat) : Int) = 100000 := rfl
  refine OK.lt (fun w1 _ => ?_)
  refine OK.lt (fun w2 _ => ?_)
  refine OK.lt (fun w3 _ => ?_)
  refine OK.lt (fun w4 _ => ?_)
  refine OK.lt (fun w5 _ => ?_)
  exact OK.roret (by first | trivial | omega | exact hI.flds _ | exact hI.dflds _ | exact hI.recs _ | exact hI.drecs _ | exact hI.droot _ | omega)

theorem k_J7_fill_53178_5_10 : ∀ (n : Nat) (x1 : Int32) (x2 : Int32) (x3 : Int32) (σ : ST), IA σ → (0 ≤ x2.toInt ∧ x2.toInt ≤ 36 ∧ (x3.toInt ≤ 36) ∧ (36 : Int) - x2.toInt < n) → OK (f_J7_fill_53178_5 10 n x1 x2 x3 σ) (RS σ) := by
  intro n
  induction n with
  | zero =>
    intro x1 x2 x3 σ hI hv
    omega
  | succ n ih =>
    intro x1 x2 x3 σ hI hv
    rw [f_J7_fill_53178_5]
    have lt_0 := li_0
    have lt_1 := li_1
    have lFU : ((FU : Nat) : Int) = 100000 := rfl
    have gu : ((lnA 10 : Nat) : Int) = 36 := rfl
    have gn : (nI (lnA 10 : Nat)).toInt = 36 := by decide
    refine OK.ile (fun h1 => ?_) (fun h1 => ?_)
    · skip
      exact OK.sret hI Fr.rf
    · skip
      refine OK.grd ⟨by omega, by omega⟩ ?_
      obtain ⟨a2k, a2, a2l, a2r⟩ := i_add x2 1
      try (refine k0el (k := a2k) ?_ (fun e0 => ?_); (focus omega); subst e0)
      exact OK.trS (ih _ _ _ _ (ia_I_10 hI) (by omega)) (fr_I_10 Fr.rf)

theorem k_J7_fill_53178_5_40 : ∀ (n : Nat) (x1 : Int32) (x2 : Int32) (x3 : Int32) (σ : ST), IA σ → (0 ≤ x2.toInt ∧ x2.toInt ≤ 4 ∧ (x3.toInt ≤ 4) ∧ (4 : Int) - x2.toInt < n) → OK (f_J7_fill_53178_5 40 n x1 x2 x3 σ) (RS σ) := by
  intro n
  induction n with
  | zero =>
    intro x1 x2 x3 σ hI hv
    omega
  | succ n ih =>
    intro x1 x2 x3 σ hI hv
    rw [f_J7_fill_53178_5]
    have lt_0 := li_0
    have lt_1 := li_1
    have lFU : ((FU : Nat) : Int) = 100000 := rfl
    have gu : ((lnA 40 : Nat) : Int) = 4 := rfl
    have gn : (nI (lnA 40 : Nat)).toInt = 4 := by decide
    refine OK.ile (fun h1 => ?_) (fun h1 => ?_)
    · skip
      exact OK.sret hI Fr.rf
    · skip
      refine OK.grd ⟨by omega, by omega⟩ ?_
      obtain ⟨a2k, a2, a2l, a2r⟩ := i_add x2 1
      try (refine k0el (k := a2k) ?_ (fun e0 => ?_); (focus omega); subst e0)
      exact OK.trS (ih _ _ _ _ (ia_I_40 hI) (by omega)) (fr_I_40 Fr.rf)

theorem k_J7_fill_53178_5_43 : ∀ (n : Nat) (x1 : Int32) (x2 : Int32) (x3 : Int32) (σ : ST), IA σ → (0 ≤ x2.toInt ∧ x2.toInt ≤ 36 ∧ (x3.toInt ≤ 36) ∧ (36 : Int) - x2.toInt < n) → OK (f_J7_fill_53178_5 43 n x1 x2 x3 σ) (RS σ) := by
  intro n
  induction n with
  | zero =>
    intro x1 x2 x3 σ hI hv
    omega
  | succ n ih =>
    intro x1 x2 x3 σ hI hv
    rw [f_J7_fill_53178_5]
    have lt_0 := li_0
    have lt_1 := li_1
    have lFU : ((FU : Nat) : Int) = 100000 := rfl
    have gu : ((lnA 43 : Nat) : Int) = 36 := rfl
    have gn : (nI (lnA 43 : Nat)).toInt = 36 := by decide
    refine OK.ile (fun h1 => ?_) (fun h1 => ?_)
    · skip
      exact OK.sret hI Fr.rf
    · skip
      refine OK.grd ⟨by omega, by omega⟩ ?_
      obtain ⟨a2k, a2, a2l, a2r⟩ := i_add x2 1
      try (refine k0el (k := a2k) ?_ (fun e0 => ?_); (focus omega); subst e0)
      exact OK.trS (ih _ _ _ _ (ia_I_43 hI) (by omega)) (fr_I_43 Fr.rf)

theorem k_J7_fill_53178_10 (p1 : Int32) (σ : ST) (hI : IA σ)  : OK (f_J7_fill_53178 10 p1 σ) (RS σ) := by
  unfold f_J7_fill_53178
  have lt_0 := li_0
  have lt_1 := li_1
  have lFU : ((FU : Nat) : Int) = 100000 := rfl
  have gu : ((lnA 10 : Nat) : Int) = 36 := rfl
  have gn : (nI (lnA 10 : Nat)).toInt = 36 := by decide
  exact OK.trS (k_J7_fill_53178_5_10 FU _ _ _ _ hI (by omega)) Fr.rf

theorem k_J7_fill_53178_40 (p1 : Int32) (σ : ST) (hI : IA σ)  : OK (f_J7_fill_53178 40 p1 σ) (RS σ) := by
  unfold f_J7_fill_53178
  have lt_0 := li_0
  have lt_1 := li_1
  have lFU : ((FU : Nat) : Int) = 100000 := rfl
  have gu : ((lnA 40 : Nat) : Int) = 4 := rfl
  have gn : (nI (lnA 40 : Nat)).toInt = 4 := by decide
  exact OK.trS (k_J7_fill_53178_5_40 FU _ _ _ _ hI (by omega)) Fr.rf

theorem k_J7_fill_53178_43 (p1 : Int32) (σ : ST) (hI : IA σ)  : OK (f_J7_fill_53178 43 p1 σ) (RS σ) := by
  unfold f_J7_fill_53178
  have lt_0 := li_0
  have lt_1 := li_1
  have lFU : ((FU : Nat) : Int) = 100000 := rfl
  have gu : ((lnA 43 : Nat) : Int) = 36 := rfl
  have gn : (nI (lnA 43 : Nat)).toInt = 36 := by decide
  exact OK.trS (k_J7_fill_53178_5_43 FU _ _ _ _ hI (by omega)) Fr.rf

theorem k_J9_floorMod_7cf53 (p0 : Int32) (p1 : Int32) (σ : ST) (hI : IA σ) (hp0 : ¬ p1 = 0)  : OK (f_J9_floorMod_7cf53  p0 p1 σ) (RO σ fun v => True) := by
  unfold f_J9_floorMod_7cf53
  have lt_0 := li_0
  have lt_1 := li_1
  have lFU : ((FU : Nat) : Int) = 100000 := rfl
  refine OK.grd (by first | assumption | decide | omega) ?_
  refine OK.ile (fun h1 => ?_) (fun h1 => ?_)
  · skip
    exact OK.roret (by first | trivial | omega | exact hI.flds _ | exact hI.dflds _ | exact hI.recs _ | exact hI.drecs _ | exact hI.droot _ | omega)
  · skip
    obtain ⟨a2k, a2, a2l, a2r⟩ := i_mul (p0 / p1) p1
    try (refine k0el (k := a2k) ?_ (fun e0 => ?_); (focus omega); subst e0)
    obtain ⟨a3k, a3, a3l, a3r⟩ := i_sub p0 ((p0 / p1) * p1)
    try (refine k0el (k := a3k) ?_ (fun e0 => ?_); (focus omega); subst e0)
    refine OK.ieq (fun h4 => ?_) (fun h4 => ?_)
    · skip
      exact OK.roret (by first | trivial | omega | exact hI.flds _ | exact hI.dflds _ | exact hI.recs _ | exact hI.drecs _ | exact hI.droot _ | omega)
    · skip
      exact OK.roret (by first | trivial | omega | exact hI.flds _ | exact hI.dflds _ | exact hI.recs _ | exact hI.drecs _ | exact hI.droot _ | omega)

theorem k_X0_addMiss (p0 : Int32) (σ : ST) (hI : IA σ) : OK (f_X0_addMiss p0 σ) (RS σ) := by
  unfold f_X0_addMiss
  have lt_0 := li_0
  have lt_20 := li_20
  have lt_32 := li_32
  refine OK.ilt (fun h1 => OK.sret hI Fr.rf) (fun h1 => ?_)
  refine OK.ile (fun h2 => OK.sret hI Fr.rf) (fun h2 => ?_)
  refine OK.ilt (fun h3 => OK.sret hI Fr.rf) (fun h3 => ?_)
  refine OK.ile (fun h4 => ?_) (fun h4 => OK.sret hI Fr.rf)
  refine OK.grd ⟨by omega, by omega⟩ ?_
  refine OK.grd (show 0 ≤ (σ.1 41 6).toInt ∧ (σ.1 41 6).toInt < 20 from ⟨by omega, by omega⟩) ?_
  refine OK.lt (fun z3 hz => ?_)
  have e6 : z3.1 41 6 = σ.1 41 6 := by rw [hz]; rfl
  have e11 : z3.1 41 11 = σ.1 41 11 := by rw [hz]; rfl
  have i3 : IA z3 := by rw [hz]; exact ia_I_45 (ia_I_44 hI)
  have f3 : Fr σ z3 := by rw [hz]; exact fr_I_45 (fr_I_44 Fr.rf)
  obtain ⟨ak, a, al, ar⟩ := i_mul (z3.1 41 6) 32
  rw [li_32, e6] at a
  rw [e6] at al ar
  try (refine k0el (k := ak) ?_ (fun e0 => ?_); (focus omega); subst e0)
  have q1 : (σ.1 41 11).toNatClampNeg = (σ.1 41 11).toInt.toNat := rfl
  have q2 : (σ.1 41 6 * 32).toNatClampNeg = (σ.1 41 6 * 32).toInt.toNat := rfl
  have q0 : (0 : Int32).toNatClampNeg = 0 := by decide
  refine OK.grd (by
    rw [e6, e11, q0, q1, q2]
    refine ⟨by decide, ?_, ?_, ?_, ?_⟩
    · intro hh; have := il_lt hh; omega
    · intro hh; have := il_lt hh; omega
    · omega
    · omega) ?_
  refine OK.lt (fun z4 hz4 => ?_)
  have i4 : IA z4 := by rw [hz4]; exact i3
  have f4 : Fr σ z4 := by rw [hz4]; exact f3
  exact OK.sret (ia_I_41 i4) (fr_I_41 f4)


theorem k_X0_bitOf (p0 : Int32) (p1 : Int32) (σ : ST) (hI : IA σ)  : OK (f_X0_bitOf  p0 p1 σ) (RO σ fun v => True) := by
  unfold f_X0_bitOf
  have lt_0 := li_0
  have lt_1 := li_1
  have lt_6 := li_6
  have lt_63 := li_63
  have lFU : ((FU : Nat) : Int) = 100000 := rfl
  refine OK.bndR (k_J9_floorMod_7cf53 _ _ _ hI (by decide)) (fun v1 h2 => ?_)
  dsimp only
  refine OK.bndR (k_J9_floorMod_7cf53 _ _ _ hI (by decide)) (fun v3 h4 => ?_)
  dsimp only
  exact OK.roret (by first | trivial | omega | exact hI.flds _ | exact hI.dflds _ | exact hI.recs _ | exact hI.drecs _ | exact hI.droot _ | omega)

theorem k_X0_plainFits_41 (σ : ST) (hI : IA σ)  : OK (f_X0_plainFits_41  σ) (RO σ fun v => v.toInt = 0 ∨ v.toInt = 1) := by
  unfold f_X0_plainFits_41
  have lt_0 := li_0
  have lt_1 := li_1
  have lFU : ((FU : Nat) : Int) = 100000 := rfl
  exact OK.roret (by first | trivial | omega | exact hI.flds _ | exact hI.dflds _ | exact hI.recs _ | exact hI.drecs _ | exact hI.droot _ | omega)

theorem k_X0_plainFits_31 (x0 : Int32) (x1 : Int32) (σ : ST) (hI : IA σ)  : OK (f_X0_plainFits_31  x0 x1 σ) (RO σ fun v => v.toInt = 0 ∨ v.toInt = 1) := by
  unfold f_X0_plainFits_31
  have lt_0 := li_0
  have lt_1 := li_1
  have lt_3 := li_3
  have lt_4 := li_4
  have lFU : ((FU : Nat) : Int) = 100000 := rfl
  refine OK.ieq (fun h1 => ?_) (fun h1 => ?_)
  · skip
    refine OK.ieq (fun h2 => ?_) (fun h2 => ?_)
    · skip
      exact OK.roq (k_X0_plainFits_41 _ hI ) (fun v hv => by first | trivial | omega | exact hI.flds _ | exact hI.dflds _ | exact hI.recs _ | exact hI.drecs _ | exact hI.droot _ | omega)
    · skip
      exact OK.roret (by first | trivial | omega | exact hI.flds _ | exact hI.dflds _ | exact hI.recs _ | exact hI.drecs _ | exact hI.droot _ | omega)
  · skip
    exact OK.roret (by first | trivial | omega | exact hI.flds _ | exact hI.dflds _ | exact hI.recs _ | exact hI.drecs _ | exact hI.droot _ | omega)

theorem k_X0_plainFits (p0 : Int32) (p1 : Int32) (σ : ST) (hI : IA σ)  : OK (f_X0_plainFits  p0 p1 σ) (RO σ fun v => v.toInt = 0 ∨ v.toInt = 1) := by
  unfold f_X0_plainFits
  have lt_0 := li_0
  have lt_1 := li_1
  have lt_2 := li_2
  have lt_3 := li_3
  have lt_4 := li_4
  have lt_5 := li_5
  have lFU : ((FU : Nat) : Int) = 100000 := rfl
  refine OK.ilt (fun h1 => ?_) (fun h1 => ?_)
  · skip
    exact OK.roret (by first | trivial | omega | exact hI.flds _ | exact hI.dflds _ | exact hI.recs _ | exact hI.drecs _ | exact hI.droot _ | omega)
  · skip
    refine OK.ile (fun h2 => ?_) (fun h2 => ?_)
    · skip
      refine OK.ieq (fun h3 => ?_) (fun h3 => ?_)
      · skip
        exact OK.roq (k_X0_plainFits_41 _ hI ) (fun v hv => by first | trivial | omega | exact hI.flds _ | exact hI.dflds _ | exact hI.recs _ | exact hI.drecs _ | exact hI.droot _ | omega)
      · skip
        refine OK.ieq (fun h4 => ?_) (fun h4 => ?_)
        · skip
          refine OK.ieq (fun h5 => ?_) (fun h5 => ?_)
          · skip
            exact OK.roq (k_X0_plainFits_41 _ hI ) (fun v hv => by first | trivial | omega | exact hI.flds _ | exact hI.dflds _ | exact hI.recs _ | exact hI.drecs _ | exact hI.droot _ | omega)
          · skip
            refine OK.ieq (fun h6 => ?_) (fun h6 => ?_)
            · skip
              exact OK.roq (k_X0_plainFits_41 _ hI ) (fun v hv => by first | trivial | omega | exact hI.flds _ | exact hI.dflds _ | exact hI.recs _ | exact hI.drecs _ | exact hI.droot _ | omega)
            · skip
              exact OK.roq (k_X0_plainFits_31 _ _ _ hI ) (fun v hv => by first | trivial | omega | exact hI.flds _ | exact hI.dflds _ | exact hI.recs _ | exact hI.drecs _ | exact hI.droot _ | omega)
        · skip
          exact OK.roq (k_X0_plainFits_31 _ _ _ hI ) (fun v hv => by first | trivial | omega | exact hI.flds _ | exact hI.dflds _ | exact hI.recs _ | exact hI.drecs _ | exact hI.droot _ | omega)
    · skip
      exact OK.roret (by first | trivial | omega | exact hI.flds _ | exact hI.dflds _ | exact hI.recs _ | exact hI.drecs _ | exact hI.droot _ | omega)

theorem k_X5_isType_4 (p0 : Int32) (σ : ST) (hI : IA σ)  : OK (f_X5_isType 4 p0 σ) (RO σ fun v => v.toInt = 0 ∨ v.toInt = 1 ∧ 0 ≤ p0.toInt ∧ p0.toInt < 262) := by
  unfold f_X5_isType
  have lt_0 := li_0
  have lt_1 := li_1
  have lt_262 := li_262
  have lFU : ((FU : Nat) : Int) = 100000 := rfl
  refine OK.ilt (fun h1 => ?_) (fun h1 => ?_)
  · skip
    exact OK.roret (by first | trivial | omega | exact hI.flds _ | exact hI.dflds _ | exact hI.recs _ | exact hI.drecs _ | exact hI.droot _ | omega)
  · skip
    refine OK.ile (fun h2 => ?_) (fun h2 => ?_)
    · skip
      exact OK.roret (by first | trivial | omega | exact hI.flds _ | exact hI.dflds _ | exact hI.recs _ | exact hI.drecs _ | exact hI.droot _ | omega)
    · skip
      refine OK.ile (fun h3 => ?_) (fun h3 => ?_)
      · skip
        exact OK.roret (by first | trivial | omega | exact hI.flds _ | exact hI.dflds _ | exact hI.recs _ | exact hI.drecs _ | exact hI.droot _ | omega)
      · skip
        exact OK.roret (by first | trivial | omega | exact hI.flds _ | exact hI.dflds _ | exact hI.recs _ | exact hI.drecs _ | exact hI.droot _ | omega)

theorem k_X5_isType_20 (p0 : Int32) (σ : ST) (hI : IA σ)  : OK (f_X5_isType 20 p0 σ) (RO σ fun v => v.toInt = 0 ∨ v.toInt = 1 ∧ 0 ≤ p0.toInt ∧ p0.toInt < 262) := by
  unfold f_X5_isType
  have lt_0 := li_0
  have lt_1 := li_1
  have lt_262 := li_262
  have lFU : ((FU : Nat) : Int) = 100000 := rfl
  refine OK.ilt (fun h1 => ?_) (fun h1 => ?_)
  · skip
    exact OK.roret (by first | trivial | omega | exact hI.flds _ | exact hI.dflds _ | exact hI.recs _ | exact hI.drecs _ | exact hI.droot _ | omega)
  · skip
    have g2 : 0 ≤ (σ.1 20 1).toInt ∧ (σ.1 20 1).toInt ≤ 262 := hI.dtypes
    refine OK.ile (fun h3 => ?_) (fun h3 => ?_)
    · skip
      exact OK.roret (by first | trivial | omega | exact hI.flds _ | exact hI.dflds _ | exact hI.recs _ | exact hI.drecs _ | exact hI.droot _ | omega)
    · skip
      refine OK.ile (fun h4 => ?_) (fun h4 => ?_)
      · skip
        exact OK.roret (by first | trivial | omega | exact hI.flds _ | exact hI.dflds _ | exact hI.recs _ | exact hI.drecs _ | exact hI.droot _ | omega)
      · skip
        exact OK.roret (by first | trivial | omega | exact hI.flds _ | exact hI.dflds _ | exact hI.recs _ | exact hI.drecs _ | exact hI.droot _ | omega)

theorem k_X5_branchAfter_4 (p0 : Int32) (σ : ST) (hI : IA σ)  : OK (f_X5_branchAfter 4 p0 σ) (RO σ fun v => True) := by
  unfold f_X5_branchAfter
  have lt_m1 := li_m1
  have lt_0 := li_0
  have lt_1 := li_1
  have lFU : ((FU : Nat) : Int) = 100000 := rfl
  refine OK.bndR (k_X5_isType_4 _ _ hI ) (fun v1 h2 => ?_)
  dsimp only
  refine OK.ieq (fun h3 => ?_) (fun h3 => ?_)
  · skip
    exact OK.roret (by first | trivial | omega | exact hI.flds _ | exact hI.dflds _ | exact hI.recs _ | exact hI.drecs _ | exact hI.droot _ | omega)
  · skip
    refine OK.grd ⟨by omega, by omega⟩ ?_
    exact OK.roret (by first | trivial | omega | exact hI.flds _ | exact hI.dflds _ | exact hI.recs _ | exact hI.drecs _ | exact hI.droot _ | omega)

theorem k_X5_innerOf_4 (p0 : Int32) (σ : ST) (hI : IA σ)  : OK (f_X5_innerOf 4 p0 σ) (RO σ fun v => True) := by
  unfold f_X5_innerOf
  have lt_m1 := li_m1
  have lt_0 := li_0
  have lt_1 := li_1
  have lFU : ((FU : Nat) : Int) = 100000 := rfl
  refine OK.bndR (k_X5_isType_4 _ _ hI ) (fun v1 h2 => ?_)
  dsimp only
  refine OK.ieq (fun h3 => ?_) (fun h3 => ?_)
  · skip
    exact OK.roret (by first | trivial | omega | exact hI.flds _ | exact hI.dflds _ | exact hI.recs _ | exact hI.drecs _ | exact hI.droot _ | omega)
  · skip
    refine OK.grd ⟨by omega, by omega⟩ ?_
    exact OK.roret (by first | trivial | omega | exact hI.flds _ | exact hI.dflds _ | exact hI.recs _ | exact hI.drecs _ | exact hI.droot _ | omega)

theorem k_X5_innerOf_20 (p0 : Int32) (σ : ST) (hI : IA σ)  : OK (f_X5_innerOf 20 p0 σ) (RO σ fun v => True) := by
  unfold f_X5_innerOf
  have lt_m1 := li_m1
  have lt_0 := li_0
  have lt_1 := li_1
  have lFU : ((FU : Nat) : Int) = 100000 := rfl
  refine OK.bndR (k_X5_isType_20 _ _ hI ) (fun v1 h2 => ?_)
  dsimp only
  refine OK.ieq (fun h3 => ?_) (fun h3 => ?_)
  · skip
    exact OK.roret (by first | trivial | omega | exact hI.flds _ | exact hI.dflds _ | exact hI.recs _ | exact hI.drecs _ | exact hI.droot _ | omega)
  · skip
    refine OK.grd ⟨by omega, by omega⟩ ?_
    exact OK.roret (by first | trivial | omega | exact hI.flds _ | exact hI.dflds _ | exact hI.recs _ | exact hI.drecs _ | exact hI.droot _ | omega)

theorem k_X5_sortOf_4 (p0 : Int32) (σ : ST) (hI : IA σ)  : OK (f_X5_sortOf 4 p0 σ) (RO σ fun v => True) := by
  unfold f_X5_sortOf
  have lt_m1 := li_m1
  have lt_0 := li_0
  have lt_1 := li_1
  have lFU : ((FU : Nat) : Int) = 100000 := rfl
  refine OK.bndR (k_X5_isType_4 _ _ hI ) (fun v1 h2 => ?_)
  dsimp only
  refine OK.ieq (fun h3 => ?_) (fun h3 => ?_)
  · skip
    exact OK.roret (by first | trivial | omega | exact hI.flds _ | exact hI.dflds _ | exact hI.recs _ | exact hI.drecs _ | exact hI.droot _ | omega)
  · skip
    refine OK.grd ⟨by omega, by omega⟩ ?_
    exact OK.roret (by first | trivial | omega | exact hI.flds _ | exact hI.dflds _ | exact hI.recs _ | exact hI.drecs _ | exact hI.droot _ | omega)

theorem k_X5_sortOf_20 (p0 : Int32) (σ : ST) (hI : IA σ)  : OK (f_X5_sortOf 20 p0 σ) (RO σ fun v => True) := by
  unfold f_X5_sortOf
  have lt_m1 := li_m1
  have lt_0 := li_0
  have lt_1 := li_1
  have lFU : ((FU : Nat) : Int) = 100000 := rfl
  refine OK.bndR (k_X5_isType_20 _ _ hI ) (fun v1 h2 => ?_)
  dsimp only
  refine OK.ieq (fun h3 => ?_) (fun h3 => ?_)
  · skip
    exact OK.roret (by first | trivial | omega | exact hI.flds _ | exact hI.dflds _ | exact hI.recs _ | exact hI.drecs _ | exact hI.droot _ | omega)
  · skip
    refine OK.grd ⟨by omega, by omega⟩ ?_
    exact OK.roret (by first | trivial | omega | exact hI.flds _ | exact hI.dflds _ | exact hI.recs _ | exact hI.drecs _ | exact hI.droot _ | omega)

theorem k_X0_chosenWithin_16 {N0 : Nat} {r_X0_chosenWithin : Int32 → Int32 → Int32 → ST → Option (Int32 × ST)} (hr_X0_chosenWithin : ∀ (p0 : Int32) (p1 : Int32) (p2 : Int32) (σ : ST), IA σ → 0 ≤ p2.toInt ∧ p2.toInt ≤ 11 ∧ (13 : Int) ≤ (N0 : Nat) + p2.toInt → OK (r_X0_chosenWithin p0 p1 p2 σ) (RO σ fun v => True)) {r_X0_fitsWithin : Int32 → Int32 → Int32 → ST → Option (Int32 × ST)} (hr_X0_fitsWithin : ∀ (p0 : Int32) (p1 : Int32) (p2 : Int32) (σ : ST), IA σ → 0 ≤ p2.toInt ∧ p2.toInt ≤ 12 ∧ (13 : Int) ≤ (N0 : Nat) + p2.toInt → OK (r_X0_fitsWithin p0 p1 p2 σ) (RO σ fun v => v.toInt = 0 ∨ v.toInt = 1)) : ∀ (n : Nat) (x1 : Int32) (x3 : Int32) (x4 : Int32) (x5 : Int32) (x6 : Int32) (σ : ST), IA σ → ((0 ≤ x3.toInt ∧ x3.toInt ≤ 11 ∧ (13 : Int) ≤ (N0 + 1 : Nat) + x3.toInt) ∧ 0 ≤ x6.toInt ∧ x6.toInt ≤ 4 ∧ (4 : Int) - x6.toInt < n) → OK (f_X0_chosenWithin_16 r_X0_chosenWithin r_X0_fitsWithin  n x1 x3 x4 x5 x6 σ) (RO σ fun v => True) := by
  intro n
  induction n with
  | zero =>
    intro x1 x3 x4 x5 x6 σ hI hv
    omega
  | succ n ih =>
    intro x1 x3 x4 x5 x6 σ hI hv
    rw [f_X0_chosenWithin_16]
    have lt_m1 := li_m1
    have lt_0 := li_0
    have lt_1 := li_1
    have lt_4 := li_4
    have lFU : ((FU : Nat) : Int) = 100000 := rfl
    have lFR : ((FR : Nat) : Int) = 160 := rfl
    refine OK.ile (fun h1 => ?_) (fun h1 => ?_)
    · skip
      exact OK.roret (by first | trivial | omega | exact hI.flds _ | exact hI.dflds _ | exact hI.recs _ | exact hI.drecs _ | exact hI.droot _ | omega)
    · skip
      refine OK.ieq (fun h2 => ?_) (fun h2 => ?_)
      · skip
        exact OK.roret (by first | trivial | omega | exact hI.flds _ | exact hI.dflds _ | exact hI.recs _ | exact hI.drecs _ | exact hI.droot _ | omega)
      · skip
        obtain ⟨a3k, a3, a3l, a3r⟩ := i_add x3 1
        try (refine k0el (k := a3k) ?_ (fun e0 => ?_); (focus omega); subst e0)
        refine OK.bndR (hr_X0_fitsWithin _ _ _ _ hI (by omega)) (fun v4 h5 => ?_)
        dsimp only
        refine OK.ieq (fun h6 => ?_) (fun h6 => ?_)
        · skip
          unfold f_X0_chosenWithin_79
          try dsimp only
          refine OK.bndR (k_X5_branchAfter_4 _ _ hI ) (fun v7 h8 => ?_)
          dsimp only
          obtain ⟨a9k, a9, a9l, a9r⟩ := i_add x6 1
          try (refine k0el (k := a9k) ?_ (fun e0 => ?_); (focus omega); subst e0)
          exact OK.roq (ih _ _ _ _ _ _ hI (by omega)) (fun v hv => by first | trivial | omega | exact hI.flds _ | exact hI.dflds _ | exact hI.recs _ | exact hI.drecs _ | exact hI.droot _ | omega)
        · skip
          refine OK.bndR (k_X5_sortOf_4 _ _ hI ) (fun v10 h11 => ?_)
          dsimp only
          refine OK.bndR (k_X5_sortOf_4 _ _ hI ) (fun v12 h13 => ?_)
          dsimp only
          refine OK.ieq (fun h14 => ?_) (fun h14 => ?_)
          · skip
            exact OK.roret (by first | trivial | omega | exact hI.flds _ | exact hI.dflds _ | exact hI.recs _ | exact hI.drecs _ | exact hI.droot _ | omega)
          · skip
            refine OK.ieq (fun h15 => ?_) (fun h15 => ?_)
            · skip
              unfold f_X0_chosenWithin_77
              try dsimp only
              unfold f_X0_chosenWithin_79
              try dsimp only
              refine OK.bndR (k_X5_branchAfter_4 _ _ hI ) (fun v16 h17 => ?_)
              dsimp only
              obtain ⟨a18k, a18, a18l, a18r⟩ := i_add x6 1
              try (refine k0el (k := a18k) ?_ (fun e0 => ?_); (focus omega); subst e0)
              exact OK.roq (ih _ _ _ _ _ _ hI (by omega)) (fun v hv => by first | trivial | omega | exact hI.flds _ | exact hI.dflds _ | exact hI.recs _ | exact hI.drecs _ | exact hI.droot _ | omega)
            · skip
              unfold f_X0_chosenWithin_77
              try dsimp only
              unfold f_X0_chosenWithin_79
              try dsimp only
              refine OK.bndR (k_X5_branchAfter_4 _ _ hI ) (fun v19 h20 => ?_)
              dsimp only
              obtain ⟨a21k, a21, a21l, a21r⟩ := i_add x6 1
              try (refine k0el (k := a21k) ?_ (fun e0 => ?_); (focus omega); subst e0)
              exact OK.roq (ih _ _ _ _ _ _ hI (by omega)) (fun v hv => by first | trivial | omega | exact hI.flds _ | exact hI.dflds _ | exact hI.recs _ | exact hI.drecs _ | exact hI.droot _ | omega)

theorem k_X0_chosenWithin {N0 : Nat} {r_X0_chosenWithin : Int32 → Int32 → Int32 → ST → Option (Int32 × ST)} (hr_X0_chosenWithin : ∀ (p0 : Int32) (p1 : Int32) (p2 : Int32) (σ : ST), IA σ → 0 ≤ p2.toInt ∧ p2.toInt ≤ 11 ∧ (13 : Int) ≤ (N0 : Nat) + p2.toInt → OK (r_X0_chosenWithin p0 p1 p2 σ) (RO σ fun v => True)) {r_X0_fitsWithin : Int32 → Int32 → Int32 → ST → Option (Int32 × ST)} (hr_X0_fitsWithin : ∀ (p0 : Int32) (p1 : Int32) (p2 : Int32) (σ : ST), IA σ → 0 ≤ p2.toInt ∧ p2.toInt ≤ 12 ∧ (13 : Int) ≤ (N0 : Nat) + p2.toInt → OK (r_X0_fitsWithin p0 p1 p2 σ) (RO σ fun v => v.toInt = 0 ∨ v.toInt = 1)) (p0 : Int32) (p1 : Int32) (p2 : Int32) (σ : ST) (hI : IA σ) (hv : 0 ≤ p2.toInt ∧ p2.toInt ≤ 11 ∧ (13 : Int) ≤ (N0 + 1 : Nat) + p2.toInt)  : OK (f_X0_chosenWithin r_X0_chosenWithin r_X0_fitsWithin  p0 p1 p2 σ) (RO σ fun v => True) := by
  unfold f_X0_chosenWithin
  have lt_m1 := li_m1
  have lt_0 := li_0
  have lt_1 := li_1
  have lFU : ((FU : Nat) : Int) = 100000 := rfl
  have lFR : ((FR : Nat) : Int) = 160 := rfl
  refine OK.bndR (k_X5_innerOf_4 _ _ hI ) (fun v1 h2 => ?_)
  dsimp only
  exact OK.roq (k_X0_chosenWithin_16 hr_X0_chosenWithin hr_X0_fitsWithin FU _ _ _ _ _ _ hI (by omega)) (fun v hv => by first | trivial | omega | exact hI.flds _ | exact hI.dflds _ | exact hI.recs _ | exact hI.drecs _ | exact hI.droot _ | omega)

theorem k_X0_fitsWithin_48 {N0 : Nat} {r_X0_chosenWithin : Int32 → Int32 → Int32 → ST → Option (Int32 × ST)} (hr_X0_chosenWithin : ∀ (p0 : Int32) (p1 : Int32) (p2 : Int32) (σ : ST), IA σ → 0 ≤ p2.toInt ∧ p2.toInt ≤ 11 ∧ (13 : Int) ≤ (N0 : Nat) + p2.toInt → OK (r_X0_chosenWithin p0 p1 p2 σ) (RO σ fun v => True)) {r_X0_fitsWithin : Int32 → Int32 → Int32 → ST → Option (Int32 × ST)} (hr_X0_fitsWithin : ∀ (p0 : Int32) (p1 : Int32) (p2 : Int32) (σ : ST), IA σ → 0 ≤ p2.toInt ∧ p2.toInt ≤ 12 ∧ (13 : Int) ≤ (N0 : Nat) + p2.toInt → OK (r_X0_fitsWithin p0 p1 p2 σ) (RO σ fun v => v.toInt = 0 ∨ v.toInt = 1)) : ∀ (n : Nat) (x2 : Int32) (x3 : Int32) (x6 : Int32) (x7 : Int32) (σ : ST), IA σ → ((0 ≤ x3.toInt ∧ x3.toInt ≤ 10 ∧ (13 : Int) ≤ (N0 + 1 : Nat) + x3.toInt) ∧ 0 ≤ x7.toInt ∧ x7.toInt ≤ 4 ∧ (4 : Int) - x7.toInt < n) → OK (f_X0_fitsWithin_48 r_X0_chosenWithin r_X0_fitsWithin  n x2 x3 x6 x7 σ) (RO σ fun v => v.toInt = 0 ∨ v.toInt = 1) := by
  intro n
  induction n with
  | zero =>
    intro x2 x3 x6 x7 σ hI hv
    omega
  | succ n ih =>
    intro x2 x3 x6 x7 σ hI hv
    rw [f_X0_fitsWithin_48]
    have lt_m1 := li_m1
    have lt_0 := li_0
    have lt_1 := li_1
    have lt_4 := li_4
    have lFU : ((FU : Nat) : Int) = 100000 := rfl
    have lFR : ((FR : Nat) : Int) = 160 := rfl
    refine OK.ile (fun h1 => ?_) (fun h1 => ?_)
    · skip
      exact OK.roret (by first | trivial | omega | exact hI.flds _ | exact hI.dflds _ | exact hI.recs _ | exact hI.drecs _ | exact hI.droot _ | omega)
    · skip
      refine OK.ieq (fun h2 => ?_) (fun h2 => ?_)
      · skip
        exact OK.roret (by first | trivial | omega | exact hI.flds _ | exact hI.dflds _ | exact hI.recs _ | exact hI.drecs _ | exact hI.droot _ | omega)
      · skip
        obtain ⟨a3k, a3, a3l, a3r⟩ := i_add x3 1
        try (refine k0el (k := a3k) ?_ (fun e0 => ?_); (focus omega); subst e0)
        refine OK.bndR (hr_X0_fitsWithin _ _ _ _ hI (by omega)) (fun v4 h5 => ?_)
        dsimp only
        refine OK.ieq (fun h6 => ?_) (fun h6 => ?_)
        · skip
          refine OK.bndR (k_X5_branchAfter_4 _ _ hI ) (fun v7 h8 => ?_)
          dsimp only
          obtain ⟨a9k, a9, a9l, a9r⟩ := i_add x7 1
          try (refine k0el (k := a9k) ?_ (fun e0 => ?_); (focus omega); subst e0)
          exact OK.roq (ih _ _ _ _ _ hI (by omega)) (fun v hv => by first | trivial | omega | exact hI.flds _ | exact hI.dflds _ | exact hI.recs _ | exact hI.drecs _ | exact hI.droot _ | omega)
        · skip
          exact OK.roret (by first | trivial | omega | exact hI.flds _ | exact hI.dflds _ | exact hI.recs _ | exact hI.drecs _ | exact hI.droot _ | omega)

theorem k_X0_fitsWithin {N0 : Nat} {r_X0_chosenWithin : Int32 → Int32 → Int32 → ST → Option (Int32 × ST)} (hr_X0_chosenWithin : ∀ (p0 : Int32) (p1 : Int32) (p2 : Int32) (σ : ST), IA σ → 0 ≤ p2.toInt ∧ p2.toInt ≤ 11 ∧ (13 : Int) ≤ (N0 : Nat) + p2.toInt → OK (r_X0_chosenWithin p0 p1 p2 σ) (RO σ fun v => True)) {r_X0_fitsWithin : Int32 → Int32 → Int32 → ST → Option (Int32 × ST)} (hr_X0_fitsWithin : ∀ (p0 : Int32) (p1 : Int32) (p2 : Int32) (σ : ST), IA σ → 0 ≤ p2.toInt ∧ p2.toInt ≤ 12 ∧ (13 : Int) ≤ (N0 : Nat) + p2.toInt → OK (r_X0_fitsWithin p0 p1 p2 σ) (RO σ fun v => v.toInt = 0 ∨ v.toInt = 1)) (p0 : Int32) (p1 : Int32) (p2 : Int32) (σ : ST) (hI : IA σ) (hv : 0 ≤ p2.toInt ∧ p2.toInt ≤ 12 ∧ (13 : Int) ≤ (N0 + 1 : Nat) + p2.toInt)  : OK (f_X0_fitsWithin r_X0_chosenWithin r_X0_fitsWithin  p0 p1 p2 σ) (RO σ fun v => v.toInt = 0 ∨ v.toInt = 1) := by
  unfold f_X0_fitsWithin
  have lt_m1 := li_m1
  have lt_0 := li_0
  have lt_1 := li_1
  have lt_6 := li_6
  have lt_7 := li_7
  have lt_8 := li_8
  have lt_10 := li_10
  have lFU : ((FU : Nat) : Int) = 100000 := rfl
  have lFR : ((FR : Nat) : Int) = 160 := rfl
  refine OK.ile (fun h1 => ?_) (fun h1 => ?_)
  · skip
    refine OK.bndR (k_X5_sortOf_4 _ _ hI ) (fun v2 h3 => ?_)
    dsimp only
    refine OK.bndR (k_X5_sortOf_4 _ _ hI ) (fun v4 h5 => ?_)
    dsimp only
    refine OK.ieq (fun h6 => ?_) (fun h6 => ?_)
    · skip
      refine OK.bndR (k_X5_innerOf_4 _ _ hI ) (fun v7 h8 => ?_)
      dsimp only
      exact OK.roq (k_X0_fitsWithin_48 hr_X0_chosenWithin hr_X0_fitsWithin FU _ _ _ _ _ hI (by omega)) (fun v hv => by first | trivial | omega | exact hI.flds _ | exact hI.dflds _ | exact hI.recs _ | exact hI.drecs _ | exact hI.droot _ | omega)
    · skip
      refine OK.ieq (fun h9 => ?_) (fun h9 => ?_)
      · skip
        obtain ⟨a10k, a10, a10l, a10r⟩ := i_add p2 1
        try (refine k0el (k := a10k) ?_ (fun e0 => ?_); (focus omega); subst e0)
        refine OK.bndR (hr_X0_chosenWithin _ _ _ _ hI (by omega)) (fun v11 h12 => ?_)
        dsimp only
        refine OK.ieq (fun h13 => ?_) (fun h13 => ?_)
        · skip
          exact OK.roret (by first | trivial | omega | exact hI.flds _ | exact hI.dflds _ | exact hI.recs _ | exact hI.drecs _ | exact hI.droot _ | omega)
        · skip
          exact OK.roret (by first | trivial | omega | exact hI.flds _ | exact hI.dflds _ | exact hI.recs _ | exact hI.drecs _ | exact hI.droot _ | omega)
      · skip
        refine OK.ieq (fun h14 => ?_) (fun h14 => ?_)
        · skip
          refine OK.ieq (fun h15 => ?_) (fun h15 => ?_)
          · skip
            refine OK.bndR (k_X5_innerOf_4 _ _ hI ) (fun v16 h17 => ?_)
            dsimp only
            refine OK.bndR (k_X5_innerOf_4 _ _ hI ) (fun v18 h19 => ?_)
            dsimp only
            obtain ⟨a20k, a20, a20l, a20r⟩ := i_add p2 1
            try (refine k0el (k := a20k) ?_ (fun e0 => ?_); (focus omega); subst e0)
            refine OK.bndR (hr_X0_fitsWithin _ _ _ _ hI (by omega)) (fun v21 h22 => ?_)
            dsimp only
            refine OK.grd (b01 (by omega)) ?_
            exact OK.roret (by first | trivial | omega | exact hI.flds _ | exact hI.dflds _ | exact hI.recs _ | exact hI.drecs _ | exact hI.droot _ | omega)
          · skip
            unfold f_X0_fitsWithin_158
            try dsimp only
            refine OK.ieq (fun h23 => ?_) (fun h23 => ?_)
            · skip
              refine OK.ieq (fun h24 => ?_) (fun h24 => ?_)
              · skip
                refine OK.bndR (k_X5_innerOf_4 _ _ hI ) (fun v25 h26 => ?_)
                dsimp only
                refine OK.bndR (k_X5_innerOf_4 _ _ hI ) (fun v27 h28 => ?_)
                dsimp only
                refine OK.bndR (k_X0_bitOf _ _ _ hI ) (fun v29 h30 => ?_)
                dsimp only
                refine OK.ieq (fun h31 => ?_) (fun h31 => ?_)
                · skip
                  exact OK.roret (by first | trivial | omega | exact hI.flds _ | exact hI.dflds _ | exact hI.recs _ | exact hI.drecs _ | exact hI.droot _ | omega)
                · skip
                  exact OK.roret (by first | trivial | omega | exact hI.flds _ | exact hI.dflds _ | exact hI.recs _ | exact hI.drecs _ | exact hI.droot _ | omega)
              · skip
                unfold f_X0_fitsWithin_207
                try dsimp only
                refine OK.bndR (k_X0_plainFits _ _ _ hI ) (fun v32 h33 => ?_)
                dsimp only
                refine OK.grd (b01 (by omega)) ?_
                exact OK.roret (by first | trivial | omega | exact hI.flds _ | exact hI.dflds _ | exact hI.recs _ | exact hI.drecs _ | exact hI.droot _ | omega)
            · skip
              unfold f_X0_fitsWithin_207
              try dsimp only
              refine OK.bndR (k_X0_plainFits _ _ _ hI ) (fun v34 h35 => ?_)
              dsimp only
              refine OK.grd (b01 (by omega)) ?_
              exact OK.roret (by first | trivial | omega | exact hI.flds _ | exact hI.dflds _ | exact hI.recs _ | exact hI.drecs _ | exact hI.droot _ | omega)
        · skip
          unfold f_X0_fitsWithin_158
          try dsimp only
          refine OK.ieq (fun h36 => ?_) (fun h36 => ?_)
          · skip
            refine OK.ieq (fun h37 => ?_) (fun h37 => ?_)
            · skip
              refine OK.bndR (k_X5_innerOf_4 _ _ hI ) (fun v38 h39 => ?_)
              dsimp only
              refine OK.bndR (k_X5_innerOf_4 _ _ hI ) (fun v40 h41 => ?_)
              dsimp only
              refine OK.bndR (k_X0_bitOf _ _ _ hI ) (fun v42 h43 => ?_)
              dsimp only
              refine OK.ieq (fun h44 => ?_) (fun h44 => ?_)
              · skip
                exact OK.roret (by first | trivial | omega | exact hI.flds _ | exact hI.dflds _ | exact hI.recs _ | exact hI.drecs _ | exact hI.droot _ | omega)
              · skip
                exact OK.roret (by first | trivial | omega | exact hI.flds _ | exact hI.dflds _ | exact hI.recs _ | exact hI.drecs _ | exact hI.droot _ | omega)
            · skip
              unfold f_X0_fitsWithin_207
              try dsimp only
              refine OK.bndR (k_X0_plainFits _ _ _ hI ) (fun v45 h46 => ?_)
              dsimp only
              refine OK.grd (b01 (by omega)) ?_
              exact OK.roret (by first | trivial | omega | exact hI.flds _ | exact hI.dflds _ | exact hI.recs _ | exact hI.drecs _ | exact hI.droot _ | omega)
          · skip
            unfold f_X0_fitsWithin_207
            try dsimp only
            refine OK.bndR (k_X0_plainFits _ _ _ hI ) (fun v47 h48 => ?_)
            dsimp only
            refine OK.grd (b01 (by omega)) ?_
            exact OK.roret (by first | trivial | omega | exact hI.flds _ | exact hI.dflds _ | exact hI.recs _ | exact hI.drecs _ | exact hI.droot _ | omega)
  · skip
    exact OK.roret (by first | trivial | omega | exact hI.flds _ | exact hI.dflds _ | exact hI.recs _ | exact hI.drecs _ | exact hI.droot _ | omega)

theorem kR_X0_chosenWithin : ∀ n : Nat, (∀ (p0 : Int32) (p1 : Int32) (p2 : Int32) (σ : ST), IA σ → 0 ≤ p2.toInt ∧ p2.toInt ≤ 11 ∧ (13 : Int) ≤ (n : Nat) + p2.toInt → OK ((R_X0_chosenWithin n).1 p0 p1 p2 σ) (RO σ fun v => True)) ∧ (∀ (p0 : Int32) (p1 : Int32) (p2 : Int32) (σ : ST), IA σ → 0 ≤ p2.toInt ∧ p2.toInt ≤ 12 ∧ (13 : Int) ≤ (n : Nat) + p2.toInt → OK ((R_X0_chosenWithin n).2 p0 p1 p2 σ) (RO σ fun v => v.toInt = 0 ∨ v.toInt = 1)) := by
  intro n
  induction n with
  | zero =>
    refine ⟨?_, ?_⟩
    · intro p0 p1 p2 σ hI hv; omega
    · intro p0 p1 p2 σ hI hv; omega
  | succ n ih =>
    obtain ⟨ih0, ih1⟩ := ih
    refine ⟨?_, ?_⟩
    · intro p0 p1 p2 σ hI hv; exact k_X0_chosenWithin (N0 := n) ih0 ih1 p0 p1 p2 σ hI (by omega)
    · intro p0 p1 p2 σ hI hv; exact k_X0_fitsWithin (N0 := n) ih0 ih1 p0 p1 p2 σ hI (by omega)
theorem kT_X0_chosenWithin (p0 : Int32) (p1 : Int32) (p2 : Int32) (σ : ST) (hI : IA σ) (hv : 0 ≤ p2.toInt ∧ p2.toInt ≤ 11 ∧ (13 : Int) ≤ (FR : Nat) + p2.toInt) : OK (f_T_X0_chosenWithin p0 p1 p2 σ) (RO σ fun v => True) := (kR_X0_chosenWithin FR).1 p0 p1 p2 σ hI hv
theorem kT_X0_fitsWithin (p0 : Int32) (p1 : Int32) (p2 : Int32) (σ : ST) (hI : IA σ) (hv : 0 ≤ p2.toInt ∧ p2.toInt ≤ 12 ∧ (13 : Int) ≤ (FR : Nat) + p2.toInt) : OK (f_T_X0_fitsWithin p0 p1 p2 σ) (RO σ fun v => v.toInt = 0 ∨ v.toInt = 1) := (kR_X0_chosenWithin FR).2 p0 p1 p2 σ hI hv

theorem k_X0_chosen (p0 : Int32) (p1 : Int32) (σ : ST) (hI : IA σ)  : OK (f_X0_chosen  p0 p1 σ) (RO σ fun v => True) := by
  unfold f_X0_chosen
  have lt_0 := li_0
  have lt_1 := li_1
  have lFU : ((FU : Nat) : Int) = 100000 := rfl
  have lFR : ((FR : Nat) : Int) = 160 := rfl
  refine OK.bndR (kT_X0_chosenWithin _ _ _ _ hI (by omega)) (fun v1 h2 => ?_)
  dsimp only
  exact OK.roret (by first | trivial | omega | exact hI.flds _ | exact hI.dflds _ | exact hI.recs _ | exact hI.drecs _ | exact hI.droot _ | omega)

theorem k_X0_clear (σ : ST) (hI : IA σ)  : OK (f_X0_clear  σ) (RS σ) := by
  unfold f_X0_clear
  have lt_m1 := li_m1
  have lt_0 := li_0
  have lt_1 := li_1
  have lFU : ((FU : Nat) : Int) = 100000 := rfl
  refine OK.bndS (k_J7_fill_53178_43 _ _ (ia_L hI) ) (fr_L Fr.rf) (fun s1 is1 fs1 => ?_)
  try dsimp only
  exact OK.sret (ia_I_41 (ia_I_41 is1)) (fr_I_41 (fr_I_41 fs1))

theorem k_X0_pairOf (p0 : Int32) (p1 : Int32) (σ : ST) (hI : IA σ)  : OK (f_X0_pairOf  p0 p1 σ) (RO σ fun v => 0 ≤ v.toInt ∧ v.toInt < 36) := by
  unfold f_X0_pairOf
  have lt_0 := li_0
  have lt_1 := li_1
  have lt_6 := li_6
  have lFU : ((FU : Nat) : Int) = 100000 := rfl
  refine OK.ilt (fun h1 => ?_) (fun h1 => ?_)
  · skip
    exact OK.roret (by first | trivial | omega | exact hI.flds _ | exact hI.dflds _ | exact hI.recs _ | exact hI.drecs _ | exact hI.droot _ | omega)
  · skip
    refine OK.ile (fun h2 => ?_) (fun h2 => ?_)
    · skip
      exact OK.roret (by first | trivial | omega | exact hI.flds _ | exact hI.dflds _ | exact hI.recs _ | exact hI.drecs _ | exact hI.droot _ | omega)
    · skip
      refine OK.ilt (fun h3 => ?_) (fun h3 => ?_)
      · skip
        exact OK.roret (by first | trivial | omega | exact hI.flds _ | exact hI.dflds _ | exact hI.recs _ | exact hI.drecs _ | exact hI.droot _ | omega)
      · skip
        refine OK.ile (fun h4 => ?_) (fun h4 => ?_)
        · skip
          exact OK.roret (by first | trivial | omega | exact hI.flds _ | exact hI.dflds _ | exact hI.recs _ | exact hI.drecs _ | exact hI.droot _ | omega)
        · skip
          obtain ⟨a5k, a5, a5l, a5r⟩ := i_mul p0 6
          rw [li_6] at a5
          try (refine k0el (k := a5k) ?_ (fun e0 => ?_); (focus omega); subst e0)
          obtain ⟨a6k, a6, a6l, a6r⟩ := i_add (p0 * 6) p1
          try (refine k0el (k := a6k) ?_ (fun e0 => ?_); (focus omega); subst e0)
          exact OK.roret (by first | trivial | omega | exact hI.flds _ | exact hI.dflds _ | exact hI.recs _ | exact hI.drecs _ | exact hI.droot _ | omega)

theorem k_X0_fits (p0 : Int32) (p1 : Int32) (σ : ST) (hI : IA σ)  : OK (f_X0_fits  p0 p1 σ) (RO σ fun v => v.toInt = 0 ∨ v.toInt = 1) := by
  unfold f_X0_fits
  have lt_0 := li_0
  have lt_1 := li_1
  have lFU : ((FU : Nat) : Int) = 100000 := rfl
  have lFR : ((FR : Nat) : Int) = 160 := rfl
  refine OK.bndR (kT_X0_fitsWithin _ _ _ _ hI (by omega)) (fun v1 h2 => ?_)
  dsimp only
  refine OK.grd (b01 (by omega)) ?_
  exact OK.roret (by first | trivial | omega | exact hI.flds _ | exact hI.dflds _ | exact hI.recs _ | exact hI.drecs _ | exact hI.droot _ | omega)

theorem k_X5_isRecord (p0 : Int32) (σ : ST) (hI : IA σ)  : OK (f_X5_isRecord  p0 σ) (RO σ fun v => v.toInt = 0 ∧ (p0.toInt < 0 ∨ 36 ≤ p0.toInt) ∨ v.toInt = 1 ∧ 0 ≤ p0.toInt ∧ p0.toInt < 36) := by
  unfold f_X5_isRecord
  have lt_0 := li_0
  have lt_1 := li_1
  have lt_36 := li_36
  have lFU : ((FU : Nat) : Int) = 100000 := rfl
  refine OK.ilt (fun h1 => ?_) (fun h1 => ?_)
  · skip
    exact OK.roret (by first | trivial | omega | exact hI.flds _ | exact hI.dflds _ | exact hI.recs _ | exact hI.drecs _ | exact hI.droot _ | omega)
  · skip
    refine OK.ile (fun h2 => ?_) (fun h2 => ?_)
    · skip
      exact OK.roret (by first | trivial | omega | exact hI.flds _ | exact hI.dflds _ | exact hI.recs _ | exact hI.drecs _ | exact hI.droot _ | omega)
    · skip
      exact OK.roret (by first | trivial | omega | exact hI.flds _ | exact hI.dflds _ | exact hI.recs _ | exact hI.drecs _ | exact hI.droot _ | omega)

theorem k_X5_recordName_4 (p0 : Int32) (σ : ST) (hI : IA σ)  : OK (f_X5_recordName 4 p0 σ) (RO σ fun v => True) := by
  unfold f_X5_recordName
  have lt_0 := li_0
  have lt_1 := li_1
  have lFU : ((FU : Nat) : Int) = 100000 := rfl
  refine OK.bndR (k_X5_isRecord _ _ hI ) (fun v1 h2 => ?_)
  dsimp only
  refine OK.ieq (fun h3 => ?_) (fun h3 => ?_)
  · skip
    exact OK.roret (by first | trivial | omega | exact hI.flds _ | exact hI.dflds _ | exact hI.recs _ | exact hI.drecs _ | exact hI.droot _ | omega)
  · skip
    refine OK.grd ⟨by omega, by omega⟩ ?_
    exact OK.roret (by first | trivial | omega | exact hI.flds _ | exact hI.dflds _ | exact hI.recs _ | exact hI.drecs _ | exact hI.droot _ | omega)

theorem k_X5_recordName_20 (p0 : Int32) (σ : ST) (hI : IA σ)  : OK (f_X5_recordName 20 p0 σ) (RO σ fun v => True) := by
  unfold f_X5_recordName
  have lt_0 := li_0
  have lt_1 := li_1
  have lFU : ((FU : Nat) : Int) = 100000 := rfl
  refine OK.bndR (k_X5_isRecord _ _ hI ) (fun v1 h2 => ?_)
  dsimp only
  refine OK.ieq (fun h3 => ?_) (fun h3 => ?_)
  · skip
    exact OK.roret (by first | trivial | omega | exact hI.flds _ | exact hI.dflds _ | exact hI.recs _ | exact hI.drecs _ | exact hI.droot _ | omega)
  · skip
    refine OK.grd ⟨by omega, by omega⟩ ?_
    exact OK.roret (by first | trivial | omega | exact hI.flds _ | exact hI.dflds _ | exact hI.recs _ | exact hI.drecs _ | exact hI.droot _ | omega)

theorem k_X0_mayPair_38 (σ : ST) (hI : IA σ)  : OK (f_X0_mayPair_38  σ) (RO σ fun v => v.toInt = 0 ∨ v.toInt = 1) := by
  unfold f_X0_mayPair_38
  have lt_0 := li_0
  have lt_1 := li_1
  have lFU : ((FU : Nat) : Int) = 100000 := rfl
  exact OK.roret (by first | trivial | omega | exact hI.flds _ | exact hI.dflds _ | exact hI.recs _ | exact hI.drecs _ | exact hI.droot _ | omega)

theorem k_X0_mayPair_18 (x1 : Int32) (x2 : Int32) (σ : ST) (hI : IA σ)  : OK (f_X0_mayPair_18  x1 x2 σ) (RO σ fun v => v.toInt = 0 ∨ v.toInt = 1) := by
  unfold f_X0_mayPair_18
  have lt_0 := li_0
  have lt_1 := li_1
  have lFU : ((FU : Nat) : Int) = 100000 := rfl
  refine OK.bndR (k_X5_recordName_4 _ _ hI ) (fun v1 h2 => ?_)
  dsimp only
  refine OK.bndR (k_X5_recordName_4 _ _ hI ) (fun v3 h4 => ?_)
  dsimp only
  refine OK.ieq (fun h5 => ?_) (fun h5 => ?_)
  · skip
    exact OK.roq (k_X0_mayPair_38 _ hI ) (fun v hv => by first | trivial | omega | exact hI.flds _ | exact hI.dflds _ | exact hI.recs _ | exact hI.drecs _ | exact hI.droot _ | omega)
  · skip
    exact OK.roret (by first | trivial | omega | exact hI.flds _ | exact hI.dflds _ | exact hI.recs _ | exact hI.drecs _ | exact hI.droot _ | omega)

theorem k_X0_mayPair (p0 : Int32) (p1 : Int32) (σ : ST) (hI : IA σ)  : OK (f_X0_mayPair  p0 p1 σ) (RO σ fun v => v.toInt = 0 ∨ v.toInt = 1) := by
  unfold f_X0_mayPair
  have lt_0 := li_0
  have lt_1 := li_1
  have lt_6 := li_6
  have lFU : ((FU : Nat) : Int) = 100000 := rfl
  refine OK.bndR (k_J9_floorMod_7cf53 _ _ _ hI (by decide)) (fun v1 h2 => ?_)
  dsimp only
  refine OK.ieq (fun h3 => ?_) (fun h3 => ?_)
  · skip
    refine OK.bndR (k_J9_floorMod_7cf53 _ _ _ hI (by decide)) (fun v4 h5 => ?_)
    dsimp only
    refine OK.ieq (fun h6 => ?_) (fun h6 => ?_)
    · skip
      exact OK.roq (k_X0_mayPair_38 _ hI ) (fun v hv => by first | trivial | omega | exact hI.flds _ | exact hI.dflds _ | exact hI.recs _ | exact hI.drecs _ | exact hI.droot _ | omega)
    · skip
      exact OK.roq (k_X0_mayPair_18 _ _ _ hI ) (fun v hv => by first | trivial | omega | exact hI.flds _ | exact hI.dflds _ | exact hI.recs _ | exact hI.drecs _ | exact hI.droot _ | omega)
  · skip
    exact OK.roq (k_X0_mayPair_18 _ _ _ hI ) (fun v hv => by first | trivial | omega | exact hI.flds _ | exact hI.dflds _ | exact hI.recs _ | exact hI.drecs _ | exact hI.droot _ | omega)

theorem k_X0_step_26 (σ : ST) (hI : IA σ)  : OK (f_X0_step_26  σ) (RS σ) := by
  unfold f_X0_step_26
  have lt_0 := li_0
  have lt_1 := li_1
  have lFU : ((FU : Nat) : Int) = 100000 := rfl
  exact OK.sret (ia_I_41 hI) (fr_I_41 Fr.rf)

theorem k_X0_step (p0 : Int32) (σ : ST) (hI : IA σ)  : OK (f_X0_step  p0 σ) (RS σ) := by
  unfold f_X0_step
  have lt_0 := li_0
  have lt_1 := li_1
  have lt_32 := li_32
  have lFU : ((FU : Nat) : Int) = 100000 := rfl
  refine OK.ilt (fun h1 => ?_) (fun h1 => ?_)
  · skip
    exact OK.trS (k_X0_step_26 _ hI ) Fr.rf
  · skip
    refine OK.ile (fun h2 => ?_) (fun h2 => ?_)
    · skip
      exact OK.trS (k_X0_step_26 _ hI ) Fr.rf
    · skip
      refine OK.grd ⟨by omega, by omega⟩ ?_
      exact OK.trS (k_X0_step_26 _ (ia_I_47 hI) ) (fr_I_47 Fr.rf)

theorem k_X5_fieldsOf_4 (p0 : Int32) (σ : ST) (hI : IA σ) : OK (f_X5_fieldsOf 4 p0 σ) (RO σ fun v => (0 ≤ v.toInt ∧ v.toInt ≤ 8) ∧ (p0.toInt < 0 ∨ 36 ≤ p0.toInt ∨ v.toInt = (σ.1 (4 + 3) p0.toNatClampNeg).toInt)) := by
  unfold f_X5_fieldsOf
  have lt_0 := li_0
  refine OK.bndR (k_X5_isRecord _ _ hI) (fun v h1 => ?_)
  dsimp only
  refine OK.ieq (fun h => OK.roret (by omega)) (fun h => ?_)
  refine OK.grd ⟨by omega, by omega⟩ ?_
  exact OK.roret ⟨hI.flds _, .inr (.inr rfl)⟩


theorem k_X5_fieldsOf_20 (p0 : Int32) (σ : ST) (hI : IA σ) : OK (f_X5_fieldsOf 20 p0 σ) (RO σ fun v => (0 ≤ v.toInt ∧ v.toInt ≤ 8) ∧ (p0.toInt < 0 ∨ 36 ≤ p0.toInt ∨ v.toInt = (σ.1 (20 + 3) p0.toNatClampNeg).toInt)) := by
  unfold f_X5_fieldsOf
  have lt_0 := li_0
  refine OK.bndR (k_X5_isRecord _ _ hI) (fun v h1 => ?_)
  dsimp only
  refine OK.ieq (fun h => OK.roret (by omega)) (fun h => ?_)
  refine OK.grd ⟨by omega, by omega⟩ ?_
  exact OK.roret ⟨hI.dflds _, .inr (.inr rfl)⟩


theorem k_X5_isFieldOf (p0 : Int32) (p1 : Int32) (σ : ST) (hI : IA σ)  : OK (f_X5_isFieldOf  p0 p1 σ) (RO σ fun v => v.toInt = 0 ∨ v.toInt = 1 ∧ 0 ≤ p0.toInt ∧ p0.toInt < 36 ∧ 0 ≤ p1.toInt ∧ p1.toInt < 8) := by
  unfold f_X5_isFieldOf
  have lt_0 := li_0
  have lt_1 := li_1
  have lt_8 := li_8
  have lt_36 := li_36
  have lFU : ((FU : Nat) : Int) = 100000 := rfl
  refine OK.ilt (fun h1 => ?_) (fun h1 => ?_)
  · skip
    exact OK.roret (by first | trivial | omega | exact hI.flds _ | exact hI.dflds _ | exact hI.recs _ | exact hI.drecs _ | exact hI.droot _ | omega)
  · skip
    refine OK.ile (fun h2 => ?_) (fun h2 => ?_)
    · skip
      exact OK.roret (by first | trivial | omega | exact hI.flds _ | exact hI.dflds _ | exact hI.recs _ | exact hI.drecs _ | exact hI.droot _ | omega)
    · skip
      refine OK.ilt (fun h3 => ?_) (fun h3 => ?_)
      · skip
        exact OK.roret (by first | trivial | omega | exact hI.flds _ | exact hI.dflds _ | exact hI.recs _ | exact hI.drecs _ | exact hI.droot _ | omega)
      · skip
        refine OK.ile (fun h4 => ?_) (fun h4 => ?_)
        · skip
          exact OK.roret (by first | trivial | omega | exact hI.flds _ | exact hI.dflds _ | exact hI.recs _ | exact hI.drecs _ | exact hI.droot _ | omega)
        · skip
          exact OK.roret (by first | trivial | omega | exact hI.flds _ | exact hI.dflds _ | exact hI.recs _ | exact hI.drecs _ | exact hI.droot _ | omega)

theorem k_X5_hasElse_4 (p0 : Int32) (p1 : Int32) (σ : ST) (hI : IA σ)  : OK (f_X5_hasElse 4 p0 p1 σ) (RO σ fun v => v.toInt = 0 ∨ v.toInt = 1) := by
  unfold f_X5_hasElse
  have lt_0 := li_0
  have lt_1 := li_1
  have lt_31 := li_31
  have lFU : ((FU : Nat) : Int) = 100000 := rfl
  refine OK.bndR (k_X5_isFieldOf _ _ _ hI ) (fun v1 h2 => ?_)
  dsimp only
  refine OK.ieq (fun h3 => ?_) (fun h3 => ?_)
  · skip
    exact OK.roret (by first | trivial | omega | exact hI.flds _ | exact hI.dflds _ | exact hI.recs _ | exact hI.drecs _ | exact hI.droot _ | omega)
  · skip
    refine OK.grd ⟨by omega, by omega⟩ ?_
    refine OK.ieq (fun h4 => ?_) (fun h4 => ?_)
    · skip
      exact OK.roret (by first | trivial | omega | exact hI.flds _ | exact hI.dflds _ | exact hI.recs _ | exact hI.drecs _ | exact hI.droot _ | omega)
    · skip
      exact OK.roret (by first | trivial | omega | exact hI.flds _ | exact hI.dflds _ | exact hI.recs _ | exact hI.drecs _ | exact hI.droot _ | omega)

theorem k_X5_fieldName_4 (p0 : Int32) (p1 : Int32) (σ : ST) (hI : IA σ)  : OK (f_X5_fieldName 4 p0 p1 σ) (RO σ fun v => True) := by
  unfold f_X5_fieldName
  have lt_0 := li_0
  have lt_1 := li_1
  have lt_8 := li_8
  have lFU : ((FU : Nat) : Int) = 100000 := rfl
  refine OK.bndR (k_X5_isFieldOf _ _ _ hI ) (fun v1 h2 => ?_)
  dsimp only
  refine OK.ieq (fun h3 => ?_) (fun h3 => ?_)
  · skip
    exact OK.roret (by first | trivial | omega | exact hI.flds _ | exact hI.dflds _ | exact hI.recs _ | exact hI.drecs _ | exact hI.droot _ | omega)
  · skip
    obtain ⟨a4k, a4, a4l, a4r⟩ := i_mul p0 8
    rw [li_8] at a4
    try (refine k0el (k := a4k) ?_ (fun e0 => ?_); (focus omega); subst e0)
    obtain ⟨a5k, a5, a5l, a5r⟩ := i_add (p0 * 8) p1
    try (refine k0el (k := a5k) ?_ (fun e0 => ?_); (focus omega); subst e0)
    refine OK.grd ⟨by omega, by omega⟩ ?_
    exact OK.roret (by first | trivial | omega | exact hI.flds _ | exact hI.dflds _ | exact hI.recs _ | exact hI.drecs _ | exact hI.droot _ | omega)

theorem k_X5_fieldName_20 (p0 : Int32) (p1 : Int32) (σ : ST) (hI : IA σ)  : OK (f_X5_fieldName 20 p0 p1 σ) (RO σ fun v => True) := by
  unfold f_X5_fieldName
  have lt_0 := li_0
  have lt_1 := li_1
  have lt_8 := li_8
  have lFU : ((FU : Nat) : Int) = 100000 := rfl
  refine OK.bndR (k_X5_isFieldOf _ _ _ hI ) (fun v1 h2 => ?_)
  dsimp only
  refine OK.ieq (fun h3 => ?_) (fun h3 => ?_)
  · skip
    exact OK.roret (by first | trivial | omega | exact hI.flds _ | exact hI.dflds _ | exact hI.recs _ | exact hI.drecs _ | exact hI.droot _ | omega)
  · skip
    obtain ⟨a4k, a4, a4l, a4r⟩ := i_mul p0 8
    rw [li_8] at a4
    try (refine k0el (k := a4k) ?_ (fun e0 => ?_); (focus omega); subst e0)
    obtain ⟨a5k, a5, a5l, a5r⟩ := i_add (p0 * 8) p1
    try (refine k0el (k := a5k) ?_ (fun e0 => ?_); (focus omega); subst e0)
    refine OK.grd ⟨by omega, by omega⟩ ?_
    exact OK.roret (by first | trivial | omega | exact hI.flds _ | exact hI.dflds _ | exact hI.recs _ | exact hI.drecs _ | exact hI.droot _ | omega)

theorem k_X5_fieldNamed_29_4 : ∀ (n : Nat) (x2 : Int64) (x4 : Int32) (x5 : Int32) (x6 : Int32) (σ : ST), IA σ → (0 ≤ x6.toInt ∧ x6.toInt ≤ 8 ∧ (x5.toInt ≤ 0 ∨ 0 ≤ x4.toInt ∧ x4.toInt ≤ 280) ∧ (8 : Int) - x6.toInt < n) → OK (f_X5_fieldNamed_29 4 n x2 x4 x5 x6 σ) (RO σ fun v => True) := by
  intro n
  induction n with
  | zero =>
    intro x2 x4 x5 x6 σ hI hv
    omega
  | succ n ih =>
    intro x2 x4 x5 x6 σ hI hv
    rw [f_X5_fieldNamed_29]
    have lt_m1 := li_m1
    have lt_0 := li_0
    have lt_1 := li_1
    have lt_8 := li_8
    have lFU : ((FU : Nat) : Int) = 100000 := rfl
    refine OK.ile (fun h1 => ?_) (fun h1 => ?_)
    · skip
      exact OK.roret (by first | trivial | omega | exact hI.flds _ | exact hI.dflds _ | exact hI.recs _ | exact hI.drecs _ | exact hI.droot _ | omega)
    · skip
      refine OK.ile (fun h2 => ?_) (fun h2 => ?_)
      · skip
        exact OK.roret (by first | trivial | omega | exact hI.flds _ | exact hI.dflds _ | exact hI.recs _ | exact hI.drecs _ | exact hI.droot _ | omega)
      · skip
        obtain ⟨a3k, a3, a3l, a3r⟩ := i_add x4 x6
        try (refine k0el (k := a3k) ?_ (fun e0 => ?_); (focus omega); subst e0)
        refine OK.grd ⟨by omega, by omega⟩ ?_
        refine OK.ieq (fun h4 => ?_) (fun h4 => ?_)
        · skip
          exact OK.roret (by first | trivial | omega | exact hI.flds _ | exact hI.dflds _ | exact hI.recs _ | exact hI.drecs _ | exact hI.droot _ | omega)
        · skip
          obtain ⟨a5k, a5, a5l, a5r⟩ := i_add x6 1
          try (refine k0el (k := a5k) ?_ (fun e0 => ?_); (focus omega); subst e0)
          exact OK.roq (ih _ _ _ _ _ hI (by omega)) (fun v hv => by first | trivial | omega | exact hI.flds _ | exact hI.dflds _ | exact hI.recs _ | exact hI.drecs _ | exact hI.droot _ | omega)

theorem k_X5_fieldNamed_29_20 : ∀ (n : Nat) (x2 : Int64) (x4 : Int32) (x5 : Int32) (x6 : Int32) (σ : ST), IA σ → (0 ≤ x6.toInt ∧ x6.toInt ≤ 8 ∧ (x5.toInt ≤ 0 ∨ 0 ≤ x4.toInt ∧ x4.toInt ≤ 280) ∧ (8 : Int) - x6.toInt < n) → OK (f_X5_fieldNamed_29 20 n x2 x4 x5 x6 σ) (RO σ fun v => True) := by
  intro n
  induction n with
  | zero =>
    intro x2 x4 x5 x6 σ hI hv
    omega
  | succ n ih =>
    intro x2 x4 x5 x6 σ hI hv
    rw [f_X5_fieldNamed_29]
    have lt_m1 := li_m1
    have lt_0 := li_0
    have lt_1 := li_1
    have lt_8 := li_8
    have lFU : ((FU : Nat) : Int) = 100000 := rfl
    refine OK.ile (fun h1 => ?_) (fun h1 => ?_)
    · skip
      exact OK.roret (by first | trivial | omega | exact hI.flds _ | exact hI.dflds _ | exact hI.recs _ | exact hI.drecs _ | exact hI.droot _ | omega)
    · skip
      refine OK.ile (fun h2 => ?_) (fun h2 => ?_)
      · skip
        exact OK.roret (by first | trivial | omega | exact hI.flds _ | exact hI.dflds _ | exact hI.recs _ | exact hI.drecs _ | exact hI.droot _ | omega)
      · skip
        obtain ⟨a3k, a3, a3l, a3r⟩ := i_add x4 x6
        try (refine k0el (k := a3k) ?_ (fun e0 => ?_); (focus omega); subst e0)
        refine OK.grd ⟨by omega, by omega⟩ ?_
        refine OK.ieq (fun h4 => ?_) (fun h4 => ?_)
        · skip
          exact OK.roret (by first | trivial | omega | exact hI.flds _ | exact hI.dflds _ | exact hI.recs _ | exact hI.drecs _ | exact hI.droot _ | omega)
        · skip
          obtain ⟨a5k, a5, a5l, a5r⟩ := i_add x6 1
          try (refine k0el (k := a5k) ?_ (fun e0 => ?_); (focus omega); subst e0)
          exact OK.roq (ih _ _ _ _ _ hI (by omega)) (fun v hv => by first | trivial | omega | exact hI.flds _ | exact hI.dflds _ | exact hI.recs _ | exact hI.drecs _ | exact hI.droot _ | omega)

theorem k_X5_fieldNamed_24_4 (x2 : Int64) (x4 : Int32) (y0 : Int32) (σ : ST) (hI : IA σ) (hp0 : y0.toInt ≤ 0 ∨ 0 ≤ x4.toInt ∧ x4.toInt ≤ 280)  : OK (f_X5_fieldNamed_24 4 x2 x4 y0 σ) (RO σ fun v => True) := by
  unfold f_X5_fieldNamed_24
  have lt_0 := li_0
  have lt_1 := li_1
  have lFU : ((FU : Nat) : Int) = 100000 := rfl
  exact OK.roq (k_X5_fieldNamed_29_4 FU _ _ _ _ _ hI (by omega)) (fun v hv => by first | trivial | omega | exact hI.flds _ | exact hI.dflds _ | exact hI.recs _ | exact hI.drecs _ | exact hI.droot _ | omega)

theorem k_X5_fieldNamed_24_20 (x2 : Int64) (x4 : Int32) (y0 : Int32) (σ : ST) (hI : IA σ) (hp0 : y0.toInt ≤ 0 ∨ 0 ≤ x4.toInt ∧ x4.toInt ≤ 280)  : OK (f_X5_fieldNamed_24 20 x2 x4 y0 σ) (RO σ fun v => True) := by
  unfold f_X5_fieldNamed_24
  have lt_0 := li_0
  have lt_1 := li_1
  have lFU : ((FU : Nat) : Int) = 100000 := rfl
  exact OK.roq (k_X5_fieldNamed_29_20 FU _ _ _ _ _ hI (by omega)) (fun v hv => by first | trivial | omega | exact hI.flds _ | exact hI.dflds _ | exact hI.recs _ | exact hI.drecs _ | exact hI.droot _ | omega)

theorem k_X5_fieldNamed_4 (p0 : Int32) (p1 : Int64) (σ : ST) (hI : IA σ)  : OK (f_X5_fieldNamed 4 p0 p1 σ) (RO σ fun v => True) := by
  unfold f_X5_fieldNamed
  have lt_0 := li_0
  have lt_1 := li_1
  have lt_8 := li_8
  have lFU : ((FU : Nat) : Int) = 100000 := rfl
  refine OK.bndR (k_X5_isFieldOf _ _ _ hI ) (fun v1 h2 => ?_)
  dsimp only
  refine OK.ieq (fun h3 => ?_) (fun h3 => ?_)
  · skip
    obtain ⟨a4k, a4, a4l, a4r⟩ := i_mul p0 8
    rw [li_8] at a4
    try (refine k0el (k := a4k) ?_ (fun e0 => ?_); (focus omega); subst e0)
    exact OK.roq (k_X5_fieldNamed_24_4 _ _ _ _ hI (show (0 : Int32).toInt ≤ 0 ∨ 0 ≤ (p0 * 8).toInt ∧ (p0 * 8).toInt ≤ 280 from by omega)) (fun v hv => by first | trivial | omega | exact hI.flds _ | exact hI.dflds _ | exact hI.recs _ | exact hI.drecs _ | exact hI.droot _ | omega)
  · skip
    refine OK.grd ⟨by omega, by omega⟩ ?_
    obtain ⟨a5k, a5, a5l, a5r⟩ := i_mul p0 8
    rw [li_8] at a5
    try (refine k0el (k := a5k) ?_ (fun e0 => ?_); (focus omega); subst e0)
    exact OK.roq (k_X5_fieldNamed_24_4 _ _ _ _ hI (show (σ.1 (4 + 3) p0.toNatClampNeg).toInt ≤ 0 ∨ 0 ≤ (p0 * 8).toInt ∧ (p0 * 8).toInt ≤ 280 from by omega)) (fun v hv => by first | trivial | omega | exact hI.flds _ | exact hI.dflds _ | exact hI.recs _ | exact hI.drecs _ | exact hI.droot _ | omega)

theorem k_X5_fieldNamed_20 (p0 : Int32) (p1 : Int64) (σ : ST) (hI : IA σ)  : OK (f_X5_fieldNamed 20 p0 p1 σ) (RO σ fun v => True) := by
  unfold f_X5_fieldNamed
  have lt_0 := li_0
  have lt_1 := li_1
  have lt_8 := li_8
  have lFU : ((FU : Nat) : Int) = 100000 := rfl
  refine OK.bndR (k_X5_isFieldOf _ _ _ hI ) (fun v1 h2 => ?_)
  dsimp only
  refine OK.ieq (fun h3 => ?_) (fun h3 => ?_)
  · skip
    obtain ⟨a4k, a4, a4l, a4r⟩ := i_mul p0 8
    rw [li_8] at a4
    try (refine k0el (k := a4k) ?_ (fun e0 => ?_); (focus omega); subst e0)
    exact OK.roq (k_X5_fieldNamed_24_20 _ _ _ _ hI (show (0 : Int32).toInt ≤ 0 ∨ 0 ≤ (p0 * 8).toInt ∧ (p0 * 8).toInt ≤ 280 from by omega)) (fun v hv => by first | trivial | omega | exact hI.flds _ | exact hI.dflds _ | exact hI.recs _ | exact hI.drecs _ | exact hI.droot _ | omega)
  · skip
    refine OK.grd ⟨by omega, by omega⟩ ?_
    obtain ⟨a5k, a5, a5l, a5r⟩ := i_mul p0 8
    rw [li_8] at a5
    try (refine k0el (k := a5k) ?_ (fun e0 => ?_); (focus omega); subst e0)
    exact OK.roq (k_X5_fieldNamed_24_20 _ _ _ _ hI (show (σ.1 (20 + 3) p0.toNatClampNeg).toInt ≤ 0 ∨ 0 ≤ (p0 * 8).toInt ∧ (p0 * 8).toInt ≤ 280 from by omega)) (fun v hv => by first | trivial | omega | exact hI.flds _ | exact hI.dflds _ | exact hI.recs _ | exact hI.drecs _ | exact hI.droot _ | omega)

theorem k_X5_formerName_4 (p0 : Int32) (p1 : Int32) (σ : ST) (hI : IA σ)  : OK (f_X5_formerName 4 p0 p1 σ) (RO σ fun v => True) := by
  unfold f_X5_formerName
  have lt_0 := li_0
  have lt_1 := li_1
  have lt_8 := li_8
  have lFU : ((FU : Nat) : Int) = 100000 := rfl
  refine OK.bndR (k_X5_isFieldOf _ _ _ hI ) (fun v1 h2 => ?_)
  dsimp only
  refine OK.ieq (fun h3 => ?_) (fun h3 => ?_)
  · skip
    exact OK.roret (by first | trivial | omega | exact hI.flds _ | exact hI.dflds _ | exact hI.recs _ | exact hI.drecs _ | exact hI.droot _ | omega)
  · skip
    obtain ⟨a4k, a4, a4l, a4r⟩ := i_mul p0 8
    rw [li_8] at a4
    try (refine k0el (k := a4k) ?_ (fun e0 => ?_); (focus omega); subst e0)
    obtain ⟨a5k, a5, a5l, a5r⟩ := i_add (p0 * 8) p1
    try (refine k0el (k := a5k) ?_ (fun e0 => ?_); (focus omega); subst e0)
    refine OK.grd ⟨by omega, by omega⟩ ?_
    exact OK.roret (by first | trivial | omega | exact hI.flds _ | exact hI.dflds _ | exact hI.recs _ | exact hI.drecs _ | exact hI.droot _ | omega)

theorem k_X5_sourceOf_4 (p0 : Int32) (p1 : Int32) (p2 : Int32) (σ : ST) (hI : IA σ)  : OK (f_X5_sourceOf 4 p0 p1 p2 σ) (RO σ fun v => True) := by
  unfold f_X5_sourceOf
  have lt_m1 := li_m1
  have lt_0 := li_0
  have lt_1 := li_1
  have lFU : ((FU : Nat) : Int) = 100000 := rfl
  refine OK.bndR (k_X5_fieldName_4 _ _ _ hI ) (fun v1 h2 => ?_)
  dsimp only
  refine OK.bndR (k_X5_fieldNamed_4 _ _ _ hI ) (fun v3 h4 => ?_)
  dsimp only
  refine OK.bndR (k_X5_formerName_4 _ _ _ hI ) (fun v5 h6 => ?_)
  dsimp only
  refine OK.ieq (fun h7 => ?_) (fun h7 => ?_)
  · skip
    refine OK.ieq (fun h8 => ?_) (fun h8 => ?_)
    · skip
      exact OK.roret (by first | trivial | omega | exact hI.flds _ | exact hI.dflds _ | exact hI.recs _ | exact hI.drecs _ | exact hI.droot _ | omega)
    · skip
      refine OK.bndR (k_X5_fieldNamed_4 _ _ _ hI ) (fun v9 h10 => ?_)
      dsimp only
      exact OK.roret (by first | trivial | omega | exact hI.flds _ | exact hI.dflds _ | exact hI.recs _ | exact hI.drecs _ | exact hI.droot _ | omega)
  · skip
    exact OK.roret (by first | trivial | omega | exact hI.flds _ | exact hI.dflds _ | exact hI.recs _ | exact hI.drecs _ | exact hI.droot _ | omega)

theorem k_X5_typeOf_4 (p0 : Int32) (p1 : Int32) (σ : ST) (hI : IA σ)  : OK (f_X5_typeOf 4 p0 p1 σ) (RO σ fun v => True) := by
  unfold f_X5_typeOf
  have lt_m1 := li_m1
  have lt_0 := li_0
  have lt_1 := li_1
  have lt_8 := li_8
  have lFU : ((FU : Nat) : Int) = 100000 := rfl
  refine OK.bndR (k_X5_isFieldOf _ _ _ hI ) (fun v1 h2 => ?_)
  dsimp only
  refine OK.ieq (fun h3 => ?_) (fun h3 => ?_)
  · skip
    exact OK.roret (by first | trivial | omega | exact hI.flds _ | exact hI.dflds _ | exact hI.recs _ | exact hI.drecs _ | exact hI.droot _ | omega)
  · skip
    obtain ⟨a4k, a4, a4l, a4r⟩ := i_mul p0 8
    rw [li_8] at a4
    try (refine k0el (k := a4k) ?_ (fun e0 => ?_); (focus omega); subst e0)
    obtain ⟨a5k, a5, a5l, a5r⟩ := i_add (p0 * 8) p1
    try (refine k0el (k := a5k) ?_ (fun e0 => ?_); (focus omega); subst e0)
    refine OK.grd ⟨by omega, by omega⟩ ?_
    exact OK.roret (by first | trivial | omega | exact hI.flds _ | exact hI.dflds _ | exact hI.recs _ | exact hI.drecs _ | exact hI.droot _ | omega)

theorem k_X5_typeOf_20 (p0 : Int32) (p1 : Int32) (σ : ST) (hI : IA σ)  : OK (f_X5_typeOf 20 p0 p1 σ) (RO σ fun v => True) := by
  unfold f_X5_typeOf
  have lt_m1 := li_m1
  have lt_0 := li_0
  have lt_1 := li_1
  have lt_8 := li_8
  have lFU : ((FU : Nat) : Int) = 100000 := rfl
  refine OK.bndR (k_X5_isFieldOf _ _ _ hI ) (fun v1 h2 => ?_)
  dsimp only
  refine OK.ieq (fun h3 => ?_) (fun h3 => ?_)
  · skip
    exact OK.roret (by first | trivial | omega | exact hI.flds _ | exact hI.dflds _ | exact hI.recs _ | exact hI.drecs _ | exact hI.droot _ | omega)
  · skip
    obtain ⟨a4k, a4, a4l, a4r⟩ := i_mul p0 8
    rw [li_8] at a4
    try (refine k0el (k := a4k) ?_ (fun e0 => ?_); (focus omega); subst e0)
    obtain ⟨a5k, a5, a5l, a5r⟩ := i_add (p0 * 8) p1
    try (refine k0el (k := a5k) ?_ (fun e0 => ?_); (focus omega); subst e0)
    refine OK.grd ⟨by omega, by omega⟩ ?_
    exact OK.roret (by first | trivial | omega | exact hI.flds _ | exact hI.dflds _ | exact hI.recs _ | exact hI.drecs _ | exact hI.droot _ | omega)

theorem k_X0_walk {N0 : Nat} {r_X0_walk : Int32 → Int32 → Int32 → ST → Option (ST)} (hr_X0_walk : ∀ (p0 : Int32) (p1 : Int32) (p2 : Int32) (σ : ST), IA σ → 0 ≤ p2.toInt ∧ p2.toInt ≤ 41 ∧ (84 : Int) ≤ (N0 : Nat) + 2 * p2.toInt → OK (r_X0_walk p0 p1 p2 σ) (RS σ)) {r_X0_walkBranches : Int32 → Int32 → Int32 → ST → Option (ST)} (hr_X0_walkBranches : ∀ (p0 : Int32) (p1 : Int32) (p2 : Int32) (σ : ST), IA σ → 0 ≤ p2.toInt ∧ p2.toInt ≤ 40 ∧ (83 : Int) ≤ (N0 : Nat) + 2 * p2.toInt → OK (r_X0_walkBranches p0 p1 p2 σ) (RS σ)) {r_X0_walkFields : Int32 → Int32 → Int32 → ST → Option (ST)} (hr_X0_walkFields : ∀ (p0 : Int32) (p1 : Int32) (p2 : Int32) (σ : ST), IA σ → 0 ≤ p2.toInt ∧ p2.toInt ≤ 40 ∧ (83 : Int) ≤ (N0 : Nat) + 2 * p2.toInt → OK (r_X0_walkFields p0 p1 p2 σ) (RS σ)) (p0 : Int32) (p1 : Int32) (p2 : Int32) (σ : ST) (hI : IA σ) (hv : 0 ≤ p2.toInt ∧ p2.toInt ≤ 41 ∧ (84 : Int) ≤ (N0 + 1 : Nat) + 2 * p2.toInt)  : OK (f_X0_walk r_X0_walk r_X0_walkBranches r_X0_walkFields  p0 p1 p2 σ) (RS σ) := by
  unfold f_X0_walk
  have lt_m1 := li_m1
  have lt_0 := li_0
  have lt_1 := li_1
  have lt_2 := li_2
  have lt_3 := li_3
  have lt_6 := li_6
  have lt_7 := li_7
  have lt_8 := li_8
  have lt_20 := li_20
  have lt_40 := li_40
  have lt_100 := li_100
  have lFU : ((FU : Nat) : Int) = 100000 := rfl
  have lFR : ((FR : Nat) : Int) = 160 := rfl
  refine OK.ilt (fun h1 => ?_) (fun h1 => ?_)
  · skip
    exact OK.sret hI Fr.rf
  · skip
    refine OK.ilt (fun h2 => ?_) (fun h2 => ?_)
    · skip
      refine OK.bndR (k_X5_sortOf_4 _ _ hI ) (fun v3 h4 => ?_)
      dsimp only
      refine OK.ieq (fun h5 => ?_) (fun h5 => ?_)
      · skip
        refine OK.bndS (hr_X0_walkBranches _ _ _ _ hI (by omega)) Fr.rf (fun s6 is6 fs6 => ?_)
        try dsimp only
        exact OK.sret is6 fs6
      · skip
        refine OK.bndR (k_X5_sortOf_4 _ _ hI ) (fun v7 h8 => ?_)
        dsimp only
        refine OK.ieq (fun h9 => ?_) (fun h9 => ?_)
        · skip
          refine OK.bndR (k_X0_chosen _ _ _ hI ) (fun v10 h11 => ?_)
          dsimp only
          refine OK.ieq (fun h12 => ?_) (fun h12 => ?_)
          · skip
            refine OK.bndS (k_X0_addMiss _ _ hI ) Fr.rf (fun s13 is13 fs13 => ?_)
            try dsimp only
            exact OK.sret is13 fs13
          · skip
            unfold f_X0_walk_77
            try dsimp only
            refine OK.bndR (k_X5_sortOf_4 _ _ hI ) (fun v14 h15 => ?_)
            dsimp only
            refine OK.bndR (k_X5_innerOf_4 _ _ hI ) (fun v16 h17 => ?_)
            dsimp only
            refine OK.bndR (k_X5_innerOf_4 _ _ hI ) (fun v18 h19 => ?_)
            dsimp only
            refine OK.ieq (fun h20 => ?_) (fun h20 => ?_)
            · skip
              refine OK.ieq (fun h21 => ?_) (fun h21 => ?_)
              · skip
                refine OK.bndR (k_X0_mayPair _ _ _ hI ) (fun v22 h23 => ?_)
                dsimp only
                refine OK.ieq (fun h24 => ?_) (fun h24 => ?_)
                · skip
                  unfold f_X0_walk_146
                  try dsimp only
                  refine OK.ieq (fun h25 => ?_) (fun h25 => ?_)
                  · skip
                    refine OK.ieq (fun h26 => ?_) (fun h26 => ?_)
                    · skip
                      refine OK.bndS (k_X0_step _ _ hI ) Fr.rf (fun s27 is27 fs27 => ?_)
                      try dsimp only
                      obtain ⟨a28k, a28, a28l, a28r⟩ := i_add p2 1
                      try (refine k0el (k := a28k) ?_ (fun e0 => ?_); (focus omega); subst e0)
                      refine OK.bndS (hr_X0_walk _ _ _ _ is27 (by omega)) fs27 (fun s29 is29 fs29 => ?_)
                      try dsimp only
                      exact OK.sret (ia_I_41 is29) (fr_I_41 fs29)
                    · skip
                      unfold f_X0_walk_190
                      try dsimp only
                      refine OK.bndR (k_X0_fits _ _ _ hI ) (fun v30 h31 => ?_)
                      dsimp only
                      refine OK.ieq (fun h32 => ?_) (fun h32 => ?_)
                      · skip
                        refine OK.bndS (k_X0_addMiss _ _ hI ) Fr.rf (fun s33 is33 fs33 => ?_)
                        try dsimp only
                        exact OK.sret is33 fs33
                      · skip
                        exact OK.sret hI Fr.rf
                  · skip
                    unfold f_X0_walk_190
                    try dsimp only
                    refine OK.bndR (k_X0_fits _ _ _ hI ) (fun v34 h35 => ?_)
                    dsimp only
                    refine OK.ieq (fun h36 => ?_) (fun h36 => ?_)
                    · skip
                      refine OK.bndS (k_X0_addMiss _ _ hI ) Fr.rf (fun s37 is37 fs37 => ?_)
                      try dsimp only
                      exact OK.sret is37 fs37
                    · skip
                      exact OK.sret hI Fr.rf
                · skip
                  refine OK.bndS (hr_X0_walkFields _ _ _ _ hI (by omega)) Fr.rf (fun s38 is38 fs38 => ?_)
                  try dsimp only
                  exact OK.sret is38 fs38
              · skip
                unfold f_X0_walk_146
                try dsimp only
                refine OK.ieq (fun h39 => ?_) (fun h39 => ?_)
                · skip
                  refine OK.ieq (fun h40 => ?_) (fun h40 => ?_)
                  · skip
                    refine OK.bndS (k_X0_step _ _ hI ) Fr.rf (fun s41 is41 fs41 => ?_)
                    try dsimp only
                    obtain ⟨a42k, a42, a42l, a42r⟩ := i_add p2 1
                    try (refine k0el (k := a42k) ?_ (fun e0 => ?_); (focus omega); subst e0)
                    refine OK.bndS (hr_X0_walk _ _ _ _ is41 (by omega)) fs41 (fun s43 is43 fs43 => ?_)
                    try dsimp only
                    exact OK.sret (ia_I_41 is43) (fr_I_41 fs43)
                  · skip
                    unfold f_X0_walk_190
                    try dsimp only
                    refine OK.bndR (k_X0_fits _ _ _ hI ) (fun v44 h45 => ?_)
                    dsimp only
                    refine OK.ieq (fun h46 => ?_) (fun h46 => ?_)
                    · skip
                      refine OK.bndS (k_X0_addMiss _ _ hI ) Fr.rf (fun s47 is47 fs47 => ?_)
                      try dsimp only
                      exact OK.sret is47 fs47
                    · skip
                      exact OK.sret hI Fr.rf
                · skip
                  unfold f_X0_walk_190
                  try dsimp only
                  refine OK.bndR (k_X0_fits _ _ _ hI ) (fun v48 h49 => ?_)
                  dsimp only
                  refine OK.ieq (fun h50 => ?_) (fun h50 => ?_)
                  · skip
                    refine OK.bndS (k_X0_addMiss _ _ hI ) Fr.rf (fun s51 is51 fs51 => ?_)
                    try dsimp only
                    exact OK.sret is51 fs51
                  · skip
                    exact OK.sret hI Fr.rf
            · skip
              unfold f_X0_walk_146
              try dsimp only
              refine OK.ieq (fun h52 => ?_) (fun h52 => ?_)
              · skip
                refine OK.ieq (fun h53 => ?_) (fun h53 => ?_)
                · skip
                  refine OK.bndS (k_X0_step _ _ hI ) Fr.rf (fun s54 is54 fs54 => ?_)
                  try dsimp only
                  obtain ⟨a55k, a55, a55l, a55r⟩ := i_add p2 1
                  try (refine k0el (k := a55k) ?_ (fun e0 => ?_); (focus omega); subst e0)
                  refine OK.bndS (hr_X0_walk _ _ _ _ is54 (by omega)) fs54 (fun s56 is56 fs56 => ?_)
                  try dsimp only
                  exact OK.sret (ia_I_41 is56) (fr_I_41 fs56)
                · skip
                  unfold f_X0_walk_190
                  try dsimp only
                  refine OK.bndR (k_X0_fits _ _ _ hI ) (fun v57 h58 => ?_)
                  dsimp only
                  refine OK.ieq (fun h59 => ?_) (fun h59 => ?_)
                  · skip
                    refine OK.bndS (k_X0_addMiss _ _ hI ) Fr.rf (fun s60 is60 fs60 => ?_)
                    try dsimp only
                    exact OK.sret is60 fs60
                  · skip
                    exact OK.sret hI Fr.rf
              · skip
                unfold f_X0_walk_190
                try dsimp only
                refine OK.bndR (k_X0_fits _ _ _ hI ) (fun v61 h62 => ?_)
                dsimp only
                refine OK.ieq (fun h63 => ?_) (fun h63 => ?_)
                · skip
                  refine OK.bndS (k_X0_addMiss _ _ hI ) Fr.rf (fun s64 is64 fs64 => ?_)
                  try dsimp only
                  exact OK.sret is64 fs64
                · skip
                  exact OK.sret hI Fr.rf
        · skip
          unfold f_X0_walk_77
          try dsimp only
          refine OK.bndR (k_X5_sortOf_4 _ _ hI ) (fun v65 h66 => ?_)
          dsimp only
          refine OK.bndR (k_X5_innerOf_4 _ _ hI ) (fun v67 h68 => ?_)
          dsimp only
          refine OK.bndR (k_X5_innerOf_4 _ _ hI ) (fun v69 h70 => ?_)
          dsimp only
          refine OK.ieq (fun h71 => ?_) (fun h71 => ?_)
          · skip
            refine OK.ieq (fun h72 => ?_) (fun h72 => ?_)
            · skip
              refine OK.bndR (k_X0_mayPair _ _ _ hI ) (fun v73 h74 => ?_)
              dsimp only
              refine OK.ieq (fun h75 => ?_) (fun h75 => ?_)
              · skip
                unfold f_X0_walk_146
                try dsimp only
                refine OK.ieq (fun h76 => ?_) (fun h76 => ?_)
                · skip
                  refine OK.ieq (fun h77 => ?_) (fun h77 => ?_)
                  · skip
                    refine OK.bndS (k_X0_step _ _ hI ) Fr.rf (fun s78 is78 fs78 => ?_)
                    try dsimp only
                    obtain ⟨a79k, a79, a79l, a79r⟩ := i_add p2 1
                    try (refine k0el (k := a79k) ?_ (fun e0 => ?_); (focus omega); subst e0)
                    refine OK.bndS (hr_X0_walk _ _ _ _ is78 (by omega)) fs78 (fun s80 is80 fs80 => ?_)
                    try dsimp only
                    exact OK.sret (ia_I_41 is80) (fr_I_41 fs80)
                  · skip
                    unfold f_X0_walk_190
                    try dsimp only
                    refine OK.bndR (k_X0_fits _ _ _ hI ) (fun v81 h82 => ?_)
                    dsimp only
                    refine OK.ieq (fun h83 => ?_) (fun h83 => ?_)
                    · skip
                      refine OK.bndS (k_X0_addMiss _ _ hI ) Fr.rf (fun s84 is84 fs84 => ?_)
                      try dsimp only
                      exact OK.sret is84 fs84
                    · skip
                      exact OK.sret hI Fr.rf
                · skip
                  unfold f_X0_walk_190
                  try dsimp only
                  refine OK.bndR (k_X0_fits _ _ _ hI ) (fun v85 h86 => ?_)
                  dsimp only
                  refine OK.ieq (fun h87 => ?_) (fun h87 => ?_)
                  · skip
                    refine OK.bndS (k_X0_addMiss _ _ hI ) Fr.rf (fun s88 is88 fs88 => ?_)
                    try dsimp only
                    exact OK.sret is88 fs88
                  · skip
                    exact OK.sret hI Fr.rf
              · skip
                refine OK.bndS (hr_X0_walkFields _ _ _ _ hI (by omega)) Fr.rf (fun s89 is89 fs89 => ?_)
                try dsimp only
                exact OK.sret is89 fs89
            · skip
              unfold f_X0_walk_146
              try dsimp only
              refine OK.ieq (fun h90 => ?_) (fun h90 => ?_)
              · skip
                refine OK.ieq (fun h91 => ?_) (fun h91 => ?_)
                · skip
                  refine OK.bndS (k_X0_step _ _ hI ) Fr.rf (fun s92 is92 fs92 => ?_)
                  try dsimp only
                  obtain ⟨a93k, a93, a93l, a93r⟩ := i_add p2 1
                  try (refine k0el (k := a93k) ?_ (fun e0 => ?_); (focus omega); subst e0)
                  refine OK.bndS (hr_X0_walk _ _ _ _ is92 (by omega)) fs92 (fun s94 is94 fs94 => ?_)
                  try dsimp only
                  exact OK.sret (ia_I_41 is94) (fr_I_41 fs94)
                · skip
                  unfold f_X0_walk_190
                  try dsimp only
                  refine OK.bndR (k_X0_fits _ _ _ hI ) (fun v95 h96 => ?_)
                  dsimp only
                  refine OK.ieq (fun h97 => ?_) (fun h97 => ?_)
                  · skip
                    refine OK.bndS (k_X0_addMiss _ _ hI ) Fr.rf (fun s98 is98 fs98 => ?_)
                    try dsimp only
                    exact OK.sret is98 fs98
                  · skip
                    exact OK.sret hI Fr.rf
              · skip
                unfold f_X0_walk_190
                try dsimp only
                refine OK.bndR (k_X0_fits _ _ _ hI ) (fun v99 h100 => ?_)
                dsimp only
                refine OK.ieq (fun h101 => ?_) (fun h101 => ?_)
                · skip
                  refine OK.bndS (k_X0_addMiss _ _ hI ) Fr.rf (fun s102 is102 fs102 => ?_)
                  try dsimp only
                  exact OK.sret is102 fs102
                · skip
                  exact OK.sret hI Fr.rf
          · skip
            unfold f_X0_walk_146
            try dsimp only
            refine OK.ieq (fun h103 => ?_) (fun h103 => ?_)
            · skip
              refine OK.ieq (fun h104 => ?_) (fun h104 => ?_)
              · skip
                refine OK.bndS (k_X0_step _ _ hI ) Fr.rf (fun s105 is105 fs105 => ?_)
                try dsimp only
                obtain ⟨a106k, a106, a106l, a106r⟩ := i_add p2 1
                try (refine k0el (k := a106k) ?_ (fun e0 => ?_); (focus omega); subst e0)
                refine OK.bndS (hr_X0_walk _ _ _ _ is105 (by omega)) fs105 (fun s107 is107 fs107 => ?_)
                try dsimp only
                exact OK.sret (ia_I_41 is107) (fr_I_41 fs107)
              · skip
                unfold f_X0_walk_190
                try dsimp only
                refine OK.bndR (k_X0_fits _ _ _ hI ) (fun v108 h109 => ?_)
                dsimp only
                refine OK.ieq (fun h110 => ?_) (fun h110 => ?_)
                · skip
                  refine OK.bndS (k_X0_addMiss _ _ hI ) Fr.rf (fun s111 is111 fs111 => ?_)
                  try dsimp only
                  exact OK.sret is111 fs111
                · skip
                  exact OK.sret hI Fr.rf
            · skip
              unfold f_X0_walk_190
              try dsimp only
              refine OK.bndR (k_X0_fits _ _ _ hI ) (fun v112 h113 => ?_)
              dsimp only
              refine OK.ieq (fun h114 => ?_) (fun h114 => ?_)
              · skip
                refine OK.bndS (k_X0_addMiss _ _ hI ) Fr.rf (fun s115 is115 fs115 => ?_)
                try dsimp only
                exact OK.sret is115 fs115
              · skip
                exact OK.sret hI Fr.rf
    · skip
      exact OK.sret hI Fr.rf
theorem k_X0_walkBranches_13 {N0 : Nat} {r_X0_walk : Int32 → Int32 → Int32 → ST → Option (ST)} (hr_X0_walk : ∀ (p0 : Int32) (p1 : Int32) (p2 : Int32) (σ : ST), IA σ → 0 ≤ p2.toInt ∧ p2.toInt ≤ 41 ∧ (84 : Int) ≤ (N0 : Nat) + 2 * p2.toInt → OK (r_X0_walk p0 p1 p2 σ) (RS σ)) {r_X0_walkBranches : Int32 → Int32 → Int32 → ST → Option (ST)} (hr_X0_walkBranches : ∀ (p0 : Int32) (p1 : Int32) (p2 : Int32) (σ : ST), IA σ → 0 ≤ p2.toInt ∧ p2.toInt ≤ 40 ∧ (83 : Int) ≤ (N0 : Nat) + 2 * p2.toInt → OK (r_X0_walkBranches p0 p1 p2 σ) (RS σ)) {r_X0_walkFields : Int32 → Int32 → Int32 → ST → Option (ST)} (hr_X0_walkFields : ∀ (p0 : Int32) (p1 : Int32) (p2 : Int32) (σ : ST), IA σ → 0 ≤ p2.toInt ∧ p2.toInt ≤ 40 ∧ (83 : Int) ≤ (N0 : Nat) + 2 * p2.toInt → OK (r_X0_walkFields p0 p1 p2 σ) (RS σ)) : ∀ (n : Nat) (x2 : Int32) (x3 : Int32) (x4 : Int32) (x5 : Int32) (σ : ST), IA σ → ((0 ≤ x3.toInt ∧ x3.toInt ≤ 40 ∧ (83 : Int) ≤ (N0 + 1 : Nat) + 2 * x3.toInt) ∧ 0 ≤ x5.toInt ∧ x5.toInt ≤ 4 ∧ (4 : Int) - x5.toInt < n) → OK (f_X0_walkBranches_13 r_X0_walk r_X0_walkBranches r_X0_walkFields  n x2 x3 x4 x5 σ) (RS σ) := by
  intro n
  induction n with
  | zero =>
    intro x2 x3 x4 x5 σ hI hv
    omega
  | succ n ih =>
    intro x2 x3 x4 x5 σ hI hv
    rw [f_X0_walkBranches_13]
    have lt_m1 := li_m1
    have lt_0 := li_0
    have lt_1 := li_1
    have lt_4 := li_4
    have lt_200 := li_200
    have lFU : ((FU : Nat) : Int) = 100000 := rfl
    have lFR : ((FR : Nat) : Int) = 160 := rfl
    refine OK.ile (fun h1 => ?_) (fun h1 => ?_)
    · skip
      exact OK.sret hI Fr.rf
    · skip
      refine OK.ieq (fun h2 => ?_) (fun h2 => ?_)
      · skip
        exact OK.sret hI Fr.rf
      · skip
        refine OK.bndS (k_X0_step _ _ hI ) Fr.rf (fun s3 is3 fs3 => ?_)
        try dsimp only
        refine OK.bndR (k_X0_fits _ _ _ is3 ) (fun v4 h5 => ?_)
        dsimp only
        refine OK.ieq (fun h6 => ?_) (fun h6 => ?_)
        · skip
          refine OK.bndS (k_X0_addMiss _ _ is3 ) fs3 (fun s7 is7 fs7 => ?_)
          try dsimp only
          unfold f_X0_walkBranches_63
          try dsimp only
          have iz10 : IA (stI s7 41 11 ((s7.1 41 11) - 1)) := (ia_I_41 is7)
          have fz10 : Fr σ (stI s7 41 11 ((s7.1 41 11) - 1)) := (fr_I_41 fs7)
          generalize (stI s7 41 11 ((s7.1 41 11) - 1)) = z10 at iz10 fz10 ⊢
          refine OK.bndR (k_X5_branchAfter_4 _ _ iz10 ) (fun v8 h9 => ?_)
          dsimp only
          obtain ⟨a11k, a11, a11l, a11r⟩ := i_add x5 1
          try (refine k0el (k := a11k) ?_ (fun e0 => ?_); (focus omega); subst e0)
          exact OK.trS (ih _ _ _ _ _ iz10 (by omega)) fz10
        · skip
          obtain ⟨a12k, a12, a12l, a12r⟩ := i_add x3 1
          try (refine k0el (k := a12k) ?_ (fun e0 => ?_); (focus omega); subst e0)
          refine OK.bndS (hr_X0_walk _ _ _ _ is3 (by omega)) fs3 (fun s13 is13 fs13 => ?_)
          try dsimp only
          unfold f_X0_walkBranches_63
          try dsimp only
          have iz16 : IA (stI s13 41 11 ((s13.1 41 11) - 1)) := (ia_I_41 is13)
          have fz16 : Fr σ (stI s13 41 11 ((s13.1 41 11) - 1)) := (fr_I_41 fs13)
          generalize (stI s13 41 11 ((s13.1 41 11) - 1)) = z16 at iz16 fz16 ⊢
          refine OK.bndR (k_X5_branchAfter_4 _ _ iz16 ) (fun v14 h15 => ?_)
          dsimp only
          obtain ⟨a17k, a17, a17l, a17r⟩ := i_add x5 1
          try (refine k0el (k := a17k) ?_ (fun e0 => ?_); (focus omega); subst e0)
          exact OK.trS (ih _ _ _ _ _ iz16 (by omega)) fz16

theorem k_X0_walkBranches {N0 : Nat} {r_X0_walk : Int32 → Int32 → Int32 → ST → Option (ST)} (hr_X0_walk : ∀ (p0 : Int32) (p1 : Int32) (p2 : Int32) (σ : ST), IA σ → 0 ≤ p2.toInt ∧ p2.toInt ≤ 41 ∧ (84 : Int) ≤ (N0 : Nat) + 2 * p2.toInt → OK (r_X0_walk p0 p1 p2 σ) (RS σ)) {r_X0_walkBranches : Int32 → Int32 → Int32 → ST → Option (ST)} (hr_X0_walkBranches : ∀ (p0 : Int32) (p1 : Int32) (p2 : Int32) (σ : ST), IA σ → 0 ≤ p2.toInt ∧ p2.toInt ≤ 40 ∧ (83 : Int) ≤ (N0 : Nat) + 2 * p2.toInt → OK (r_X0_walkBranches p0 p1 p2 σ) (RS σ)) {r_X0_walkFields : Int32 → Int32 → Int32 → ST → Option (ST)} (hr_X0_walkFields : ∀ (p0 : Int32) (p1 : Int32) (p2 : Int32) (σ : ST), IA σ → 0 ≤ p2.toInt ∧ p2.toInt ≤ 40 ∧ (83 : Int) ≤ (N0 : Nat) + 2 * p2.toInt → OK (r_X0_walkFields p0 p1 p2 σ) (RS σ)) (p0 : Int32) (p1 : Int32) (p2 : Int32) (σ : ST) (hI : IA σ) (hv : 0 ≤ p2.toInt ∧ p2.toInt ≤ 40 ∧ (83 : Int) ≤ (N0 + 1 : Nat) + 2 * p2.toInt)  : OK (f_X0_walkBranches r_X0_walk r_X0_walkBranches r_X0_walkFields  p0 p1 p2 σ) (RS σ) := by
  unfold f_X0_walkBranches
  have lt_0 := li_0
  have lt_1 := li_1
  have lFU : ((FU : Nat) : Int) = 100000 := rfl
  have lFR : ((FR : Nat) : Int) = 160 := rfl
  refine OK.bndR (k_X5_innerOf_4 _ _ hI ) (fun v1 h2 => ?_)
  dsimp only
  exact OK.trS (k_X0_walkBranches_13 hr_X0_walk hr_X0_walkBranches hr_X0_walkFields FU _ _ _ _ _ hI (by omega)) Fr.rf

theorem k_X0_walkFields_33 {N0 : Nat} {r_X0_walk : Int32 → Int32 → Int32 → ST → Option (ST)} (hr_X0_walk : ∀ (p0 : Int32) (p1 : Int32) (p2 : Int32) (σ : ST), IA σ → 0 ≤ p2.toInt ∧ p2.toInt ≤ 41 ∧ (84 : Int) ≤ (N0 : Nat) + 2 * p2.toInt → OK (r_X0_walk p0 p1 p2 σ) (RS σ)) {r_X0_walkBranches : Int32 → Int32 → Int32 → ST → Option (ST)} (hr_X0_walkBranches : ∀ (p0 : Int32) (p1 : Int32) (p2 : Int32) (σ : ST), IA σ → 0 ≤ p2.toInt ∧ p2.toInt ≤ 40 ∧ (83 : Int) ≤ (N0 : Nat) + 2 * p2.toInt → OK (r_X0_walkBranches p0 p1 p2 σ) (RS σ)) {r_X0_walkFields : Int32 → Int32 → Int32 → ST → Option (ST)} (hr_X0_walkFields : ∀ (p0 : Int32) (p1 : Int32) (p2 : Int32) (σ : ST), IA σ → 0 ≤ p2.toInt ∧ p2.toInt ≤ 40 ∧ (83 : Int) ≤ (N0 : Nat) + 2 * p2.toInt → OK (r_X0_walkFields p0 p1 p2 σ) (RS σ)) : ∀ (n : Nat) (x1 : Int32) (x2 : Int32) (x3 : Int32) (x4 : Int32) (σ : ST), IA σ → ((0 ≤ x3.toInt ∧ x3.toInt ≤ 40 ∧ (83 : Int) ≤ (N0 + 1 : Nat) + 2 * x3.toInt) ∧ 0 ≤ x4.toInt ∧ x4.toInt ≤ 8 ∧ (8 : Int) - x4.toInt < n) → OK (f_X0_walkFields_33 r_X0_walk r_X0_walkBranches r_X0_walkFields  n x1 x2 x3 x4 σ) (RS σ) := by
  intro n
  induction n with
  | zero =>
    intro x1 x2 x3 x4 σ hI hv
    omega
  | succ n ih =>
    intro x1 x2 x3 x4 σ hI hv
    rw [f_X0_walkFields_33]
    have lt_m1 := li_m1
    have lt_0 := li_0
    have lt_1 := li_1
    have lFU : ((FU : Nat) : Int) = 100000 := rfl
    have lFR : ((FR : Nat) : Int) = 160 := rfl
    refine OK.bndR (k_X5_fieldsOf_4 _ _ hI ) (fun v1 h2 => ?_)
    dsimp only
    refine OK.ile (fun h3 => ?_) (fun h3 => ?_)
    · skip
      exact OK.sret hI Fr.rf
    · skip
      refine OK.bndS (k_X0_step _ _ hI ) Fr.rf (fun s4 is4 fs4 => ?_)
      try dsimp only
      refine OK.bndR (k_X5_sourceOf_4 _ _ _ _ is4 ) (fun v5 h6 => ?_)
      dsimp only
      refine OK.ieq (fun h7 => ?_) (fun h7 => ?_)
      · skip
        refine OK.bndR (k_X5_hasElse_4 _ _ _ is4 ) (fun v8 h9 => ?_)
        dsimp only
        refine OK.ieq (fun h10 => ?_) (fun h10 => ?_)
        · skip
          refine OK.bndS (k_X0_addMiss _ _ is4 ) fs4 (fun s11 is11 fs11 => ?_)
          try dsimp only
          unfold f_X0_walkFields_119
          try dsimp only
          obtain ⟨a12k, a12, a12l, a12r⟩ := i_add x4 1
          try (refine k0el (k := a12k) ?_ (fun e0 => ?_); (focus omega); subst e0)
          exact OK.trS (ih _ _ _ _ _ (ia_I_41 is11) (by omega)) (fr_I_41 fs11)
        · skip
          unfold f_X0_walkFields_119
          try dsimp only
          obtain ⟨a13k, a13, a13l, a13r⟩ := i_add x4 1
          try (refine k0el (k := a13k) ?_ (fun e0 => ?_); (focus omega); subst e0)
          exact OK.trS (ih _ _ _ _ _ (ia_I_41 is4) (by omega)) (fr_I_41 fs4)
      · skip
        refine OK.bndR (k_X5_typeOf_4 _ _ _ is4 ) (fun v14 h15 => ?_)
        dsimp only
        refine OK.bndR (k_X5_typeOf_4 _ _ _ is4 ) (fun v16 h17 => ?_)
        dsimp only
        obtain ⟨a18k, a18, a18l, a18r⟩ := i_add x3 1
        try (refine k0el (k := a18k) ?_ (fun e0 => ?_); (focus omega); subst e0)
        refine OK.bndS (hr_X0_walk _ _ _ _ is4 (by omega)) fs4 (fun s19 is19 fs19 => ?_)
        try dsimp only
        unfold f_X0_walkFields_119
        try dsimp only
        obtain ⟨a20k, a20, a20l, a20r⟩ := i_add x4 1
        try (refine k0el (k := a20k) ?_ (fun e0 => ?_); (focus omega); subst e0)
        exact OK.trS (ih _ _ _ _ _ (ia_I_41 is19) (by omega)) (fr_I_41 fs19)

theorem k_X0_walkFields {N0 : Nat} {r_X0_walk : Int32 → Int32 → Int32 → ST → Option (ST)} (hr_X0_walk : ∀ (p0 : Int32) (p1 : Int32) (p2 : Int32) (σ : ST), IA σ → 0 ≤ p2.toInt ∧ p2.toInt ≤ 41 ∧ (84 : Int) ≤ (N0 : Nat) + 2 * p2.toInt → OK (r_X0_walk p0 p1 p2 σ) (RS σ)) {r_X0_walkBranches : Int32 → Int32 → Int32 → ST → Option (ST)} (hr_X0_walkBranches : ∀ (p0 : Int32) (p1 : Int32) (p2 : Int32) (σ : ST), IA σ → 0 ≤ p2.toInt ∧ p2.toInt ≤ 40 ∧ (83 : Int) ≤ (N0 : Nat) + 2 * p2.toInt → OK (r_X0_walkBranches p0 p1 p2 σ) (RS σ)) {r_X0_walkFields : Int32 → Int32 → Int32 → ST → Option (ST)} (hr_X0_walkFields : ∀ (p0 : Int32) (p1 : Int32) (p2 : Int32) (σ : ST), IA σ → 0 ≤ p2.toInt ∧ p2.toInt ≤ 40 ∧ (83 : Int) ≤ (N0 : Nat) + 2 * p2.toInt → OK (r_X0_walkFields p0 p1 p2 σ) (RS σ)) (p0 : Int32) (p1 : Int32) (p2 : Int32) (σ : ST) (hI : IA σ) (hv : 0 ≤ p2.toInt ∧ p2.toInt ≤ 40 ∧ (83 : Int) ≤ (N0 + 1 : Nat) + 2 * p2.toInt)  : OK (f_X0_walkFields r_X0_walk r_X0_walkBranches r_X0_walkFields  p0 p1 p2 σ) (RS σ) := by
  unfold f_X0_walkFields
  have lt_0 := li_0
  have lt_1 := li_1
  have lFU : ((FU : Nat) : Int) = 100000 := rfl
  have lFR : ((FR : Nat) : Int) = 160 := rfl
  refine OK.bndR (k_X0_bitOf _ _ _ hI ) (fun v1 h2 => ?_)
  dsimp only
  refine OK.ieq (fun h3 => ?_) (fun h3 => ?_)
  · skip
    refine OK.bndR (k_X0_bitOf _ _ _ hI ) (fun v4 h5 => ?_)
    dsimp only
    exact OK.trS (k_X0_walkFields_33 hr_X0_walk hr_X0_walkBranches hr_X0_walkFields FU _ _ _ _ _ (ia_L hI) (by omega)) (fr_L Fr.rf)
  · skip
    exact OK.sret hI Fr.rf

theorem kR_X0_walk : ∀ n : Nat, (∀ (p0 : Int32) (p1 : Int32) (p2 : Int32) (σ : ST), IA σ → 0 ≤ p2.toInt ∧ p2.toInt ≤ 41 ∧ (84 : Int) ≤ (n : Nat) + 2 * p2.toInt → OK ((R_X0_walk n).1 p0 p1 p2 σ) (RS σ)) ∧ (∀ (p0 : Int32) (p1 : Int32) (p2 : Int32) (σ : ST), IA σ → 0 ≤ p2.toInt ∧ p2.toInt ≤ 40 ∧ (83 : Int) ≤ (n : Nat) + 2 * p2.toInt → OK ((R_X0_walk n).2.1 p0 p1 p2 σ) (RS σ)) ∧ (∀ (p0 : Int32) (p1 : Int32) (p2 : Int32) (σ : ST), IA σ → 0 ≤ p2.toInt ∧ p2.toInt ≤ 40 ∧ (83 : Int) ≤ (n : Nat) + 2 * p2.toInt → OK ((R_X0_walk n).2.2 p0 p1 p2 σ) (RS σ)) := by
  intro n
  induction n with
  | zero =>
    refine ⟨?_, ?_, ?_⟩
    · intro p0 p1 p2 σ hI hv; omega
    · intro p0 p1 p2 σ hI hv; omega
    · intro p0 p1 p2 σ hI hv; omega
  | succ n ih =>
    obtain ⟨ih0, ih1, ih2⟩ := ih
    refine ⟨?_, ?_, ?_⟩
    · intro p0 p1 p2 σ hI hv; exact k_X0_walk (N0 := n) ih0 ih1 ih2 p0 p1 p2 σ hI (by omega)
    · intro p0 p1 p2 σ hI hv; exact k_X0_walkBranches (N0 := n) ih0 ih1 ih2 p0 p1 p2 σ hI (by omega)
    · intro p0 p1 p2 σ hI hv; exact k_X0_walkFields (N0 := n) ih0 ih1 ih2 p0 p1 p2 σ hI (by omega)
theorem kT_X0_walk (p0 : Int32) (p1 : Int32) (p2 : Int32) (σ : ST) (hI : IA σ) (hv : 0 ≤ p2.toInt ∧ p2.toInt ≤ 41 ∧ (84 : Int) ≤ (FR : Nat) + 2 * p2.toInt) : OK (f_T_X0_walk p0 p1 p2 σ) (RS σ) := (kR_X0_walk FR).1 p0 p1 p2 σ hI hv
theorem kT_X0_walkBranches (p0 : Int32) (p1 : Int32) (p2 : Int32) (σ : ST) (hI : IA σ) (hv : 0 ≤ p2.toInt ∧ p2.toInt ≤ 40 ∧ (83 : Int) ≤ (FR : Nat) + 2 * p2.toInt) : OK (f_T_X0_walkBranches p0 p1 p2 σ) (RS σ) := (kR_X0_walk FR).2.1 p0 p1 p2 σ hI hv
theorem kT_X0_walkFields (p0 : Int32) (p1 : Int32) (p2 : Int32) (σ : ST) (hI : IA σ) (hv : 0 ≤ p2.toInt ∧ p2.toInt ≤ 40 ∧ (83 : Int) ≤ (FR : Nat) + 2 * p2.toInt) : OK (f_T_X0_walkFields p0 p1 p2 σ) (RS σ) := (kR_X0_walk FR).2.2 p0 p1 p2 σ hI hv

theorem k_X5_rootType_4 (p0 : Int32) (σ : ST) (hI : IA σ)  : OK (f_X5_rootType 4 p0 σ) (RO σ fun v => True) := by
  unfold f_X5_rootType
  have lt_m1 := li_m1
  have lt_0 := li_0
  have lt_1 := li_1
  have lt_6 := li_6
  have lFU : ((FU : Nat) : Int) = 100000 := rfl
  refine OK.ilt (fun h1 => ?_) (fun h1 => ?_)
  · skip
    exact OK.roret (by first | trivial | omega | exact hI.flds _ | exact hI.dflds _ | exact hI.recs _ | exact hI.drecs _ | exact hI.droot _ | omega)
  · skip
    refine OK.ile (fun h2 => ?_) (fun h2 => ?_)
    · skip
      exact OK.roret (by first | trivial | omega | exact hI.flds _ | exact hI.dflds _ | exact hI.recs _ | exact hI.drecs _ | exact hI.droot _ | omega)
    · skip
      refine OK.grd ⟨by omega, by omega⟩ ?_
      exact OK.roret (by first | trivial | omega | exact hI.flds _ | exact hI.dflds _ | exact hI.recs _ | exact hI.drecs _ | exact hI.droot _ | omega)

theorem k_X5_rootType_20 (p0 : Int32) (σ : ST) (hI : IA σ)  : OK (f_X5_rootType 20 p0 σ) (RO σ fun v => -1 ≤ v.toInt) := by
  unfold f_X5_rootType
  have lt_m1 := li_m1
  have lt_0 := li_0
  have lt_1 := li_1
  have lt_6 := li_6
  have lFU : ((FU : Nat) : Int) = 100000 := rfl
  refine OK.ilt (fun h1 => ?_) (fun h1 => ?_)
  · skip
    exact OK.roret (by first | trivial | omega | exact hI.flds _ | exact hI.dflds _ | exact hI.recs _ | exact hI.drecs _ | exact hI.droot _ | omega)
  · skip
    refine OK.ile (fun h2 => ?_) (fun h2 => ?_)
    · skip
      exact OK.roret (by first | trivial | omega | exact hI.flds _ | exact hI.dflds _ | exact hI.recs _ | exact hI.drecs _ | exact hI.droot _ | omega)
    · skip
      refine OK.grd ⟨by omega, by omega⟩ ?_
      exact OK.roret (by first | trivial | omega | exact hI.flds _ | exact hI.dflds _ | exact hI.recs _ | exact hI.drecs _ | exact hI.droot _ | omega)

theorem k_X0_collectMisses (p0 : Int32) (p1 : Int32) (σ : ST) (hI : IA σ)  : OK (f_X0_collectMisses  p0 p1 σ) (RS σ) := by
  unfold f_X0_collectMisses
  have lt_0 := li_0
  have lt_1 := li_1
  have lFU : ((FU : Nat) : Int) = 100000 := rfl
  have lFR : ((FR : Nat) : Int) = 160 := rfl
  refine OK.bndR (k_X0_pairOf _ _ _ hI ) (fun v1 h2 => ?_)
  dsimp only
  refine OK.ieq (fun h3 => ?_) (fun h3 => ?_)
  · skip
    exact OK.sret hI Fr.rf
  · skip
    have iz6 : IA (stL (stI (stI (stI σ 41 5 v1) 41 6 0) 41 11 0) 41 12 0) := (ia_L (ia_I_41 (ia_I_41 (ia_I_41 hI))))
    have fz6 : Fr σ (stL (stI (stI (stI σ 41 5 v1) 41 6 0) 41 11 0) 41 12 0) := (fr_L (fr_I_41 (fr_I_41 (fr_I_41 Fr.rf))))
    generalize (stL (stI (stI (stI σ 41 5 v1) 41 6 0) 41 11 0) 41 12 0) = z6 at iz6 fz6 ⊢
    refine OK.bndR (k_X5_rootType_4 _ _ iz6 ) (fun v4 h5 => ?_)
    dsimp only
    refine OK.bndR (k_X5_rootType_4 _ _ iz6 ) (fun v7 h8 => ?_)
    dsimp only
    refine OK.bndS (kT_X0_walk _ _ _ _ iz6 (by omega)) fz6 (fun s9 is9 fs9 => ?_)
    try dsimp only
    exact OK.sret is9 fs9

theorem k_X0_fieldsFit_2 : ∀ (n : Nat) (x1 : Int32) (x2 : Int32) (x3 : Int32) (σ : ST), IA σ → (0 ≤ x3.toInt ∧ x3.toInt ≤ 8 ∧ (8 : Int) - x3.toInt < n) → OK (f_X0_fieldsFit_2  n x1 x2 x3 σ) (RO σ fun v => v.toInt = 0 ∨ v.toInt = 1) := by
  intro n
  induction n with
  | zero =>
    intro x1 x2 x3 σ hI hv
    omega
  | succ n ih =>
    intro x1 x2 x3 σ hI hv
    rw [f_X0_fieldsFit_2]
    have lt_m1 := li_m1
    have lt_0 := li_0
    have lt_1 := li_1
    have lFU : ((FU : Nat) : Int) = 100000 := rfl
    have lFR : ((FR : Nat) : Int) = 160 := rfl
    refine OK.bndR (k_X5_fieldsOf_4 _ _ hI ) (fun v1 h2 => ?_)
    dsimp only
    refine OK.ile (fun h3 => ?_) (fun h3 => ?_)
    · skip
      exact OK.roret (by first | trivial | omega | exact hI.flds _ | exact hI.dflds _ | exact hI.recs _ | exact hI.drecs _ | exact hI.droot _ | omega)
    · skip
      refine OK.bndR (k_X5_sourceOf_4 _ _ _ _ hI ) (fun v4 h5 => ?_)
      dsimp only
      refine OK.ieq (fun h6 => ?_) (fun h6 => ?_)
      · skip
        refine OK.bndR (k_X5_hasElse_4 _ _ _ hI ) (fun v7 h8 => ?_)
        dsimp only
        unfold f_X0_fieldsFit_68
        try dsimp only
        refine OK.ieq (fun h9 => ?_) (fun h9 => ?_)
        · skip
          exact OK.roret (by first | trivial | omega | exact hI.flds _ | exact hI.dflds _ | exact hI.recs _ | exact hI.drecs _ | exact hI.droot _ | omega)
        · skip
          obtain ⟨a10k, a10, a10l, a10r⟩ := i_add x3 1
          try (refine k0el (k := a10k) ?_ (fun e0 => ?_); (focus omega); subst e0)
          exact OK.roq (ih _ _ _ _ hI (by omega)) (fun v hv => by first | trivial | omega | exact hI.flds _ | exact hI.dflds _ | exact hI.recs _ | exact hI.drecs _ | exact hI.droot _ | omega)
      · skip
        refine OK.bndR (k_X5_typeOf_4 _ _ _ hI ) (fun v11 h12 => ?_)
        dsimp only
        refine OK.bndR (k_X5_typeOf_4 _ _ _ hI ) (fun v13 h14 => ?_)
        dsimp only
        refine OK.bndR (kT_X0_fitsWithin _ _ _ _ hI (by omega)) (fun v15 h16 => ?_)
        dsimp only
        unfold f_X0_fieldsFit_68
        try dsimp only
        refine OK.ieq (fun h17 => ?_) (fun h17 => ?_)
        · skip
          exact OK.roret (by first | trivial | omega | exact hI.flds _ | exact hI.dflds _ | exact hI.recs _ | exact hI.drecs _ | exact hI.droot _ | omega)
        · skip
          obtain ⟨a18k, a18, a18l, a18r⟩ := i_add x3 1
          try (refine k0el (k := a18k) ?_ (fun e0 => ?_); (focus omega); subst e0)
          exact OK.roq (ih _ _ _ _ hI (by omega)) (fun v hv => by first | trivial | omega | exact hI.flds _ | exact hI.dflds _ | exact hI.recs _ | exact hI.drecs _ | exact hI.droot _ | omega)

theorem k_X0_fieldsFit (p0 : Int32) (p1 : Int32) (σ : ST) (hI : IA σ)  : OK (f_X0_fieldsFit  p0 p1 σ) (RO σ fun v => v.toInt = 0 ∨ v.toInt = 1) := by
  unfold f_X0_fieldsFit
  have lt_0 := li_0
  have lt_1 := li_1
  have lFU : ((FU : Nat) : Int) = 100000 := rfl
  exact OK.roq (k_X0_fieldsFit_2 FU _ _ _ _ hI (by omega)) (fun v hv => by first | trivial | omega | exact hI.flds _ | exact hI.dflds _ | exact hI.recs _ | exact hI.drecs _ | exact hI.droot _ | omega)

theorem k_X5_recordsOf_4 (p0 : Int32) (σ : ST) (hI : IA σ) : OK (f_X5_recordsOf 4 p0 σ) (RO σ fun v => (0 ≤ v.toInt ∧ v.toInt ≤ 36) ∧ (p0.toInt < 0 ∨ 6 ≤ p0.toInt ∨ v.toInt = (σ.1 (4 + 1) p0.toNatClampNeg).toInt)) := by
  unfold f_X5_recordsOf
  have lt_0 := li_0
  have lt_6 := li_6
  refine OK.ilt (fun h => OK.roret (by omega)) (fun h1 => ?_)
  refine OK.ile (fun h => OK.roret (by omega)) (fun h2 => ?_)
  refine OK.grd ⟨by omega, by omega⟩ ?_
  exact OK.roret ⟨hI.recs _, .inr (.inr rfl)⟩


theorem k_X5_recordsOf_20 (p0 : Int32) (σ : ST) (hI : IA σ) : OK (f_X5_recordsOf 20 p0 σ) (RO σ fun v => (0 ≤ v.toInt ∧ v.toInt ≤ 36) ∧ (p0.toInt < 0 ∨ 6 ≤ p0.toInt ∨ v.toInt = (σ.1 (20 + 1) p0.toNatClampNeg).toInt)) := by
  unfold f_X5_recordsOf
  have lt_0 := li_0
  have lt_6 := li_6
  refine OK.ilt (fun h => OK.roret (by omega)) (fun h1 => ?_)
  refine OK.ile (fun h => OK.roret (by omega)) (fun h2 => ?_)
  refine OK.grd ⟨by omega, by omega⟩ ?_
  exact OK.roret ⟨hI.drecs _, .inr (.inr rfl)⟩


theorem k_X0_relate_22 {k7 : Int32 → Int32 → Int32 → ST → Option (ST)} {P : ST → Prop} : ∀ (n : Nat) (x1 : Int32) (x2 : Int32) (x3 : Int32) (x4 : Int32) (σ : ST), IA σ → (∀ s9 : ST, IA s9 → Fr σ s9 → OK (k7 x1 x2 (x3 + 1) s9) P) → (0 ≤ x4.toInt ∧ x4.toInt ≤ 36 ∧ (36 : Int) - x4.toInt < n) → OK (f_X0_relate_22 k7  n x1 x2 x3 x4 σ) P := by
  intro n
  induction n with
  | zero =>
    intro x1 x2 x3 x4 σ hI hk hv
    omega
  | succ n ih =>
    intro x1 x2 x3 x4 σ hI hk hv
    rw [f_X0_relate_22]
    have lt_0 := li_0
    have lt_1 := li_1
    have lt_6 := li_6
    have lFU : ((FU : Nat) : Int) = 100000 := rfl
    refine OK.bndR (k_X5_recordsOf_4 _ _ hI ) (fun v1 h2 => ?_)
    dsimp only
    refine OK.ile (fun h3 => ?_) (fun h3 => ?_)
    · skip
      obtain ⟨a4k, a4, a4l, a4r⟩ := i_add x3 1
      try (refine k0el (k := a4k) ?_ (fun e0 => ?_); (focus omega); subst e0)
      exact (hk _ hI Fr.rf)
    · skip
      refine OK.bndR (k_X0_mayPair _ _ _ hI ) (fun v5 h6 => ?_)
      dsimp only
      refine OK.ieq (fun h7 => ?_) (fun h7 => ?_)
      · skip
        unfold f_X0_relate_70
        try dsimp only
        obtain ⟨a8k, a8, a8l, a8r⟩ := i_add x4 1
        try (refine k0el (k := a8k) ?_ (fun e0 => ?_); (focus omega); subst e0)
        exact (ih _ _ _ _ _ hI (fun s9 i9 f9 => hk s9 i9 (Fr.trans Fr.rf f9)) (by omega))
      · skip
        refine OK.bndR (k_X0_bitOf _ _ _ hI ) (fun v9 h10 => ?_)
        dsimp only
        unfold f_X0_relate_70
        try dsimp only
        obtain ⟨a11k, a11, a11l, a11r⟩ := i_add x4 1
        try (refine k0el (k := a11k) ?_ (fun e0 => ?_); (focus omega); subst e0)
        exact (ih _ _ _ _ _ (ia_L hI) (fun s9 i9 f9 => hk s9 i9 (Fr.trans (fr_L Fr.rf) f9)) (by omega))

theorem k_X0_relate_121 {k87 : Int32 → Int32 → Int64 → Int32 → ST → Option (ST)} {k111 : Int32 → Int32 → Int64 → Int32 → Int32 → ST → Option (ST)} {P : ST → Prop} : ∀ (n : Nat) (x1 : Int32) (x2 : Int32) (x3 : Int64) (x5 : Int32) (x6 : Int32) (x7 : Int32) (σ : ST), IA σ → (∀ s9 : ST, IA s9 → Fr σ s9 → OK (k111 x1 x2 x3 x5 (x6 + 1) s9) P) → (0 ≤ x7.toInt ∧ x7.toInt ≤ 6 ∧ (6 : Int) - x7.toInt < n) → OK (f_X0_relate_121 k87 k111  n x1 x2 x3 x5 x6 x7 σ) P := by
  intro n
  induction n with
  | zero =>
    intro x1 x2 x3 x5 x6 x7 σ hI hk hv
    omega
  | succ n ih =>
    intro x1 x2 x3 x5 x6 x7 σ hI hk hv
    rw [f_X0_relate_121]
    have lt_0 := li_0
    have lt_1 := li_1
    have lt_6 := li_6
    have lFU : ((FU : Nat) : Int) = 100000 := rfl
    refine OK.ile (fun h1 => ?_) (fun h1 => ?_)
    · skip
      obtain ⟨a2k, a2, a2l, a2r⟩ := i_add x6 1
      try (refine k0el (k := a2k) ?_ (fun e0 => ?_); (focus omega); subst e0)
      exact (hk _ hI Fr.rf)
    · skip
      refine OK.bndR (k_X0_bitOf _ _ _ hI ) (fun v3 h4 => ?_)
      dsimp only
      refine OK.ieq (fun h5 => ?_) (fun h5 => ?_)
      · skip
        unfold f_X0_relate_186
        try dsimp only
        obtain ⟨a6k, a6, a6l, a6r⟩ := i_add x7 1
        try (refine k0el (k := a6k) ?_ (fun e0 => ?_); (focus omega); subst e0)
        exact (ih _ _ _ _ _ _ _ hI (fun s9 i9 f9 => hk s9 i9 (Fr.trans Fr.rf f9)) (by omega))
      · skip
        refine OK.bndR (k_X0_fieldsFit _ _ _ hI ) (fun v7 h8 => ?_)
        dsimp only
        refine OK.ieq (fun h9 => ?_) (fun h9 => ?_)
        · skip
          refine OK.bndR (k_X0_bitOf _ _ _ hI ) (fun v10 h11 => ?_)
          dsimp only
          unfold f_X0_relate_186
          try dsimp only
          obtain ⟨a12k, a12, a12l, a12r⟩ := i_add x7 1
          try (refine k0el (k := a12k) ?_ (fun e0 => ?_); (focus omega); subst e0)
          exact (ih _ _ _ _ _ _ _ (ia_L hI) (fun s9 i9 f9 => hk s9 i9 (Fr.trans (fr_L Fr.rf) f9)) (by omega))
        · skip
          unfold f_X0_relate_186
          try dsimp only
          obtain ⟨a13k, a13, a13l, a13r⟩ := i_add x7 1
          try (refine k0el (k := a13k) ?_ (fun e0 => ?_); (focus omega); subst e0)
          exact (ih _ _ _ _ _ _ _ hI (fun s9 i9 f9 => hk s9 i9 (Fr.trans Fr.rf f9)) (by omega))

theorem k_X0_relate_111 {k87 : Int32 → Int32 → Int64 → Int32 → ST → Option (ST)} {P : ST → Prop} : ∀ (n : Nat) (x1 : Int32) (x2 : Int32) (x3 : Int64) (x5 : Int32) (x6 : Int32) (σ : ST), IA σ → (∀ s9 : ST, IA s9 → Fr σ s9 → OK (k87 x1 x2 x3 (x5 + 1) s9) P) → (0 ≤ x6.toInt ∧ x6.toInt ≤ 6 ∧ (6 : Int) - x6.toInt < n) → OK (f_X0_relate_111 k87  n x1 x2 x3 x5 x6 σ) P := by
  intro n
  induction n with
  | zero =>
    intro x1 x2 x3 x5 x6 σ hI hk hv
    omega
  | succ n ih =>
    intro x1 x2 x3 x5 x6 σ hI hk hv
    rw [f_X0_relate_111]
    have lt_0 := li_0
    have lt_1 := li_1
    have lt_6 := li_6
    have lFU : ((FU : Nat) : Int) = 100000 := rfl
    refine OK.ile (fun h1 => ?_) (fun h1 => ?_)
    · skip
      obtain ⟨a2k, a2, a2l, a2r⟩ := i_add x5 1
      try (refine k0el (k := a2k) ?_ (fun e0 => ?_); (focus omega); subst e0)
      exact (hk _ hI Fr.rf)
    · skip
      obtain ⟨a3k, a3, a3l, a3r⟩ := i_add x6 1
      try (refine k0el (k := a3k) ?_ (fun e0 => ?_); (focus omega); subst e0)
      exact (k_X0_relate_121 FU _ _ _ _ _ _ _ hI (fun s9 i9 f9 => ih _ _ _ _ _ _ i9 (fun s8 i8 f8 => hk s8 i8 (Fr.trans (Fr.trans Fr.rf f9) f8)) (by omega)) (by omega))

theorem k_X0_relate_87 : ∀ (n : Nat) (x1 : Int32) (x2 : Int32) (x3 : Int64) (x5 : Int32) (σ : ST), IA σ → (0 ≤ x5.toInt ∧ x5.toInt ≤ 37 ∧ (37 : Int) - x5.toInt < n) → OK (f_X0_relate_87  n x1 x2 x3 x5 σ) (RS σ) := by
  intro n
  induction n with
  | zero =>
    intro x1 x2 x3 x5 σ hI hv
    omega
  | succ n ih =>
    intro x1 x2 x3 x5 σ hI hv
    rw [f_X0_relate_87]
    have lt_0 := li_0
    have lt_1 := li_1
    have lt_36 := li_36
    have lFU : ((FU : Nat) : Int) = 100000 := rfl
    refine OK.ilt (fun h1 => ?_) (fun h1 => ?_)
    · skip
      exact OK.sret hI Fr.rf
    · skip
      refine OK.ieq (fun h2 => ?_) (fun h2 => ?_)
      · skip
        exact OK.sret hI Fr.rf
      · skip
        obtain ⟨a3k, a3, a3l, a3r⟩ := i_add x5 1
        try (refine k0el (k := a3k) ?_ (fun e0 => ?_); (focus omega); subst e0)
        exact (k_X0_relate_111 FU _ _ _ _ _ _ hI (fun s9 i9 f9 => OK.trS (ih _ _ _ _ _ i9 (by omega)) (Fr.trans Fr.rf f9)) (by omega))

theorem k_X0_relate_7 : ∀ (n : Nat) (x1 : Int32) (x2 : Int32) (x3 : Int32) (σ : ST), IA σ → (0 ≤ x3.toInt ∧ x3.toInt ≤ 36 ∧ (36 : Int) - x3.toInt < n) → OK (f_X0_relate_7  n x1 x2 x3 σ) (RS σ) := by
  intro n
  induction n with
  | zero =>
    intro x1 x2 x3 σ hI hv
    omega
  | succ n ih =>
    intro x1 x2 x3 σ hI hv
    rw [f_X0_relate_7]
    have lt_0 := li_0
    have lt_1 := li_1
    have lFU : ((FU : Nat) : Int) = 100000 := rfl
    refine OK.bndR (k_X5_recordsOf_4 _ _ hI ) (fun v1 h2 => ?_)
    dsimp only
    refine OK.ile (fun h3 => ?_) (fun h3 => ?_)
    · skip
      exact OK.trS (k_X0_relate_87 FU _ _ _ _ _ hI (by omega)) Fr.rf
    · skip
      obtain ⟨a4k, a4, a4l, a4r⟩ := i_add x3 1
      try (refine k0el (k := a4k) ?_ (fun e0 => ?_); (focus omega); subst e0)
      exact (k_X0_relate_22 FU _ _ _ _ _ hI (fun s9 i9 f9 => OK.trS (ih _ _ _ _ i9 (by omega)) (Fr.trans Fr.rf f9)) (by omega))

theorem k_X0_relate (p0 : Int32) (p1 : Int32) (σ : ST) (hI : IA σ)  : OK (f_X0_relate  p0 p1 σ) (RS σ) := by
  unfold f_X0_relate
  have lt_0 := li_0
  have lt_1 := li_1
  have lFU : ((FU : Nat) : Int) = 100000 := rfl
  exact OK.trS (k_X0_relate_7 FU _ _ _ _ (ia_L hI) (by omega)) (fr_L Fr.rf)

theorem k_X0_turnTo_47 (x3 : Int32) (σ : ST) (hI : IA σ) (hp0 : 0 ≤ x3.toInt ∧ x3.toInt < 36)  : OK (f_X0_turnTo_47  x3 σ) (RS σ) := by
  unfold f_X0_turnTo_47
  have lt_0 := li_0
  have lt_1 := li_1
  have lFU : ((FU : Nat) : Int) = 100000 := rfl
  refine OK.grd ⟨by omega, by omega⟩ ?_
  exact OK.sret (ia_L hI) (fr_L Fr.rf)

theorem k_X0_turnTo (p0 : Int32) (p1 : Int32) (σ : ST) (hI : IA σ)  : OK (f_X0_turnTo  p0 p1 σ) (RS σ) := by
  unfold f_X0_turnTo
  have lt_0 := li_0
  have lt_1 := li_1
  have lFU : ((FU : Nat) : Int) = 100000 := rfl
  refine OK.bndR (k_X0_pairOf _ _ _ hI ) (fun v1 h2 => ?_)
  dsimp only
  refine OK.ieq (fun h3 => ?_) (fun h3 => ?_)
  · skip
    refine OK.bndS (k_X0_relate _ _ _ hI ) Fr.rf (fun s4 is4 fs4 => ?_)
    try dsimp only
    refine OK.grd ⟨by omega, by omega⟩ ?_
    refine OK.lt (fun z5 h6 => ?_)
    have iz5 : IA z5 := by rw [h6]; exact (ia_L (ia_L is4))
    have fz5 : Fr σ z5 := by rw [h6]; exact (fr_L (fr_L fs4))
    exact OK.trS (k_X0_turnTo_47 _ _ iz5 (show 0 ≤ v1.toInt ∧ v1.toInt < 36 from by omega)) fz5
  · skip
    exact OK.trS (k_X0_turnTo_47 _ _ hI (show 0 ≤ v1.toInt ∧ v1.toInt < 36 from by omega)) Fr.rf

theorem k_X0_findMisses (p0 : Int32) (p1 : Int32) (σ : ST) (hI : IA σ)  : OK (f_X0_findMisses  p0 p1 σ) (RS σ) := by
  unfold f_X0_findMisses
  have lt_0 := li_0
  have lt_1 := li_1
  have lFU : ((FU : Nat) : Int) = 100000 := rfl
  refine OK.bndS (k_X0_turnTo _ _ _ hI ) Fr.rf (fun s1 is1 fs1 => ?_)
  try dsimp only
  refine OK.bndS (k_X0_collectMisses _ _ _ is1 ) fs1 (fun s2 is2 fs2 => ?_)
  try dsimp only
  exact OK.sret is2 fs2

theorem k_X0_isMiss (p0 : Int32) (σ : ST) (hI : IA σ)  : OK (f_X0_isMiss  p0 σ) (RO σ fun v => v.toInt = 0 ∨ v.toInt = 1 ∧ 0 ≤ p0.toInt ∧ p0.toInt < 20) := by
  unfold f_X0_isMiss
  have lt_0 := li_0
  have lt_1 := li_1
  have lt_20 := li_20
  have lFU : ((FU : Nat) : Int) = 100000 := rfl
  refine OK.ilt (fun h1 => ?_) (fun h1 => ?_)
  · skip
    exact OK.roret (by first | trivial | omega | exact hI.flds _ | exact hI.dflds _ | exact hI.recs _ | exact hI.drecs _ | exact hI.droot _ | omega)
  · skip
    refine OK.ile (fun h2 => ?_) (fun h2 => ?_)
    · skip
      exact OK.roret (by first | trivial | omega | exact hI.flds _ | exact hI.dflds _ | exact hI.recs _ | exact hI.drecs _ | exact hI.droot _ | omega)
    · skip
      refine OK.ile (fun h3 => ?_) (fun h3 => ?_)
      · skip
        exact OK.roret (by first | trivial | omega | exact hI.flds _ | exact hI.dflds _ | exact hI.recs _ | exact hI.drecs _ | exact hI.droot _ | omega)
      · skip
        exact OK.roret (by first | trivial | omega | exact hI.flds _ | exact hI.dflds _ | exact hI.recs _ | exact hI.drecs _ | exact hI.droot _ | omega)

theorem k_X0_missKind (p0 : Int32) (σ : ST) (hI : IA σ)  : OK (f_X0_missKind  p0 σ) (RO σ fun v => True) := by
  unfold f_X0_missKind
  have lt_m1 := li_m1
  have lt_0 := li_0
  have lt_1 := li_1
  have lFU : ((FU : Nat) : Int) = 100000 := rfl
  refine OK.bndR (k_X0_isMiss _ _ hI ) (fun v1 h2 => ?_)
  dsimp only
  refine OK.ieq (fun h3 => ?_) (fun h3 => ?_)
  · skip
    exact OK.roret (by first | trivial | omega | exact hI.flds _ | exact hI.dflds _ | exact hI.recs _ | exact hI.drecs _ | exact hI.droot _ | omega)
  · skip
    refine OK.grd ⟨by omega, by omega⟩ ?_
    exact OK.roret (by first | trivial | omega | exact hI.flds _ | exact hI.dflds _ | exact hI.recs _ | exact hI.drecs _ | exact hI.droot _ | omega)

theorem k_X0_missSteps (p0 : Int32) (σ : ST) (hI : IA σ)  : OK (f_X0_missSteps  p0 σ) (RO σ fun v => True) := by
  unfold f_X0_missSteps
  have lt_m1 := li_m1
  have lt_0 := li_0
  have lt_1 := li_1
  have lFU : ((FU : Nat) : Int) = 100000 := rfl
  refine OK.bndR (k_X0_isMiss _ _ hI ) (fun v1 h2 => ?_)
  dsimp only
  refine OK.ieq (fun h3 => ?_) (fun h3 => ?_)
  · skip
    exact OK.roret (by first | trivial | omega | exact hI.flds _ | exact hI.dflds _ | exact hI.recs _ | exact hI.drecs _ | exact hI.droot _ | omega)
  · skip
    refine OK.grd ⟨by omega, by omega⟩ ?_
    exact OK.roret (by first | trivial | omega | exact hI.flds _ | exact hI.dflds _ | exact hI.recs _ | exact hI.drecs _ | exact hI.droot _ | omega)

theorem k_X0_rootsFit (σ : ST) (hI : IA σ)  : OK (f_X0_rootsFit  σ) (RO σ fun v => v.toInt = 0 ∨ v.toInt = 1) := by
  unfold f_X0_rootsFit
  have lt_0 := li_0
  have lt_1 := li_1
  have lFU : ((FU : Nat) : Int) = 100000 := rfl
  refine OK.bndR (k_X0_bitOf _ _ _ hI ) (fun v1 h2 => ?_)
  dsimp only
  refine OK.ieq (fun h3 => ?_) (fun h3 => ?_)
  · skip
    exact OK.roret (by first | trivial | omega | exact hI.flds _ | exact hI.dflds _ | exact hI.recs _ | exact hI.drecs _ | exact hI.droot _ | omega)
  · skip
    exact OK.roret (by first | trivial | omega | exact hI.flds _ | exact hI.dflds _ | exact hI.recs _ | exact hI.drecs _ | exact hI.droot _ | omega)

theorem k_X0_stepOfMiss (p0 : Int32) (p1 : Int32) (σ : ST) (hI : IA σ)  : OK (f_X0_stepOfMiss  p0 p1 σ) (RO σ fun v => True) := by
  unfold f_X0_stepOfMiss
  have lt_m1 := li_m1
  have lt_0 := li_0
  have lt_1 := li_1
  have lt_32 := li_32
  have lFU : ((FU : Nat) : Int) = 100000 := rfl
  refine OK.bndR (k_X0_isMiss _ _ hI ) (fun v1 h2 => ?_)
  dsimp only
  refine OK.ieq (fun h3 => ?_) (fun h3 => ?_)
  · skip
    exact OK.roret (by first | trivial | omega | exact hI.flds _ | exact hI.dflds _ | exact hI.recs _ | exact hI.drecs _ | exact hI.droot _ | omega)
  · skip
    refine OK.ilt (fun h4 => ?_) (fun h4 => ?_)
    · skip
      exact OK.roret (by first | trivial | omega | exact hI.flds _ | exact hI.dflds _ | exact hI.recs _ | exact hI.drecs _ | exact hI.droot _ | omega)
    · skip
      refine OK.grd ⟨by omega, by omega⟩ ?_
      refine OK.ile (fun h5 => ?_) (fun h5 => ?_)
      · skip
        exact OK.roret (by first | trivial | omega | exact hI.flds _ | exact hI.dflds _ | exact hI.recs _ | exact hI.drecs _ | exact hI.droot _ | omega)
      · skip
        refine OK.ile (fun h6 => ?_) (fun h6 => ?_)
        · skip
          exact OK.roret (by first | trivial | omega | exact hI.flds _ | exact hI.dflds _ | exact hI.recs _ | exact hI.drecs _ | exact hI.droot _ | omega)
        · skip
          obtain ⟨a7k, a7, a7l, a7r⟩ := i_mul p0 32
          rw [li_32] at a7
          try (refine k0el (k := a7k) ?_ (fun e0 => ?_); (focus omega); subst e0)
          obtain ⟨a8k, a8, a8l, a8r⟩ := i_add (p0 * 32) p1
          try (refine k0el (k := a8k) ?_ (fun e0 => ?_); (focus omega); subst e0)
          refine OK.grd ⟨by omega, by omega⟩ ?_
          exact OK.roret (by first | trivial | omega | exact hI.flds _ | exact hI.dflds _ | exact hI.recs _ | exact hI.drecs _ | exact hI.droot _ | omega)

theorem k_X0_verdict_61 (x3 : Int32) (σ : ST) (hI : IA σ) (hp0 : 0 ≤ x3.toInt ∧ x3.toInt < 36)  : OK (f_X0_verdict_61  x3 σ) (RO σ fun v => True) := by
  unfold f_X0_verdict_61
  have lt_0 := li_0
  have lt_1 := li_1
  have lFU : ((FU : Nat) : Int) = 100000 := rfl
  refine OK.grd ⟨by omega, by omega⟩ ?_
  exact OK.roret (by first | trivial | omega | exact hI.flds _ | exact hI.dflds _ | exact hI.recs _ | exact hI.drecs _ | exact hI.droot _ | omega)

theorem k_X0_verdict_60 (x3 : Int32) (y0 : Int32) (y1 : Int32) (σ : ST) (hI : IA σ) (hp0 : 0 ≤ x3.toInt ∧ x3.toInt < 36 ∧ 0 ≤ y1.toInt ∧ y1.toInt < 36)  : OK (f_X0_verdict_60  x3 y0 y1 σ) (RW σ fun v => True) := by
  unfold f_X0_verdict_60
  have lt_0 := li_0
  have lt_1 := li_1
  have lFU : ((FU : Nat) : Int) = 100000 := rfl
  refine OK.grd ⟨by omega, by omega⟩ ?_
  exact OK.row (k_X0_verdict_61 _ _ (ia_I_43 hI) (show 0 ≤ x3.toInt ∧ x3.toInt < 36 from by omega)) (ia_I_43 hI) (fr_I_43 Fr.rf) (fun v hv => by first | trivial | omega | exact hI.flds _ | exact hI.dflds _ | exact hI.recs _ | exact hI.drecs _ | exact hI.droot _ | omega)

theorem k_X0_verdict_40 (x3 : Int32) (y0 : Int32) (σ : ST) (hI : IA σ) (hp0 : 0 ≤ x3.toInt ∧ x3.toInt < 36)  : OK (f_X0_verdict_40  x3 y0 σ) (RW σ fun v => True) := by
  unfold f_X0_verdict_40
  have lt_0 := li_0
  have lt_1 := li_1
  have lt_2 := li_2
  have lFU : ((FU : Nat) : Int) = 100000 := rfl
  refine OK.bndR (k_X0_rootsFit _ hI ) (fun v1 h2 => ?_)
  dsimp only
  refine OK.ieq (fun h3 => ?_) (fun h3 => ?_)
  · skip
    exact OK.trW (k_X0_verdict_60 _ _ _ _ hI (show 0 ≤ x3.toInt ∧ x3.toInt < 36 ∧ 0 ≤ x3.toInt ∧ x3.toInt < 36 from by omega)) Fr.rf (fun v hv => by first | trivial | omega | exact hI.flds _ | exact hI.dflds _ | exact hI.recs _ | exact hI.drecs _ | exact hI.droot _ | omega)
  · skip
    exact OK.trW (k_X0_verdict_60 _ _ _ _ hI (show 0 ≤ x3.toInt ∧ x3.toInt < 36 ∧ 0 ≤ x3.toInt ∧ x3.toInt < 36 from by omega)) Fr.rf (fun v hv => by first | trivial | omega | exact hI.flds _ | exact hI.dflds _ | exact hI.recs _ | exact hI.drecs _ | exact hI.droot _ | omega)

theorem k_X0_verdict (p0 : Int32) (p1 : Int32) (σ : ST) (hI : IA σ)  : OK (f_X0_verdict  p0 p1 σ) (RW σ fun v => True) := by
  unfold f_X0_verdict
  have lt_m1 := li_m1
  have lt_0 := li_0
  have lt_1 := li_1
  have lFU : ((FU : Nat) : Int) = 100000 := rfl
  refine OK.bndR (k_X0_pairOf _ _ _ hI ) (fun v1 h2 => ?_)
  dsimp only
  refine OK.grd ⟨by omega, by omega⟩ ?_
  refine OK.ieq (fun h3 => ?_) (fun h3 => ?_)
  · skip
    refine OK.bndS (k_X0_turnTo _ _ _ hI ) Fr.rf (fun s4 is4 fs4 => ?_)
    try dsimp only
    refine OK.bndS (k_X0_collectMisses _ _ _ is4 ) fs4 (fun s5 is5 fs5 => ?_)
    try dsimp only
    refine OK.ile (fun h6 => ?_) (fun h6 => ?_)
    · skip
      exact OK.trW (k_X0_verdict_40 _ _ _ is5 (show 0 ≤ v1.toInt ∧ v1.toInt < 36 from by omega)) fs5 (fun v hv => by first | trivial | omega | exact hI.flds _ | exact hI.dflds _ | exact hI.recs _ | exact hI.drecs _ | exact hI.droot _ | omega)
    · skip
      exact OK.trW (k_X0_verdict_40 _ _ _ is5 (show 0 ≤ v1.toInt ∧ v1.toInt < 36 from by omega)) fs5 (fun v hv => by first | trivial | omega | exact hI.flds _ | exact hI.dflds _ | exact hI.recs _ | exact hI.drecs _ | exact hI.droot _ | omega)
  · skip
    exact OK.row (k_X0_verdict_61 _ _ hI (show 0 ≤ v1.toInt ∧ v1.toInt < 36 from by omega)) hI Fr.rf (fun v hv => by first | trivial | omega | exact hI.flds _ | exact hI.dflds _ | exact hI.recs _ | exact hI.drecs _ | exact hI.droot _ | omega)

theorem k_X10_isPlan (p0 : Int32) (σ : ST) (hI : IA σ)  : OK (f_X10_isPlan  p0 σ) (RO σ fun v => v.toInt = 0 ∨ v.toInt = 1 ∧ 0 ≤ p0.toInt ∧ p0.toInt < 6) := by
  unfold f_X10_isPlan
  have lt_0 := li_0
  have lt_1 := li_1
  have lFU : ((FU : Nat) : Int) = 100000 := rfl
  have g0 : 0 ≤ (σ.1 4 0).toInt ∧ (σ.1 4 0).toInt ≤ 6 := hI.plans
  refine OK.ilt (fun h1 => ?_) (fun h1 => ?_)
  · skip
    exact OK.roret (by first | trivial | omega | exact hI.flds _ | exact hI.dflds _ | exact hI.recs _ | exact hI.drecs _ | exact hI.droot _ | omega)
  · skip
    have g2 : 0 ≤ (σ.1 4 0).toInt ∧ (σ.1 4 0).toInt ≤ 6 := hI.plans
    refine OK.ile (fun h3 => ?_) (fun h3 => ?_)
    · skip
      exact OK.roret (by first | trivial | omega | exact hI.flds _ | exact hI.dflds _ | exact hI.recs _ | exact hI.drecs _ | exact hI.droot _ | omega)
    · skip
      exact OK.roret (by first | trivial | omega | exact hI.flds _ | exact hI.dflds _ | exact hI.recs _ | exact hI.drecs _ | exact hI.droot _ | omega)

theorem k_X1_isNumber (p0 : Int32) (σ : ST) (hI : IA σ)  : OK (f_X1_isNumber  p0 σ) (RO σ fun v => v.toInt = 0 ∨ v.toInt = 1 ∧ 0 ≤ p0.toInt ∧ p0.toInt < 4) := by
  unfold f_X1_isNumber
  have lt_0 := li_0
  have lt_1 := li_1
  have lt_4 := li_4
  have lFU : ((FU : Nat) : Int) = 100000 := rfl
  refine OK.ilt (fun h1 => ?_) (fun h1 => ?_)
  · skip
    exact OK.roret (by first | trivial | omega | exact hI.flds _ | exact hI.dflds _ | exact hI.recs _ | exact hI.drecs _ | exact hI.droot _ | omega)
  · skip
    refine OK.ile (fun h2 => ?_) (fun h2 => ?_)
    · skip
      exact OK.roret (by first | trivial | omega | exact hI.flds _ | exact hI.dflds _ | exact hI.recs _ | exact hI.drecs _ | exact hI.droot _ | omega)
    · skip
      exact OK.roret (by first | trivial | omega | exact hI.flds _ | exact hI.dflds _ | exact hI.recs _ | exact hI.drecs _ | exact hI.droot _ | omega)

theorem k_X1_isWritten (p0 : Int32) (σ : ST) (hI : IA σ)  : OK (f_X1_isWritten  p0 σ) (RO σ fun v => v.toInt = 0 ∨ v.toInt = 1 ∧ 0 ≤ p0.toInt ∧ p0.toInt < 4) := by
  unfold f_X1_isWritten
  have lt_m1 := li_m1
  have lt_0 := li_0
  have lt_1 := li_1
  have lFU : ((FU : Nat) : Int) = 100000 := rfl
  refine OK.bndR (k_X1_isNumber _ _ hI ) (fun v1 h2 => ?_)
  dsimp only
  refine OK.ieq (fun h3 => ?_) (fun h3 => ?_)
  · skip
    exact OK.roret (by first | trivial | omega | exact hI.flds _ | exact hI.dflds _ | exact hI.recs _ | exact hI.drecs _ | exact hI.droot _ | omega)
  · skip
    refine OK.grd ⟨by omega, by omega⟩ ?_
    refine OK.ieq (fun h4 => ?_) (fun h4 => ?_)
    · skip
      exact OK.roret (by first | trivial | omega | exact hI.flds _ | exact hI.dflds _ | exact hI.recs _ | exact hI.drecs _ | exact hI.droot _ | omega)
    · skip
      exact OK.roret (by first | trivial | omega | exact hI.flds _ | exact hI.dflds _ | exact hI.recs _ | exact hI.drecs _ | exact hI.droot _ | omega)

theorem k_X1_planOf (p0 : Int32) (σ : ST) (hI : IA σ)  : OK (f_X1_planOf  p0 σ) (RO σ fun v => True) := by
  unfold f_X1_planOf
  have lt_m1 := li_m1
  have lt_0 := li_0
  have lt_1 := li_1
  have lFU : ((FU : Nat) : Int) = 100000 := rfl
  refine OK.bndR (k_X1_isNumber _ _ hI ) (fun v1 h2 => ?_)
  dsimp only
  refine OK.ieq (fun h3 => ?_) (fun h3 => ?_)
  · skip
    exact OK.roret (by first | trivial | omega | exact hI.flds _ | exact hI.dflds _ | exact hI.recs _ | exact hI.drecs _ | exact hI.droot _ | omega)
  · skip
    refine OK.grd ⟨by omega, by omega⟩ ?_
    exact OK.roret (by first | trivial | omega | exact hI.flds _ | exact hI.dflds _ | exact hI.recs _ | exact hI.drecs _ | exact hI.droot _ | omega)

theorem k_X1_sizeOf (p0 : Int32) (σ : ST) (hI : IA σ)  : OK (f_X1_sizeOf  p0 σ) (RO σ fun v => True) := by
  unfold f_X1_sizeOf
  have lt_0 := li_0
  have lt_1 := li_1
  have lFU : ((FU : Nat) : Int) = 100000 := rfl
  refine OK.bndR (k_X1_isNumber _ _ hI ) (fun v1 h2 => ?_)
  dsimp only
  refine OK.ieq (fun h3 => ?_) (fun h3 => ?_)
  · skip
    exact OK.roret (by first | trivial | omega | exact hI.flds _ | exact hI.dflds _ | exact hI.recs _ | exact hI.drecs _ | exact hI.droot _ | omega)
  · skip
    refine OK.grd ⟨by omega, by omega⟩ ?_
    exact OK.roret (by first | trivial | omega | exact hI.flds _ | exact hI.dflds _ | exact hI.recs _ | exact hI.drecs _ | exact hI.droot _ | omega)

theorem k_X4_fail_29_89_50 (σ : ST) (hI : IA σ) (hT : σ.2.2.2 89 = 50)  : OK (f_X4_fail_29 89 50 σ) (RS σ) := by
  unfold f_X4_fail_29
  have lt_0 := li_0
  have lt_1 := li_1
  have lFU : ((FU : Nat) : Int) = 100000 := rfl
  exact OK.sret (ia_I_89 hI) (fr_I_89 Fr.rf)

theorem k_X4_fail_29_92_62 (σ : ST) (hI : IA σ) (hT : σ.2.2.2 92 = 62)  : OK (f_X4_fail_29 92 62 σ) (RS σ) := by
  unfold f_X4_fail_29
  have lt_0 := li_0
  have lt_1 := li_1
  have lFU : ((FU : Nat) : Int) = 100000 := rfl
  exact OK.sret (ia_I_92 hI) (fr_I_92 Fr.rf)

theorem k_X4_fail_29_92_74 (σ : ST) (hI : IA σ) (hT : σ.2.2.2 92 = 74)  : OK (f_X4_fail_29 92 74 σ) (RS σ) := by
  unfold f_X4_fail_29
  have lt_0 := li_0
  have lt_1 := li_1
  have lFU : ((FU : Nat) : Int) = 100000 := rfl
  exact OK.sret (ia_I_92 hI) (fr_I_92 Fr.rf)

theorem k_X4_fail_89_50 (p0 : Int32) (p1 : Int32) (σ : ST) (hI : IA σ) (hT : σ.2.2.2 89 = 50)  : OK (f_X4_fail 89 50 p0 p1 σ) (RS σ) := by
  unfold f_X4_fail
  have lt_0 := li_0
  have lt_1 := li_1
  have lt_14 := li_14
  have lt_15 := li_15
  have lFU : ((FU : Nat) : Int) = 100000 := rfl
  refine OK.ieq (fun h1 => ?_) (fun h1 => ?_)
  · skip
    refine OK.ieq (fun h2 => ?_) (fun h2 => ?_)
    · skip
      exact OK.trS (k_X4_fail_29_89_50 _ (ia_I_89 (ia_I_89 hI)) (by first | exact hT | exact hI.r89 | (rw [(fr_I_89 (fr_I_89 Fr.rf)).2.2.2]; exact hT))) (fr_I_89 (fr_I_89 Fr.rf))
    · skip
      refine OK.ieq (fun h3 => ?_) (fun h3 => ?_)
      · skip
        exact OK.trS (k_X4_fail_29_89_50 _ (ia_I_89 (ia_I_89 hI)) (by first | exact hT | exact hI.r89 | (rw [(fr_I_89 (fr_I_89 Fr.rf)).2.2.2]; exact hT))) (fr_I_89 (fr_I_89 Fr.rf))
      · skip
        exact OK.sret (ia_I_89 (ia_I_89 hI)) (fr_I_89 (fr_I_89 Fr.rf))
  · skip
    exact OK.sret hI Fr.rf

theorem k_X4_fail_92_62 (p0 : Int32) (p1 : Int32) (σ : ST) (hI : IA σ) (hT : σ.2.2.2 92 = 62)  : OK (f_X4_fail 92 62 p0 p1 σ) (RS σ) := by
  unfold f_X4_fail
  have lt_0 := li_0
  have lt_1 := li_1
  have lt_14 := li_14
  have lt_15 := li_15
  have lFU : ((FU : Nat) : Int) = 100000 := rfl
  refine OK.ieq (fun h1 => ?_) (fun h1 => ?_)
  · skip
    refine OK.ieq (fun h2 => ?_) (fun h2 => ?_)
    · skip
      exact OK.trS (k_X4_fail_29_92_62 _ (ia_I_92 (ia_I_92 hI)) (by first | exact hT | exact hI.r89 | (rw [(fr_I_92 (fr_I_92 Fr.rf)).2.2.2]; exact hT))) (fr_I_92 (fr_I_92 Fr.rf))
    · skip
      refine OK.ieq (fun h3 => ?_) (fun h3 => ?_)
      · skip
        exact OK.trS (k_X4_fail_29_92_62 _ (ia_I_92 (ia_I_92 hI)) (by first | exact hT | exact hI.r89 | (rw [(fr_I_92 (fr_I_92 Fr.rf)).2.2.2]; exact hT))) (fr_I_92 (fr_I_92 Fr.rf))
      · skip
        exact OK.sret (ia_I_92 (ia_I_92 hI)) (fr_I_92 (fr_I_92 Fr.rf))
  · skip
    exact OK.sret hI Fr.rf

theorem k_X4_fail_92_74 (p0 : Int32) (p1 : Int32) (σ : ST) (hI : IA σ) (hT : σ.2.2.2 92 = 74)  : OK (f_X4_fail 92 74 p0 p1 σ) (RS σ) := by
  unfold f_X4_fail
  have lt_0 := li_0
  have lt_1 := li_1
  have lt_14 := li_14
  have lt_15 := li_15
  have lFU : ((FU : Nat) : Int) = 100000 := rfl
  refine OK.ieq (fun h1 => ?_) (fun h1 => ?_)
  · skip
    refine OK.ieq (fun h2 => ?_) (fun h2 => ?_)
    · skip
      exact OK.trS (k_X4_fail_29_92_74 _ (ia_I_92 (ia_I_92 hI)) (by first | exact hT | exact hI.r89 | (rw [(fr_I_92 (fr_I_92 Fr.rf)).2.2.2]; exact hT))) (fr_I_92 (fr_I_92 Fr.rf))
    · skip
      refine OK.ieq (fun h3 => ?_) (fun h3 => ?_)
      · skip
        exact OK.trS (k_X4_fail_29_92_74 _ (ia_I_92 (ia_I_92 hI)) (by first | exact hT | exact hI.r89 | (rw [(fr_I_92 (fr_I_92 Fr.rf)).2.2.2]; exact hT))) (fr_I_92 (fr_I_92 Fr.rf))
      · skip
        exact OK.sret (ia_I_92 (ia_I_92 hI)) (fr_I_92 (fr_I_92 Fr.rf))
  · skip
    exact OK.sret hI Fr.rf

theorem k_X5_emptyHeight_4 (p0 : Int32) (σ : ST) (hI : IA σ)  : OK (f_X5_emptyHeight 4 p0 σ) (RO σ fun v => True) := by
  unfold f_X5_emptyHeight
  have lt_m1 := li_m1
  have lt_0 := li_0
  have lt_1 := li_1
  have lt_7 := li_7
  have lFU : ((FU : Nat) : Int) = 100000 := rfl
  refine OK.bndR (k_X5_sortOf_4 _ _ hI ) (fun v1 h2 => ?_)
  dsimp only
  refine OK.ieq (fun h3 => ?_) (fun h3 => ?_)
  · skip
    exact OK.roret (by first | trivial | omega | exact hI.flds _ | exact hI.dflds _ | exact hI.recs _ | exact hI.drecs _ | exact hI.droot _ | omega)
  · skip
    refine OK.bndR (k_X5_innerOf_4 _ _ hI ) (fun v4 h5 => ?_)
    dsimp only
    refine OK.bndR (k_X5_sortOf_4 _ _ hI ) (fun v6 h7 => ?_)
    dsimp only
    refine OK.ieq (fun h8 => ?_) (fun h8 => ?_)
    · skip
      refine OK.bndR (k_X5_isRecord _ _ hI ) (fun v9 h10 => ?_)
      dsimp only
      refine OK.ieq (fun h11 => ?_) (fun h11 => ?_)
      · skip
        exact OK.roret (by first | trivial | omega | exact hI.flds _ | exact hI.dflds _ | exact hI.recs _ | exact hI.drecs _ | exact hI.droot _ | omega)
      · skip
        refine OK.grd ⟨by omega, by omega⟩ ?_
        exact OK.roret (by first | trivial | omega | exact hI.flds _ | exact hI.dflds _ | exact hI.recs _ | exact hI.drecs _ | exact hI.droot _ | omega)
    · skip
      exact OK.roret (by first | trivial | omega | exact hI.flds _ | exact hI.dflds _ | exact hI.recs _ | exact hI.drecs _ | exact hI.droot _ | omega)

theorem k_X4_isEmptyThere_89_50 (p0 : Int32) (p1 : Int32) (σ : ST) (hI : IA σ) (hT : σ.2.2.2 89 = 50)  : OK (f_X4_isEmptyThere 89 50 p0 p1 σ) (RO σ fun v => v.toInt = 0 ∨ v.toInt = 1) := by
  unfold f_X4_isEmptyThere
  have lt_m1 := li_m1
  have lt_0 := li_0
  have lt_1 := li_1
  have lt_31 := li_31
  have lFU : ((FU : Nat) : Int) = 100000 := rfl
  refine OK.bndR (k_X5_emptyHeight_4 _ _ hI ) (fun v1 h2 => ?_)
  dsimp only
  refine OK.ieq (fun h3 => ?_) (fun h3 => ?_)
  · skip
    exact OK.roret (by first | trivial | omega | exact hI.flds _ | exact hI.dflds _ | exact hI.recs _ | exact hI.drecs _ | exact hI.droot _ | omega)
  · skip
    obtain ⟨a4k, a4, a4l, a4r⟩ := i_add p1 v1
    try (refine k0el (k := a4k) ?_ (fun e0 => ?_); (focus omega); subst e0)
    refine OK.ile (fun h5 => ?_) (fun h5 => ?_)
    · skip
      exact OK.roret (by first | trivial | omega | exact hI.flds _ | exact hI.dflds _ | exact hI.recs _ | exact hI.drecs _ | exact hI.droot _ | omega)
    · skip
      exact OK.roret (by first | trivial | omega | exact hI.flds _ | exact hI.dflds _ | exact hI.recs _ | exact hI.drecs _ | exact hI.droot _ | omega)

theorem k_X4_isEmptyThere_92_62 (p0 : Int32) (p1 : Int32) (σ : ST) (hI : IA σ) (hT : σ.2.2.2 92 = 62)  : OK (f_X4_isEmptyThere 92 62 p0 p1 σ) (RO σ fun v => v.toInt = 0 ∨ v.toInt = 1) := by
  unfold f_X4_isEmptyThere
  have lt_m1 := li_m1
  have lt_0 := li_0
  have lt_1 := li_1
  have lt_31 := li_31
  have lFU : ((FU : Nat) : Int) = 100000 := rfl
  refine OK.bndR (k_X5_emptyHeight_4 _ _ hI ) (fun v1 h2 => ?_)
  dsimp only
  refine OK.ieq (fun h3 => ?_) (fun h3 => ?_)
  · skip
    exact OK.roret (by first | trivial | omega | exact hI.flds _ | exact hI.dflds _ | exact hI.recs _ | exact hI.drecs _ | exact hI.droot _ | omega)
  · skip
    obtain ⟨a4k, a4, a4l, a4r⟩ := i_add p1 v1
    try (refine k0el (k := a4k) ?_ (fun e0 => ?_); (focus omega); subst e0)
    refine OK.ile (fun h5 => ?_) (fun h5 => ?_)
    · skip
      exact OK.roret (by first | trivial | omega | exact hI.flds _ | exact hI.dflds _ | exact hI.recs _ | exact hI.drecs _ | exact hI.droot _ | omega)
    · skip
      exact OK.roret (by first | trivial | omega | exact hI.flds _ | exact hI.dflds _ | exact hI.recs _ | exact hI.drecs _ | exact hI.droot _ | omega)

theorem k_X4_isEmptyThere_92_74 (p0 : Int32) (p1 : Int32) (σ : ST) (hI : IA σ) (hT : σ.2.2.2 92 = 74)  : OK (f_X4_isEmptyThere 92 74 p0 p1 σ) (RO σ fun v => v.toInt = 0 ∨ v.toInt = 1) := by
  unfold f_X4_isEmptyThere
  have lt_m1 := li_m1
  have lt_0 := li_0
  have lt_1 := li_1
  have lt_31 := li_31
  have lFU : ((FU : Nat) : Int) = 100000 := rfl
  refine OK.bndR (k_X5_emptyHeight_4 _ _ hI ) (fun v1 h2 => ?_)
  dsimp only
  refine OK.ieq (fun h3 => ?_) (fun h3 => ?_)
  · skip
    exact OK.roret (by first | trivial | omega | exact hI.flds _ | exact hI.dflds _ | exact hI.recs _ | exact hI.drecs _ | exact hI.droot _ | omega)
  · skip
    obtain ⟨a4k, a4, a4l, a4r⟩ := i_add p1 v1
    try (refine k0el (k := a4k) ?_ (fun e0 => ?_); (focus omega); subst e0)
    refine OK.ile (fun h5 => ?_) (fun h5 => ?_)
    · skip
      exact OK.roret (by first | trivial | omega | exact hI.flds _ | exact hI.dflds _ | exact hI.recs _ | exact hI.drecs _ | exact hI.droot _ | omega)
    · skip
      exact OK.roret (by first | trivial | omega | exact hI.flds _ | exact hI.dflds _ | exact hI.recs _ | exact hI.drecs _ | exact hI.droot _ | omega)

theorem k_X4_step_26_89_50 (σ : ST) (hI : IA σ) (hT : σ.2.2.2 89 = 50)  : OK (f_X4_step_26 89 50 σ) (RS σ) := by
  unfold f_X4_step_26
  have lt_0 := li_0
  have lt_1 := li_1
  have lFU : ((FU : Nat) : Int) = 100000 := rfl
  exact OK.sret (ia_I_89 hI) (fr_I_89 Fr.rf)

theorem k_X4_step_26_92_62 (σ : ST) (hI : IA σ) (hT : σ.2.2.2 92 = 62)  : OK (f_X4_step_26 92 62 σ) (RS σ) := by
  unfold f_X4_step_26
  have lt_0 := li_0
  have lt_1 := li_1
  have lFU : ((FU : Nat) : Int) = 100000 := rfl
  exact OK.sret (ia_I_92 hI) (fr_I_92 Fr.rf)

theorem k_X4_step_26_92_74 (σ : ST) (hI : IA σ) (hT : σ.2.2.2 92 = 74)  : OK (f_X4_step_26 92 74 σ) (RS σ) := by
  unfold f_X4_step_26
  have lt_0 := li_0
  have lt_1 := li_1
  have lFU : ((FU : Nat) : Int) = 100000 := rfl
  exact OK.sret (ia_I_92 hI) (fr_I_92 Fr.rf)

theorem k_X4_step_89_50 (p0 : Int32) (σ : ST) (hI : IA σ) (hT : σ.2.2.2 89 = 50)  : OK (f_X4_step 89 50 p0 σ) (RS σ) := by
  unfold f_X4_step
  have lt_0 := li_0
  have lt_1 := li_1
  have lt_64 := li_64
  have lFU : ((FU : Nat) : Int) = 100000 := rfl
  refine OK.ilt (fun h1 => ?_) (fun h1 => ?_)
  · skip
    exact OK.trS (k_X4_step_26_89_50 _ hI (by first | exact hT | exact hI.r89 | (rw [Fr.rf.2.2.2]; exact hT))) Fr.rf
  · skip
    refine OK.ile (fun h2 => ?_) (fun h2 => ?_)
    · skip
      exact OK.trS (k_X4_step_26_89_50 _ hI (by first | exact hT | exact hI.r89 | (rw [Fr.rf.2.2.2]; exact hT))) Fr.rf
    · skip
      refine OK.grd ⟨by omega, by omega⟩ ?_
      exact OK.trS (k_X4_step_26_89_50 _ (ia_I_90 hI) (by first | exact hT | exact hI.r89 | (rw [(fr_I_90 Fr.rf).2.2.2]; exact hT))) (fr_I_90 Fr.rf)

theorem k_X4_step_92_62 (p0 : Int32) (σ : ST) (hI : IA σ) (hT : σ.2.2.2 92 = 62)  : OK (f_X4_step 92 62 p0 σ) (RS σ) := by
  unfold f_X4_step
  have lt_0 := li_0
  have lt_1 := li_1
  have lt_64 := li_64
  have lFU : ((FU : Nat) : Int) = 100000 := rfl
  refine OK.ilt (fun h1 => ?_) (fun h1 => ?_)
  · skip
    exact OK.trS (k_X4_step_26_92_62 _ hI (by first | exact hT | exact hI.r89 | (rw [Fr.rf.2.2.2]; exact hT))) Fr.rf
  · skip
    refine OK.ile (fun h2 => ?_) (fun h2 => ?_)
    · skip
      exact OK.trS (k_X4_step_26_92_62 _ hI (by first | exact hT | exact hI.r89 | (rw [Fr.rf.2.2.2]; exact hT))) Fr.rf
    · skip
      refine OK.grd ⟨by omega, by omega⟩ ?_
      exact OK.trS (k_X4_step_26_92_62 _ (ia_I_93 hI) (by first | exact hT | exact hI.r89 | (rw [(fr_I_93 Fr.rf).2.2.2]; exact hT))) (fr_I_93 Fr.rf)

theorem k_X4_step_92_74 (p0 : Int32) (σ : ST) (hI : IA σ) (hT : σ.2.2.2 92 = 74)  : OK (f_X4_step 92 74 p0 σ) (RS σ) := by
  unfold f_X4_step
  have lt_0 := li_0
  have lt_1 := li_1
  have lt_64 := li_64
  have lFU : ((FU : Nat) : Int) = 100000 := rfl
  refine OK.ilt (fun h1 => ?_) (fun h1 => ?_)
  · skip
    exact OK.trS (k_X4_step_26_92_74 _ hI (by first | exact hT | exact hI.r89 | (rw [Fr.rf.2.2.2]; exact hT))) Fr.rf
  · skip
    refine OK.ile (fun h2 => ?_) (fun h2 => ?_)
    · skip
      exact OK.trS (k_X4_step_26_92_74 _ hI (by first | exact hT | exact hI.r89 | (rw [Fr.rf.2.2.2]; exact hT))) Fr.rf
    · skip
      refine OK.grd ⟨by omega, by omega⟩ ?_
      exact OK.trS (k_X4_step_26_92_74 _ (ia_I_93 hI) (by first | exact hT | exact hI.r89 | (rw [(fr_I_93 Fr.rf).2.2.2]; exact hT))) (fr_I_93 Fr.rf)

theorem k_X4_stepBack_89_50 (σ : ST) (hI : IA σ) (hT : σ.2.2.2 89 = 50)  : OK (f_X4_stepBack 89 50 σ) (RS σ) := by
  unfold f_X4_stepBack
  have lt_0 := li_0
  have lt_1 := li_1
  have lFU : ((FU : Nat) : Int) = 100000 := rfl
  refine OK.ieq (fun h1 => ?_) (fun h1 => ?_)
  · skip
    exact OK.sret (ia_I_89 hI) (fr_I_89 Fr.rf)
  · skip
    exact OK.sret hI Fr.rf

theorem k_X4_stepBack_92_62 (σ : ST) (hI : IA σ) (hT : σ.2.2.2 92 = 62)  : OK (f_X4_stepBack 92 62 σ) (RS σ) := by
  unfold f_X4_stepBack
  have lt_0 := li_0
  have lt_1 := li_1
  have lFU : ((FU : Nat) : Int) = 100000 := rfl
  refine OK.ieq (fun h1 => ?_) (fun h1 => ?_)
  · skip
    exact OK.sret (ia_I_92 hI) (fr_I_92 Fr.rf)
  · skip
    exact OK.sret hI Fr.rf

theorem k_X4_stepBack_92_74 (σ : ST) (hI : IA σ) (hT : σ.2.2.2 92 = 74)  : OK (f_X4_stepBack 92 74 σ) (RS σ) := by
  unfold f_X4_stepBack
  have lt_0 := li_0
  have lt_1 := li_1
  have lFU : ((FU : Nat) : Int) = 100000 := rfl
  refine OK.ieq (fun h1 => ?_) (fun h1 => ?_)
  · skip
    exact OK.sret (ia_I_92 hI) (fr_I_92 Fr.rf)
  · skip
    exact OK.sret hI Fr.rf

theorem k_X1_byteOf (p0 : Int32) (p1 : Int32) (σ : ST) (hI : IA σ)  : OK (f_X1_byteOf  p0 p1 σ) (RO σ fun v => True) := by
  unfold f_X1_byteOf
  have lt_0 := li_0
  have lt_1 := li_1
  have lt_255 := li_255
  have lt_400 := li_400
  have lt_1600 := li_1600
  have lFU : ((FU : Nat) : Int) = 100000 := rfl
  obtain ⟨a1k, a1, a1l, a1r⟩ := i_mul p0 400
  rw [li_400] at a1
  try (refine k0el (k := a1k) ?_ (fun e0 => ?_); (focus omega); subst e0)
  obtain ⟨a2k, a2, a2l, a2r⟩ := i_add (p0 * 400) p1
  try (refine k0el (k := a2k) ?_ (fun e0 => ?_); (focus omega); subst e0)
  refine OK.ilt (fun h3 => ?_) (fun h3 => ?_)
  · skip
    exact OK.roret (by first | trivial | omega | exact hI.flds _ | exact hI.dflds _ | exact hI.recs _ | exact hI.drecs _ | exact hI.droot _ | omega)
  · skip
    refine OK.ile (fun h4 => ?_) (fun h4 => ?_)
    · skip
      exact OK.roret (by first | trivial | omega | exact hI.flds _ | exact hI.dflds _ | exact hI.recs _ | exact hI.drecs _ | exact hI.droot _ | omega)
    · skip
      refine OK.grd ⟨by omega, by omega⟩ ?_
      exact OK.roret (by first | trivial | omega | exact hI.flds _ | exact hI.dflds _ | exact hI.recs _ | exact hI.drecs _ | exact hI.droot _ | omega)

theorem k_X4_takeByte_89_50 (σ : ST) (hI : IA σ) (hT : σ.2.2.2 89 = 50)  : OK (f_X4_takeByte 89 50 σ) (RW σ fun v => True) := by
  unfold f_X4_takeByte
  have lt_0 := li_0
  have lt_1 := li_1
  have lt_11 := li_11
  have lFU : ((FU : Nat) : Int) = 100000 := rfl
  refine OK.ieq (fun h1 => ?_) (fun h1 => ?_)
  · skip
    refine OK.ilt (fun h2 => ?_) (fun h2 => ?_)
    · skip
      refine OK.bndR (k_X1_byteOf _ _ _ hI ) (fun v3 h4 => ?_)
      dsimp only
      exact OK.wret (ia_I_89 hI) (fr_I_89 Fr.rf) (by first | trivial | omega | exact hI.flds _ | exact hI.dflds _ | exact hI.recs _ | exact hI.drecs _ | exact hI.droot _ | omega)
    · skip
      refine OK.bndS (k_X4_fail_89_50 _ _ _ hI (by first | exact hT | exact hI.r89 | (rw [Fr.rf.2.2.2]; exact hT))) Fr.rf (fun s5 is5 fs5 => ?_)
      try dsimp only
      exact OK.wret is5 fs5 (by first | trivial | omega | exact hI.flds _ | exact hI.dflds _ | exact hI.recs _ | exact hI.drecs _ | exact hI.droot _ | omega)
  · skip
    exact OK.wret hI Fr.rf (by first | trivial | omega | exact hI.flds _ | exact hI.dflds _ | exact hI.recs _ | exact hI.drecs _ | exact hI.droot _ | omega)

theorem k_X4_takeByte_92_62 (σ : ST) (hI : IA σ) (hT : σ.2.2.2 92 = 62)  : OK (f_X4_takeByte 92 62 σ) (RW σ fun v => True) := by
  unfold f_X4_takeByte
  have lt_0 := li_0
  have lt_1 := li_1
  have lt_11 := li_11
  have lFU : ((FU : Nat) : Int) = 100000 := rfl
  refine OK.ieq (fun h1 => ?_) (fun h1 => ?_)
  · skip
    refine OK.ilt (fun h2 => ?_) (fun h2 => ?_)
    · skip
      refine OK.bndR (k_X1_byteOf _ _ _ hI ) (fun v3 h4 => ?_)
      dsimp only
      exact OK.wret (ia_I_92 hI) (fr_I_92 Fr.rf) (by first | trivial | omega | exact hI.flds _ | exact hI.dflds _ | exact hI.recs _ | exact hI.drecs _ | exact hI.droot _ | omega)
    · skip
      refine OK.bndS (k_X4_fail_92_62 _ _ _ hI (by first | exact hT | exact hI.r89 | (rw [Fr.rf.2.2.2]; exact hT))) Fr.rf (fun s5 is5 fs5 => ?_)
      try dsimp only
      exact OK.wret is5 fs5 (by first | trivial | omega | exact hI.flds _ | exact hI.dflds _ | exact hI.recs _ | exact hI.drecs _ | exact hI.droot _ | omega)
  · skip
    exact OK.wret hI Fr.rf (by first | trivial | omega | exact hI.flds _ | exact hI.dflds _ | exact hI.recs _ | exact hI.drecs _ | exact hI.droot _ | omega)

theorem k_X4_takeByte_92_74 (σ : ST) (hI : IA σ) (hT : σ.2.2.2 92 = 74)  : OK (f_X4_takeByte 92 74 σ) (RW σ fun v => True) := by
  unfold f_X4_takeByte
  have lt_0 := li_0
  have lt_1 := li_1
  have lt_11 := li_11
  have lFU : ((FU : Nat) : Int) = 100000 := rfl
  refine OK.ieq (fun h1 => ?_) (fun h1 => ?_)
  · skip
    refine OK.ilt (fun h2 => ?_) (fun h2 => ?_)
    · skip
      refine OK.bndR (k_X1_byteOf _ _ _ hI ) (fun v3 h4 => ?_)
      dsimp only
      exact OK.wret (ia_I_92 hI) (fr_I_92 Fr.rf) (by first | trivial | omega | exact hI.flds _ | exact hI.dflds _ | exact hI.recs _ | exact hI.drecs _ | exact hI.droot _ | omega)
    · skip
      refine OK.bndS (k_X4_fail_92_74 _ _ _ hI (by first | exact hT | exact hI.r89 | (rw [Fr.rf.2.2.2]; exact hT))) Fr.rf (fun s5 is5 fs5 => ?_)
      try dsimp only
      exact OK.wret is5 fs5 (by first | trivial | omega | exact hI.flds _ | exact hI.dflds _ | exact hI.recs _ | exact hI.drecs _ | exact hI.droot _ | omega)
  · skip
    exact OK.wret hI Fr.rf (by first | trivial | omega | exact hI.flds _ | exact hI.dflds _ | exact hI.recs _ | exact hI.drecs _ | exact hI.droot _ | omega)

theorem k_X4_takeNumber_70_89_50 (x2 : Int64) (σ : ST) (hI : IA σ) (hT : σ.2.2.2 89 = 50)  : OK (f_X4_takeNumber_70 89 50 x2 σ) (RO σ fun v => True) := by
  unfold f_X4_takeNumber_70
  have lt_0 := li_0
  have lt_1 := li_1
  have lFU : ((FU : Nat) : Int) = 100000 := rfl
  refine OK.ieq (fun h1 => ?_) (fun h1 => ?_)
  · skip
    exact OK.roret (by first | trivial | omega | exact hI.flds _ | exact hI.dflds _ | exact hI.recs _ | exact hI.drecs _ | exact hI.droot _ | omega)
  · skip
    exact OK.roret (by first | trivial | omega | exact hI.flds _ | exact hI.dflds _ | exact hI.recs _ | exact hI.drecs _ | exact hI.droot _ | omega)

theorem k_X4_takeNumber_70_92_62 (x2 : Int64) (σ : ST) (hI : IA σ) (hT : σ.2.2.2 92 = 62)  : OK (f_X4_takeNumber_70 92 62 x2 σ) (RO σ fun v => True) := by
  unfold f_X4_takeNumber_70
  have lt_0 := li_0
  have lt_1 := li_1
  have lFU : ((FU : Nat) : Int) = 100000 := rfl
  refine OK.ieq (fun h1 => ?_) (fun h1 => ?_)
  · skip
    exact OK.roret (by first | trivial | omega | exact hI.flds _ | exact hI.dflds _ | exact hI.recs _ | exact hI.drecs _ | exact hI.droot _ | omega)
  · skip
    exact OK.roret (by first | trivial | omega | exact hI.flds _ | exact hI.dflds _ | exact hI.recs _ | exact hI.drecs _ | exact hI.droot _ | omega)

theorem k_X4_takeNumber_70_92_74 (x2 : Int64) (σ : ST) (hI : IA σ) (hT : σ.2.2.2 92 = 74)  : OK (f_X4_takeNumber_70 92 74 x2 σ) (RO σ fun v => True) := by
  unfold f_X4_takeNumber_70
  have lt_0 := li_0
  have lt_1 := li_1
  have lFU : ((FU : Nat) : Int) = 100000 := rfl
  refine OK.ieq (fun h1 => ?_) (fun h1 => ?_)
  · skip
    exact OK.roret (by first | trivial | omega | exact hI.flds _ | exact hI.dflds _ | exact hI.recs _ | exact hI.drecs _ | exact hI.droot _ | omega)
  · skip
    exact OK.roret (by first | trivial | omega | exact hI.flds _ | exact hI.dflds _ | exact hI.recs _ | exact hI.drecs _ | exact hI.droot _ | omega)

theorem k_X4_takeNumber_5_89_50 : ∀ (n : Nat) (x1 : Int32) (x2 : Int64) (x4 : Int32) (σ : ST), IA σ → σ.2.2.2 89 = 50 → (0 ≤ x4.toInt ∧ x4.toInt ≤ 10 ∧ (10 : Int) - x4.toInt < n) → OK (f_X4_takeNumber_5 89 50 n x1 x2 x4 σ) (RW σ fun v => True) := by
  intro n
  induction n with
  | zero =>
    intro x1 x2 x4 σ hI hT hv
    omega
  | succ n ih =>
    intro x1 x2 x4 σ hI hT hv
    rw [f_X4_takeNumber_5]
    have lt_0 := li_0
    have lt_1 := li_1
    have lt_7 := li_7
    have lt_9 := li_9
    have lt_10 := li_10
    have lt_12 := li_12
    have lt_63 := li_63
    have lt_127 := li_127
    have lt_128 := li_128
    have lFU : ((FU : Nat) : Int) = 100000 := rfl
    refine OK.ile (fun h1 => ?_) (fun h1 => ?_)
    · skip
      exact OK.row (k_X4_takeNumber_70_89_50 _ _ hI (by first | exact hT | exact hI.r89 | (rw [Fr.rf.2.2.2]; exact hT))) hI Fr.rf (fun v hv => by first | trivial | omega | exact hI.flds _ | exact hI.dflds _ | exact hI.recs _ | exact hI.drecs _ | exact hI.droot _ | omega)
    · skip
      refine OK.bndW (k_X4_takeByte_89_50 _ hI (by first | exact hT | exact hI.r89 | (rw [Fr.rf.2.2.2]; exact hT))) Fr.rf (fun v2 s4 is4 fs4 h3 => ?_)
      dsimp only
      refine OK.ieq (fun h5 => ?_) (fun h5 => ?_)
      · skip
        refine OK.ile (fun h6 => ?_) (fun h6 => ?_)
        · skip
          unfold f_X4_takeNumber_38
          try dsimp only
          refine OK.ile (fun h7 => ?_) (fun h7 => ?_)
          · skip
            obtain ⟨a8k, a8, a8l, a8r⟩ := i_add x4 1
            try (refine k0el (k := a8k) ?_ (fun e0 => ?_); (focus omega); subst e0)
            exact OK.trW (ih _ _ _ _ is4 (by first | exact hT | (rw [fs4.2.2.2]; exact hT)) (by omega)) fs4 (fun v hv => by first | trivial | omega | exact hI.flds _ | exact hI.dflds _ | exact hI.recs _ | exact hI.drecs _ | exact hI.droot _ | omega)
          · skip
            exact OK.row (k_X4_takeNumber_70_89_50 _ _ is4 (by first | exact hT | exact hI.r89 | (rw [fs4.2.2.2]; exact hT))) is4 fs4 (fun v hv => by first | trivial | omega | exact hI.flds _ | exact hI.dflds _ | exact hI.recs _ | exact hI.drecs _ | exact hI.droot _ | omega)
        · skip
          refine OK.bndS (k_X4_fail_89_50 _ _ _ is4 (by first | exact hT | exact hI.r89 | (rw [fs4.2.2.2]; exact hT))) fs4 (fun s9 is9 fs9 => ?_)
          try dsimp only
          unfold f_X4_takeNumber_38
          try dsimp only
          refine OK.ile (fun h10 => ?_) (fun h10 => ?_)
          · skip
            obtain ⟨a11k, a11, a11l, a11r⟩ := i_add x4 1
            try (refine k0el (k := a11k) ?_ (fun e0 => ?_); (focus omega); subst e0)
            exact OK.trW (ih _ _ _ _ is9 (by first | exact hT | (rw [fs9.2.2.2]; exact hT)) (by omega)) fs9 (fun v hv => by first | trivial | omega | exact hI.flds _ | exact hI.dflds _ | exact hI.recs _ | exact hI.drecs _ | exact hI.droot _ | omega)
          · skip
            exact OK.row (k_X4_takeNumber_70_89_50 _ _ is9 (by first | exact hT | exact hI.r89 | (rw [fs9.2.2.2]; exact hT))) is9 fs9 (fun v hv => by first | trivial | omega | exact hI.flds _ | exact hI.dflds _ | exact hI.recs _ | exact hI.drecs _ | exact hI.droot _ | omega)
      · skip
        unfold f_X4_takeNumber_38
        try dsimp only
        refine OK.ile (fun h12 => ?_) (fun h12 => ?_)
        · skip
          obtain ⟨a13k, a13, a13l, a13r⟩ := i_add x4 1
          try (refine k0el (k := a13k) ?_ (fun e0 => ?_); (focus omega); subst e0)
          exact OK.trW (ih _ _ _ _ is4 (by first | exact hT | (rw [fs4.2.2.2]; exact hT)) (by omega)) fs4 (fun v hv => by first | trivial | omega | exact hI.flds _ | exact hI.dflds _ | exact hI.recs _ | exact hI.drecs _ | exact hI.droot _ | omega)
        · skip
          exact OK.row (k_X4_takeNumber_70_89_50 _ _ is4 (by first | exact hT | exact hI.r89 | (rw [fs4.2.2.2]; exact hT))) is4 fs4 (fun v hv => by first | trivial | omega | exact hI.flds _ | exact hI.dflds _ | exact hI.recs _ | exact hI.drecs _ | exact hI.droot _ | omega)

theorem k_X4_takeNumber_5_92_62 : ∀ (n : Nat) (x1 : Int32) (x2 : Int64) (x4 : Int32) (σ : ST), IA σ → σ.2.2.2 92 = 62 → (0 ≤ x4.toInt ∧ x4.toInt ≤ 10 ∧ (10 : Int) - x4.toInt < n) → OK (f_X4_takeNumber_5 92 62 n x1 x2 x4 σ) (RW σ fun v => True) := by
  intro n
  induction n with
  | zero =>
    intro x1 x2 x4 σ hI hT hv
    omega
  | succ n ih =>
    intro x1 x2 x4 σ hI hT hv
    rw [f_X4_takeNumber_5]
    have lt_0 := li_0
    have lt_1 := li_1
    have lt_7 := li_7
    have lt_9 := li_9
    have lt_10 := li_10
    have lt_12 := li_12
    have lt_63 := li_63
    have lt_127 := li_127
    have lt_128 := li_128
    have lFU : ((FU : Nat) : Int) = 100000 := rfl
    refine OK.ile (fun h1 => ?_) (fun h1 => ?_)
    · skip
      exact OK.row (k_X4_takeNumber_70_92_62 _ _ hI (by first | exact hT | exact hI.r89 | (rw [Fr.rf.2.2.2]; exact hT))) hI Fr.rf (fun v hv => by first | trivial | omega | exact hI.flds _ | exact hI.dflds _ | exact hI.recs _ | exact hI.drecs _ | exact hI.droot _ | omega)
    · skip
      refine OK.bndW (k_X4_takeByte_92_62 _ hI (by first | exact hT | exact hI.r89 | (rw [Fr.rf.2.2.2]; exact hT))) Fr.rf (fun v2 s4 is4 fs4 h3 => ?_)
      dsimp only
      refine OK.ieq (fun h5 => ?_) (fun h5 => ?_)
      · skip
        refine OK.ile (fun h6 => ?_) (fun h6 => ?_)
        · skip
          unfold f_X4_takeNumber_38
          try dsimp only
          refine OK.ile (fun h7 => ?_) (fun h7 => ?_)
          · skip
            obtain ⟨a8k, a8, a8l, a8r⟩ := i_add x4 1
            try (refine k0el (k := a8k) ?_ (fun e0 => ?_); (focus omega); subst e0)
            exact OK.trW (ih _ _ _ _ is4 (by first | exact hT | (rw [fs4.2.2.2]; exact hT)) (by omega)) fs4 (fun v hv => by first | trivial | omega | exact hI.flds _ | exact hI.dflds _ | exact hI.recs _ | exact hI.drecs _ | exact hI.droot _ | omega)
          · skip
            exact OK.row (k_X4_takeNumber_70_92_62 _ _ is4 (by first | exact hT | exact hI.r89 | (rw [fs4.2.2.2]; exact hT))) is4 fs4 (fun v hv => by first | trivial | omega | exact hI.flds _ | exact hI.dflds _ | exact hI.recs _ | exact hI.drecs _ | exact hI.droot _ | omega)
        · skip
          refine OK.bndS (k_X4_fail_92_62 _ _ _ is4 (by first | exact hT | exact hI.r89 | (rw [fs4.2.2.2]; exact hT))) fs4 (fun s9 is9 fs9 => ?_)
          try dsimp only
          unfold f_X4_takeNumber_38
          try dsimp only
          refine OK.ile (fun h10 => ?_) (fun h10 => ?_)
          · skip
            obtain ⟨a11k, a11, a11l, a11r⟩ := i_add x4 1
            try (refine k0el (k := a11k) ?_ (fun e0 => ?_); (focus omega); subst e0)
            exact OK.trW (ih _ _ _ _ is9 (by first | exact hT | (rw [fs9.2.2.2]; exact hT)) (by omega)) fs9 (fun v hv => by first | trivial | omega | exact hI.flds _ | exact hI.dflds _ | exact hI.recs _ | exact hI.drecs _ | exact hI.droot _ | omega)
          · skip
            exact OK.row (k_X4_takeNumber_70_92_62 _ _ is9 (by first | exact hT | exact hI.r89 | (rw [fs9.2.2.2]; exact hT))) is9 fs9 (fun v hv => by first | trivial | omega | exact hI.flds _ | exact hI.dflds _ | exact hI.recs _ | exact hI.drecs _ | exact hI.droot _ | omega)
      · skip
        unfold f_X4_takeNumber_38
        try dsimp only
        refine OK.ile (fun h12 => ?_) (fun h12 => ?_)
        · skip
          obtain ⟨a13k, a13, a13l, a13r⟩ := i_add x4 1
          try (refine k0el (k := a13k) ?_ (fun e0 => ?_); (focus omega); subst e0)
          exact OK.trW (ih _ _ _ _ is4 (by first | exact hT | (rw [fs4.2.2.2]; exact hT)) (by omega)) fs4 (fun v hv => by first | trivial | omega | exact hI.flds _ | exact hI.dflds _ | exact hI.recs _ | exact hI.drecs _ | exact hI.droot _ | omega)
        · skip
          exact OK.row (k_X4_takeNumber_70_92_62 _ _ is4 (by first | exact hT | exact hI.r89 | (rw [fs4.2.2.2]; exact hT))) is4 fs4 (fun v hv => by first | trivial | omega | exact hI.flds _ | exact hI.dflds _ | exact hI.recs _ | exact hI.drecs _ | exact hI.droot _ | omega)

theorem k_X4_takeNumber_5_92_74 : ∀ (n : Nat) (x1 : Int32) (x2 : Int64) (x4 : Int32) (σ : ST), IA σ → σ.2.2.2 92 = 74 → (0 ≤ x4.toInt ∧ x4.toInt ≤ 10 ∧ (10 : Int) - x4.toInt < n) → OK (f_X4_takeNumber_5 92 74 n x1 x2 x4 σ) (RW σ fun v => True) := by
  intro n
  induction n with
  | zero =>
    intro x1 x2 x4 σ hI hT hv
    omega
  | succ n ih =>
    intro x1 x2 x4 σ hI hT hv
    rw [f_X4_takeNumber_5]
    have lt_0 := li_0
    have lt_1 := li_1
    have lt_7 := li_7
    have lt_9 := li_9
    have lt_10 := li_10
    have lt_12 := li_12
    have lt_63 := li_63
    have lt_127 := li_127
    have lt_128 := li_128
    have lFU : ((FU : Nat) : Int) = 100000 := rfl
    refine OK.ile (fun h1 => ?_) (fun h1 => ?_)
    · skip
      exact OK.row (k_X4_takeNumber_70_92_74 _ _ hI (by first | exact hT | exact hI.r89 | (rw [Fr.rf.2.2.2]; exact hT))) hI Fr.rf (fun v hv => by first | trivial | omega | exact hI.flds _ | exact hI.dflds _ | exact hI.recs _ | exact hI.drecs _ | exact hI.droot _ | omega)
    · skip
      refine OK.bndW (k_X4_takeByte_92_74 _ hI (by first | exact hT | exact hI.r89 | (rw [Fr.rf.2.2.2]; exact hT))) Fr.rf (fun v2 s4 is4 fs4 h3 => ?_)
      dsimp only
      refine OK.ieq (fun h5 => ?_) (fun h5 => ?_)
      · skip
        refine OK.ile (fun h6 => ?_) (fun h6 => ?_)
        · skip
          unfold f_X4_takeNumber_38
          try dsimp only
          refine OK.ile (fun h7 => ?_) (fun h7 => ?_)
          · skip
            obtain ⟨a8k, a8, a8l, a8r⟩ := i_add x4 1
            try (refine k0el (k := a8k) ?_ (fun e0 => ?_); (focus omega); subst e0)
            exact OK.trW (ih _ _ _ _ is4 (by first | exact hT | (rw [fs4.2.2.2]; exact hT)) (by omega)) fs4 (fun v hv => by first | trivial | omega | exact hI.flds _ | exact hI.dflds _ | exact hI.recs _ | exact hI.drecs _ | exact hI.droot _ | omega)
          · skip
            exact OK.row (k_X4_takeNumber_70_92_74 _ _ is4 (by first | exact hT | exact hI.r89 | (rw [fs4.2.2.2]; exact hT))) is4 fs4 (fun v hv => by first | trivial | omega | exact hI.flds _ | exact hI.dflds _ | exact hI.recs _ | exact hI.drecs _ | exact hI.droot _ | omega)
        · skip
          refine OK.bndS (k_X4_fail_92_74 _ _ _ is4 (by first | exact hT | exact hI.r89 | (rw [fs4.2.2.2]; exact hT))) fs4 (fun s9 is9 fs9 => ?_)
          try dsimp only
          unfold f_X4_takeNumber_38
          try dsimp only
          refine OK.ile (fun h10 => ?_) (fun h10 => ?_)
          · skip
            obtain ⟨a11k, a11, a11l, a11r⟩ := i_add x4 1
            try (refine k0el (k := a11k) ?_ (fun e0 => ?_); (focus omega); subst e0)
            exact OK.trW (ih _ _ _ _ is9 (by first | exact hT | (rw [fs9.2.2.2]; exact hT)) (by omega)) fs9 (fun v hv => by first | trivial | omega | exact hI.flds _ | exact hI.dflds _ | exact hI.recs _ | exact hI.drecs _ | exact hI.droot _ | omega)
          · skip
            exact OK.row (k_X4_takeNumber_70_92_74 _ _ is9 (by first | exact hT | exact hI.r89 | (rw [fs9.2.2.2]; exact hT))) is9 fs9 (fun v hv => by first | trivial | omega | exact hI.flds _ | exact hI.dflds _ | exact hI.recs _ | exact hI.drecs _ | exact hI.droot _ | omega)
      · skip
        unfold f_X4_takeNumber_38
        try dsimp only
        refine OK.ile (fun h12 => ?_) (fun h12 => ?_)
        · skip
          obtain ⟨a13k, a13, a13l, a13r⟩ := i_add x4 1
          try (refine k0el (k := a13k) ?_ (fun e0 => ?_); (focus omega); subst e0)
          exact OK.trW (ih _ _ _ _ is4 (by first | exact hT | (rw [fs4.2.2.2]; exact hT)) (by omega)) fs4 (fun v hv => by first | trivial | omega | exact hI.flds _ | exact hI.dflds _ | exact hI.recs _ | exact hI.drecs _ | exact hI.droot _ | omega)
        · skip
          exact OK.row (k_X4_takeNumber_70_92_74 _ _ is4 (by first | exact hT | exact hI.r89 | (rw [fs4.2.2.2]; exact hT))) is4 fs4 (fun v hv => by first | trivial | omega | exact hI.flds _ | exact hI.dflds _ | exact hI.recs _ | exact hI.drecs _ | exact hI.droot _ | omega)
