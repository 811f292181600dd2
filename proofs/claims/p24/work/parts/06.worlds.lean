theorem Met.ofWF {l : Launch} {y : MethodName} {ws ws' : List Cond} {rm : Room} {Pc : Array Value → State → Prop} {Qc : Array Value → State → Outcome → State → Prop} {mc ms : Nat} {free : Addr → Prop} {cc : ByteArray} {maxL : Nat} {ret : Option FieldType}
    (hy : plainFor y = true) (hw : ws = Cond.code y cc maxL ret :: ws')
    (body : ∀ p e s m args below meth c s₁, BodyLoose p l y (headSpec ws rm) cc maxL ret e s m args below meth c s₁ → c.maxLocals = maxL → Pc args s →
      W p l e (headSpec ws rm).room s m args below meth c s.heap [] 0 0 (MQ below Qc args s mc ms free) (entryFrame m args maxL)) : Met l y ws rm Pc Qc mc ms free := by
  refine MetFree.of_bodySF (code := cc) (maxLocals := maxL) (ret := ret) hy ?_ ?_
  · intro args s m h hn
    obtain ⟨meth, c, h1, h2, h3, h4, h5, h6, -, -⟩ := Cond.code_spec hn (atoms_spec (ws := ws) h _ (by rw [hw]; exact List.mem_cons_self))
    exact ⟨meth, c, h1, h2, h3, h4, h5, h6⟩
  · intro p e s m args below meth c s₁ B hml hP _
    have hh0 : s₁.heap = s.heap := by rw [B.state]; rfl
    obtain ⟨t, a1, o, b1, b2, b3⟩ := body p e s m args below meth c s₁ B hml hP s₁ hh0 (Stand.of_body B)
    exact ⟨t, o, a1, b1, b2, ⟨b3.1, b3.2⟩⟩
/-! the numbers that a world's cells hold: ints, longs, doubles by cell and place, and references that change by cell -/
abbrev ST : Type := (Nat → Nat → Int32) × (Nat → Nat → Int64) × (Nat → Nat → UInt64) × (Nat → Nat)
def stI (σ : ST) (q i : Nat) (v : Int32) : ST := (fun x => bif Nat.beq x q then upd (σ.1 x) i v else σ.1 x, σ.2)
def stL (σ : ST) (q i : Nat) (v : Int64) : ST := (σ.1, fun x => bif Nat.beq x q then vp_updL (σ.2.1 x) i v else σ.2.1 x, σ.2.2)
def stD (σ : ST) (q i : Nat) (v : UInt64) : ST := (σ.1, σ.2.1, fun x => bif Nat.beq x q then (fun j => if j = i then v else σ.2.2.1 x j) else σ.2.2.1 x, σ.2.2.2)
def stR (σ : ST) (q v : Nat) : ST := (σ.1, σ.2.1, σ.2.2.1, fun x => bif Nat.beq x q then v else σ.2.2.2 x)
def stF (σ : ST) (q : Nat) (f : Nat → Int32) : ST := (fun x => bif Nat.beq x q then f else σ.1 x, σ.2)
def stFL (σ : ST) (q : Nat) (f : Nat → Int64) : ST := (σ.1, fun x => bif Nat.beq x q then f else σ.2.1 x, σ.2.2)
/-- the lengths of the rows that are filled -/
def lnA (u : Nat) : Nat := bif Nat.beq u 40 then 4 else 36
/-- more than any loop needs -/
def FU : Nat := 100000
/-- deeper than any call of itself goes -/
def FR : Nat := 160
/-- the length of a tree's rows -/
def ln7 (b : Nat) : Nat := bif Nat.beq b 62 then 502 else 400
theorem ip {α : Type} {c : Prop} {i : Decidable c} {x y : Option α} {z : α} (hc : c) (h : @ite (Option α) c i x y = some z) : x = some z := by rw [if_pos hc] at h; exact h
theorem iq {α : Type} {c : Prop} {i : Decidable c} {x y : Option α} {z : α} (hc : ¬ c) (h : @ite (Option α) c i x y = some z) : y = some z := by rw [if_neg hc] at h; exact h
theorem ig {α : Type} {c : Prop} {i : Decidable c} {x : Option α} {z : α} (h : @ite (Option α) c i x none = some z) : c ∧ x = some z := by
  by_cases hc : c
  · rw [if_pos hc] at h; exact ⟨hc, h⟩
  · rw [if_neg hc] at h; cases h
theorem ib {α β : Type} {o : Option α} {f : α → Option β} {z : β} (h : o.bind f = some z) : ∃ q, o = some q ∧ f q = some z := by
  cases o with
  | none => cases h
  | some q => exact ⟨q, rfl, h⟩
theorem va_D_fst {A : Nat → Prop} {ws ws1 : va_W} (hm : ws.map Prod.fst = ws1.map Prod.fst) (h : va_D A ws) : va_D A ws1 := by
  have key : ∀ (i : Nat) (p : Nat × va_E), ws1[i]? = some p → ∃ p0 : Nat × va_E, ws[i]? = some p0 ∧ p0.1 = p.1 := by
    intro i p hp
    have h1 : (ws1.map Prod.fst)[i]? = some p.1 := by rw [List.getElem?_map, hp]; rfl
    rw [← hm, List.getElem?_map] at h1
    cases hw : ws[i]? with
    | none => rw [hw] at h1; cases h1
    | some p0 => rw [hw] at h1; exact ⟨p0, rfl, Option.some.inj h1⟩
  refine ⟨fun i j p q hi hj e => ?_, fun i q hi => ?_⟩
  · obtain ⟨p0, a1, a2⟩ := key i p hi
    obtain ⟨q0, b1, b2⟩ := key j q hj
    exact h.1 i j p0 q0 a1 b1 (by rw [a2, b2]; exact e)
  · obtain ⟨q0, b1, b2⟩ := key i q hi
    rw [← b2]
    exact h.2 i q0 b1
theorem va_frees {A : Nat → Prop} {ws : va_W} {H0 H : Heap} {locs : List Loc} (hD : va_D A ws) (hS : va_S A H0 H locs) (hA : ∀ q : Nat, H0.size ≤ q → A q) : ∀ q, va_A ws H.size q → A q := by
  intro q h
  rcases h with ⟨i, e, h⟩ | h
  · exact hD.2 i (q, e) h
  · exact hA q (Nat.le_trans hS.1 h)
def csD : List Choice := [Jvm.Choice.named "NaN.bits", Jvm.Choice.named "NaN.copy"]
theorem csD_copy : Jvm.Choice.named "NaN.copy" ∈ csD := List.mem_cons_of_mem _ List.mem_cons_self
/-- so many more cells -/
def ac {α : Type} (k : Nat) (o : Option (α × Nat)) : Option (α × Nat) := o.bind fun z => some (z.1, k + z.2)
theorem acE {α : Type} {k r : Nat} {v : α} {o : Option (α × Nat)} (h : ac k o = some (v, r)) : ∃ z, o = some (v, z) ∧ r = k + z := by
  obtain ⟨q, h1, h2⟩ := ib h
  have h3 := Option.some.inj h2
  cases h3
  exact ⟨q.2, h1, rfl⟩
theorem zf {v : Int32} (h : v = 0 ∨ v = 1) : fits .boolean (.int v) = true := by rcases h with h | h <;> rw [h] <;> rfl
theorem zn {v : Int32} (h : v = 0 ∨ v = 1) : narrow .boolean (.int v) = .int v := by rcases h with h | h <;> rw [h] <;> rfl
def wA (a : Nat → Nat) (k : Nat → ClassId) (σ : ST) : va_W := (a 0, .inr (10, [.ref (a 1), .int (σ.1 0 1), .ref (a 2), .ref (a 4), .ref (a 20), .ref (a 36), .ref (a 37), .ref (a 41), .ref (a 48), .ref (a 50), .ref (a 62), .ref (a 74), .ref (a 86), .ref (a 87), .ref (a 89), .ref (a 92)])) ::
  (a 1, .inl (k 1, 1000, .inl (σ.1 1))) ::
  (a 2, .inr (6, [.ref (a 1), .ref (a 3), .int (σ.1 2 2), .int (σ.1 2 3), .int (σ.1 2 4), .int (σ.1 2 5), .int (σ.1 2 6), .long (σ.2.1 2 7), .long (σ.2.1 2 8), .int (σ.1 2 9), .int (σ.1 2 10), .int (σ.1 2 11), .int (σ.1 2 12), .int (σ.1 2 13)])) ::
  (a 3, .inl (k 3, 15, .inr (.inl (σ.2.1 3)))) ::
  (a 4, .inr (5, [.int (σ.1 4 0), .int (σ.1 4 1), .ref (a 5), .ref (a 6), .ref (a 7), .ref (a 8), .ref (a 9), .ref (a 10), .ref (a 11), .ref (a 12), .ref (a 13), .ref (a 14), .ref (a 15), .ref (a 16), .ref (a 17), .ref (a 18), .ref (a 19)])) ::
  (a 5, .inl (k 5, 6, .inl (σ.1 5))) ::
  (a 6, .inl (k 6, 6, .inl (σ.1 6))) ::
  (a 7, .inl (k 7, 36, .inl (σ.1 7))) ::
  (a 8, .inl (k 8, 36, .inr (.inl (σ.2.1 8)))) ::
  (a 9, .inl (k 9, 36, .inl (σ.1 9))) ::
  (a 10, .inl (k 10, 36, .inl (σ.1 10))) ::
  (a 11, .inl (k 11, 288, .inr (.inl (σ.2.1 11)))) ::
  (a 12, .inl (k 12, 288, .inr (.inl (σ.2.1 12)))) ::
  (a 13, .inl (k 13, 288, .inl (σ.1 13))) ::
  (a 14, .inl (k 14, 288, .inr (.inl (σ.2.1 14)))) ::
  (a 15, .inl (k 15, 262, .inl (σ.1 15))) ::
  (a 16, .inl (k 16, 262, .inl (σ.1 16))) ::
  (a 17, .inl (k 17, 262, .inl (σ.1 17))) ::
  (a 18, .inl (k 18, 262, .inr (.inl (σ.2.1 18)))) ::
  (a 19, .inl (k 19, 262, .inl (σ.1 19))) ::
  (a 20, .inr (5, [.int (σ.1 20 0), .int (σ.1 20 1), .ref (a 21), .ref (a 22), .ref (a 23), .ref (a 24), .ref (a 25), .ref (a 26), .ref (a 27), .ref (a 28), .ref (a 29), .ref (a 30), .ref (a 31), .ref (a 32), .ref (a 33), .ref (a 34), .ref (a 35)])) ::
  (a 21, .inl (k 21, 6, .inl (σ.1 21))) ::
  (a 22, .inl (k 22, 6, .inl (σ.1 22))) ::
  (a 23, .inl (k 23, 36, .inl (σ.1 23))) ::
  (a 24, .inl (k 24, 36, .inr (.inl (σ.2.1 24)))) ::
  (a 25, .inl (k 25, 36, .inl (σ.1 25))) ::
  (a 26, .inl (k 26, 36, .inl (σ.1 26))) ::
  (a 27, .inl (k 27, 288, .inr (.inl (σ.2.1 27)))) ::
  (a 28, .inl (k 28, 288, .inr (.inl (σ.2.1 28)))) ::
  (a 29, .inl (k 29, 288, .inl (σ.1 29))) ::
  (a 30, .inl (k 30, 288, .inr (.inl (σ.2.1 30)))) ::
  (a 31, .inl (k 31, 262, .inl (σ.1 31))) ::
  (a 32, .inl (k 32, 262, .inl (σ.1 32))) ::
  (a 33, .inl (k 33, 262, .inl (σ.1 33))) ::
  (a 34, .inl (k 34, 262, .inr (.inl (σ.2.1 34)))) ::
  (a 35, .inl (k 35, 262, .inl (σ.1 35))) ::
  (a 36, .inr (3, [.ref (a 2), .ref (a 20)])) ::
  (a 37, .inr (1, [.ref (a 38), .ref (a 39), .ref (a 40)])) ::
  (a 38, .inl (k 38, 1600, .inl (σ.1 38))) ::
  (a 39, .inl (k 39, 4, .inl (σ.1 39))) ::
  (a 40, .inl (k 40, 4, .inl (σ.1 40))) ::
  (a 41, .inr (0, [.ref (a 4), .ref (a 42), .long (σ.2.1 41 2), .ref (a 43), .long (σ.2.1 41 4), .int (σ.1 41 5), .int (σ.1 41 6), .ref (a 44), .ref (a 45), .ref (a 46), .ref (a 47), .int (σ.1 41 11), .long (σ.2.1 41 12)])) ::
  (a 42, .inl (k 42, 36, .inr (.inl (σ.2.1 42)))) ::
  (a 43, .inl (k 43, 36, .inl (σ.1 43))) ::
  (a 44, .inl (k 44, 20, .inl (σ.1 44))) ::
  (a 45, .inl (k 45, 20, .inl (σ.1 45))) ::
  (a 46, .inl (k 46, 640, .inl (σ.1 46))) ::
  (a 47, .inl (k 47, 32, .inl (σ.1 47))) ::
  (a 48, .inr (9, [.ref (a 49), .int (σ.1 48 1), .int (σ.1 48 2), .int (σ.1 48 3)])) ::
  (a 49, .inl (k 49, 4, .inl (σ.1 49))) ::
  (a 50, .inr (7, [.int (σ.1 50 0), .int (σ.1 50 1), .ref (a 51), .ref (a 52), .ref (a 53), .ref (a 54), .ref (a 55), .ref (a 56), .ref (a 57), .ref (a 58), .ref (a 59), .ref (a 60), .ref (a 61)])) ::
  (a 51, .inl (k 51, 400, .inl (σ.1 51))) ::
  (a 52, .inl (k 52, 400, .inl (σ.1 52))) ::
  (a 53, .inl (k 53, 400, .inl (σ.1 53))) ::
  (a 54, .inl (k 54, 400, .inl (σ.1 54))) ::
  (a 55, .inl (k 55, 400, .inl (σ.1 55))) ::
  (a 56, .inl (k 56, 400, .inr (.inl (σ.2.1 56)))) ::
  (a 57, .inl (k 57, 400, .inl (σ.1 57))) ::
  (a 58, .inl (k 58, 400, .inl (σ.1 58))) ::
  (a 59, .inl (k 59, 400, .inl (σ.1 59))) ::
  (a 60, .inl (k 60, 400, .inl (σ.1 60))) ::
  (a 61, .inl (k 61, 400, .inl (σ.1 61))) ::
  (a 62, .inr (7, [.int (σ.1 62 0), .int (σ.1 62 1), .ref (a 63), .ref (a 64), .ref (a 65), .ref (a 66), .ref (a 67), .ref (a 68), .ref (a 69), .ref (a 70), .ref (a 71), .ref (a 72), .ref (a 73)])) ::
  (a 63, .inl (k 63, 502, .inl (σ.1 63))) ::
  (a 64, .inl (k 64, 502, .inl (σ.1 64))) ::
  (a 65, .inl (k 65, 502, .inl (σ.1 65))) ::
  (a 66, .inl (k 66, 502, .inl (σ.1 66))) ::
  (a 67, .inl (k 67, 502, .inl (σ.1 67))) ::
  (a 68, .inl (k 68, 502, .inr (.inl (σ.2.1 68)))) ::
  (a 69, .inl (k 69, 502, .inl (σ.1 69))) ::
  (a 70, .inl (k 70, 502, .inl (σ.1 70))) ::
  (a 71, .inl (k 71, 502, .inl (σ.1 71))) ::
  (a 72, .inl (k 72, 502, .inl (σ.1 72))) ::
  (a 73, .inl (k 73, 502, .inl (σ.1 73))) ::
  (a 74, .inr (7, [.int (σ.1 74 0), .int (σ.1 74 1), .ref (a 75), .ref (a 76), .ref (a 77), .ref (a 78), .ref (a 79), .ref (a 80), .ref (a 81), .ref (a 82), .ref (a 83), .ref (a 84), .ref (a 85)])) ::
  (a 75, .inl (k 75, 400, .inl (σ.1 75))) ::
  (a 76, .inl (k 76, 400, .inl (σ.1 76))) ::
  (a 77, .inl (k 77, 400, .inl (σ.1 77))) ::
  (a 78, .inl (k 78, 400, .inl (σ.1 78))) ::
  (a 79, .inl (k 79, 400, .inl (σ.1 79))) ::
  (a 80, .inl (k 80, 400, .inr (.inl (σ.2.1 80)))) ::
  (a 81, .inl (k 81, 400, .inl (σ.1 81))) ::
  (a 82, .inl (k 82, 400, .inl (σ.1 82))) ::
  (a 83, .inl (k 83, 400, .inl (σ.1 83))) ::
  (a 84, .inl (k 84, 400, .inl (σ.1 84))) ::
  (a 85, .inl (k 85, 400, .inl (σ.1 85))) ::
  (a 86, .inr (8, [.ref (a 2), .ref (a 4), .ref (a 62)])) ::
  (a 87, .inr (2, [.ref (a 4), .ref (a 88), .int (σ.1 87 2)])) ::
  (a 88, .inl (k 88, 400, .inl (σ.1 88))) ::
  (a 89, .inr (4, [.ref (a 4), .ref (a 37), .ref (a 41), .ref (a (σ.2.2.2 89)), .int (σ.1 89 4), .int (σ.1 89 5), .int (σ.1 89 6), .int (σ.1 89 7), .int (σ.1 89 8), .ref (a 90), .int (σ.1 89 10), .ref (a 91)])) ::
  (a 90, .inl (k 90, 64, .inl (σ.1 90))) ::
  (a 91, .inl (k 91, 256, .inl (σ.1 91))) ::
  (a 92, .inr (4, [.ref (a 4), .ref (a 37), .ref (a 41), .ref (a (σ.2.2.2 92)), .int (σ.1 92 4), .int (σ.1 92 5), .int (σ.1 92 6), .int (σ.1 92 7), .int (σ.1 92 8), .ref (a 93), .int (σ.1 92 10), .ref (a 94)])) ::
  (a 93, .inl (k 93, 64, .inl (σ.1 93))) ::
  (a 94, .inl (k 94, 256, .inl (σ.1 94))) ::
  (a 95, .inl (k 95, 1, .inr (.inl (σ.2.1 95)))) :: []
def tA (k : Nat → ClassId) : List (ClassId × FieldType) := (k 1, .byte) :: (k 3, .long) :: (k 5, .int) :: (k 6, .int) :: (k 7, .int) :: (k 8, .long) :: (k 9, .int) :: (k 10, .int) :: (k 11, .long) :: (k 12, .long) :: (k 13, .int) :: (k 14, .long) :: (k 15, .int) :: (k 16, .int) :: (k 17, .int) :: (k 18, .long) :: (k 19, .int) :: (k 21, .int) :: (k 22, .int) :: (k 23, .int) :: (k 24, .long) :: (k 25, .int) :: (k 26, .int) :: (k 27, .long) :: (k 28, .long) :: (k 29, .int) :: (k 30, .long) :: (k 31, .int) :: (k 32, .int) :: (k 33, .int) :: (k 34, .long) :: (k 35, .int) :: (k 38, .byte) :: (k 39, .int) :: (k 40, .int) :: (k 42, .long) :: (k 43, .int) :: (k 44, .int) :: (k 45, .int) :: (k 46, .int) :: (k 47, .int) :: (k 49, .int) :: (k 51, .int) :: (k 52, .int) :: (k 53, .int) :: (k 54, .int) :: (k 55, .boolean) :: (k 56, .long) :: (k 57, .int) :: (k 58, .int) :: (k 59, .int) :: (k 60, .int) :: (k 61, .int) :: (k 63, .int) :: (k 64, .int) :: (k 65, .int) :: (k 66, .int) :: (k 67, .boolean) :: (k 68, .long) :: (k 69, .int) :: (k 70, .int) :: (k 71, .int) :: (k 72, .int) :: (k 73, .int) :: (k 75, .int) :: (k 76, .int) :: (k 77, .int) :: (k 78, .int) :: (k 79, .boolean) :: (k 80, .long) :: (k 81, .int) :: (k 82, .int) :: (k 83, .int) :: (k 84, .int) :: (k 85, .int) :: (k 88, .byte) :: (k 90, .int) :: (k 91, .int) :: (k 93, .int) :: (k 94, .int) :: (k 95, .long) :: []
theorem gA_0 {a : Nat → Nat} {k : Nat → ClassId} {σ : ST} : (wA a k σ)[0]? = some (a 0, .inr (10, [.ref (a 1), .int (σ.1 0 1), .ref (a 2), .ref (a 4), .ref (a 20), .ref (a 36), .ref (a 37), .ref (a 41), .ref (a 48), .ref (a 50), .ref (a 62), .ref (a 74), .ref (a 86), .ref (a 87), .ref (a 89), .ref (a 92)])) := rfl
theorem gA_1 {a : Nat → Nat} {k : Nat → ClassId} {σ : ST} : (wA a k σ)[1]? = some (a 1, .inl (k 1, 1000, .inl (σ.1 1))) := rfl
theorem gA_2 {a : Nat → Nat} {k : Nat → ClassId} {σ : ST} : (wA a k σ)[2]? = some (a 2, .inr (6, [.ref (a 1), .ref (a 3), .int (σ.1 2 2), .int (σ.1 2 3), .int (σ.1 2 4), .int (σ.1 2 5), .int (σ.1 2 6), .long (σ.2.1 2 7), .long (σ.2.1 2 8), .int (σ.1 2 9), .int (σ.1 2 10), .int (σ.1 2 11), .int (σ.1 2 12), .int (σ.1 2 13)])) := rfl
theorem gA_3 {a : Nat → Nat} {k : Nat → ClassId} {σ : ST} : (wA a k σ)[3]? = some (a 3, .inl (k 3, 15, .inr (.inl (σ.2.1 3)))) := rfl
theorem gA_4 {a : Nat → Nat} {k : Nat → ClassId} {σ : ST} : (wA a k σ)[4]? = some (a 4, .inr (5, [.int (σ.1 4 0), .int (σ.1 4 1), .ref (a 5), .ref (a 6), .ref (a 7), .ref (a 8), .ref (a 9), .ref (a 10), .ref (a 11), .ref (a 12), .ref (a 13), .ref (a 14), .ref (a 15), .ref (a 16), .ref (a 17), .ref (a 18), .ref (a 19)])) := rfl
theorem gA_5 {a : Nat → Nat} {k : Nat → ClassId} {σ : ST} : (wA a k σ)[5]? = some (a 5, .inl (k 5, 6, .inl (σ.1 5))) := rfl
theorem gA_6 {a : Nat → Nat} {k : Nat → ClassId} {σ : ST} : (wA a k σ)[6]? = some (a 6, .inl (k 6, 6, .inl (σ.1 6))) := rfl
theorem gA_7 {a : Nat → Nat} {k : Nat → ClassId} {σ : ST} : (wA a k σ)[7]? = some (a 7, .inl (k 7, 36, .inl (σ.1 7))) := rfl
theorem gA_8 {a : Nat → Nat} {k : Nat → ClassId} {σ : ST} : (wA a k σ)[8]? = some (a 8, .inl (k 8, 36, .inr (.inl (σ.2.1 8)))) := rfl
theorem gA_9 {a : Nat → Nat} {k : Nat → ClassId} {σ : ST} : (wA a k σ)[9]? = some (a 9, .inl (k 9, 36, .inl (σ.1 9))) := rfl
theorem gA_10 {a : Nat → Nat} {k : Nat → ClassId} {σ : ST} : (wA a k σ)[10]? = some (a 10, .inl (k 10, 36, .inl (σ.1 10))) := rfl
theorem gA_11 {a : Nat → Nat} {k : Nat → ClassId} {σ : ST} : (wA a k σ)[11]? = some (a 11, .inl (k 11, 288, .inr (.inl (σ.2.1 11)))) := rfl
theorem gA_12 {a : Nat → Nat} {k : Nat → ClassId} {σ : ST} : (wA a k σ)[12]? = some (a 12, .inl (k 12, 288, .inr (.inl (σ.2.1 12)))) := rfl
theorem gA_13 {a : Nat → Nat} {k : Nat → ClassId} {σ : ST} : (wA a k σ)[13]? = some (a 13, .inl (k 13, 288, .inl (σ.1 13))) := rfl
theorem gA_14 {a : Nat → Nat} {k : Nat → ClassId} {σ : ST} : (wA a k σ)[14]? = some (a 14, .inl (k 14, 288, .inr (.inl (σ.2.1 14)))) := rfl
theorem gA_15 {a : Nat → Nat} {k : Nat → ClassId} {σ : ST} : (wA a k σ)[15]? = some (a 15, .inl (k 15, 262, .inl (σ.1 15))) := rfl
theorem gA_16 {a : Nat → Nat} {k : Nat → ClassId} {σ : ST} : (wA a k σ)[16]? = some (a 16, .inl (k 16, 262, .inl (σ.1 16))) := rfl
theorem gA_17 {a : Nat → Nat} {k : Nat → ClassId} {σ : ST} : (wA a k σ)[17]? = some (a 17, .inl (k 17, 262, .inl (σ.1 17))) := rfl
theorem gA_18 {a : Nat → Nat} {k : Nat → ClassId} {σ : ST} : (wA a k σ)[18]? = some (a 18, .inl (k 18, 262, .inr (.inl (σ.2.1 18)))) := rfl
theorem gA_19 {a : Nat → Nat} {k : Nat → ClassId} {σ : ST} : (wA a k σ)[19]? = some (a 19, .inl (k 19, 262, .inl (σ.1 19))) := rfl
theorem gA_20 {a : Nat → Nat} {k : Nat → ClassId} {σ : ST} : (wA a k σ)[20]? = some (a 20, .inr (5, [.int (σ.1 20 0), .int (σ.1 20 1), .ref (a 21), .ref (a 22), .ref (a 23), .ref (a 24), .ref (a 25), .ref (a 26), .ref (a 27), .ref (a 28), .ref (a 29), .ref (a 30), .ref (a 31), .ref (a 32), .ref (a 33), .ref (a 34), .ref (a 35)])) := rfl
theorem gA_21 {a : Nat → Nat} {k : Nat → ClassId} {σ : ST} : (wA a k σ)[21]? = some (a 21, .inl (k 21, 6, .inl (σ.1 21))) := rfl
theorem gA_22 {a : Nat → Nat} {k : Nat → ClassId} {σ : ST} : (wA a k σ)[22]? = some (a 22, .inl (k 22, 6, .inl (σ.1 22))) := rfl
theorem gA_23 {a : Nat → Nat} {k : Nat → ClassId} {σ : ST} : (wA a k σ)[23]? = some (a 23, .inl (k 23, 36, .inl (σ.1 23))) := rfl
theorem gA_24 {a : Nat → Nat} {k : Nat → ClassId} {σ : ST} : (wA a k σ)[24]? = some (a 24, .inl (k 24, 36, .inr (.inl (σ.2.1 24)))) := rfl
theorem gA_25 {a : Nat → Nat} {k : Nat → ClassId} {σ : ST} : (wA a k σ)[25]? = some (a 25, .inl (k 25, 36, .inl (σ.1 25))) := rfl
theorem gA_26 {a : Nat → Nat} {k : Nat → ClassId} {σ : ST} : (wA a k σ)[26]? = some (a 26, .inl (k 26, 36, .inl (σ.1 26))) := rfl
theorem gA_27 {a : Nat → Nat} {k : Nat → ClassId} {σ : ST} : (wA a k σ)[27]? = some (a 27, .inl (k 27, 288, .inr (.inl (σ.2.1 27)))) := rfl
theorem gA_28 {a : Nat → Nat} {k : Nat → ClassId} {σ : ST} : (wA a k σ)[28]? = some (a 28, .inl (k 28, 288, .inr (.inl (σ.2.1 28)))) := rfl
theorem gA_29 {a : Nat → Nat} {k : Nat → ClassId} {σ : ST} : (wA a k σ)[29]? = some (a 29, .inl (k 29, 288, .inl (σ.1 29))) := rfl
theorem gA_30 {a : Nat → Nat} {k : Nat → ClassId} {σ : ST} : (wA a k σ)[30]? = some (a 30, .inl (k 30, 288, .inr (.inl (σ.2.1 30)))) := rfl
theorem gA_31 {a : Nat → Nat} {k : Nat → ClassId} {σ : ST} : (wA a k σ)[31]? = some (a 31, .inl (k 31, 262, .inl (σ.1 31))) := rfl
theorem gA_32 {a : Nat → Nat} {k : Nat → ClassId} {σ : ST} : (wA a k σ)[32]? = some (a 32, .inl (k 32, 262, .inl (σ.1 32))) := rfl
theorem gA_33 {a : Nat → Nat} {k : Nat → ClassId} {σ : ST} : (wA a k σ)[33]? = some (a 33, .inl (k 33, 262, .inl (σ.1 33))) := rfl
theorem gA_34 {a : Nat → Nat} {k : Nat → ClassId} {σ : ST} : (wA a k σ)[34]? = some (a 34, .inl (k 34, 262, .inr (.inl (σ.2.1 34)))) := rfl
theorem gA_35 {a : Nat → Nat} {k : Nat → ClassId} {σ : ST} : (wA a k σ)[35]? = some (a 35, .inl (k 35, 262, .inl (σ.1 35))) := rfl
theorem gA_36 {a : Nat → Nat} {k : Nat → ClassId} {σ : ST} : (wA a k σ)[36]? = some (a 36, .inr (3, [.ref (a 2), .ref (a 20)])) := rfl
theorem gA_37 {a : Nat → Nat} {k : Nat → ClassId} {σ : ST} : (wA a k σ)[37]? = some (a 37, .inr (1, [.ref (a 38), .ref (a 39), .ref (a 40)])) := rfl
theorem gA_38 {a : Nat → Nat} {k : Nat → ClassId} {σ : ST} : (wA a k σ)[38]? = some (a 38, .inl (k 38, 1600, .inl (σ.1 38))) := rfl
theorem gA_39 {a : Nat → Nat} {k : Nat → ClassId} {σ : ST} : (wA a k σ)[39]? = some (a 39, .inl (k 39, 4, .inl (σ.1 39))) := rfl
theorem gA_40 {a : Nat → Nat} {k : Nat → ClassId} {σ : ST} : (wA a k σ)[40]? = some (a 40, .inl (k 40, 4, .inl (σ.1 40))) := rfl
theorem gA_41 {a : Nat → Nat} {k : Nat → ClassId} {σ : ST} : (wA a k σ)[41]? = some (a 41, .inr (0, [.ref (a 4), .ref (a 42), .long (σ.2.1 41 2), .ref (a 43), .long (σ.2.1 41 4), .int (σ.1 41 5), .int (σ.1 41 6), .ref (a 44), .ref (a 45), .ref (a 46), .ref (a 47), .int (σ.1 41 11), .long (σ.2.1 41 12)])) := rfl
theorem gA_42 {a : Nat → Nat} {k : Nat → ClassId} {σ : ST} : (wA a k σ)[42]? = some (a 42, .inl (k 42, 36, .inr (.inl (σ.2.1 42)))) := rfl
theorem gA_43 {a : Nat → Nat} {k : Nat → ClassId} {σ : ST} : (wA a k σ)[43]? = some (a 43, .inl (k 43, 36, .inl (σ.1 43))) := rfl
theorem gA_44 {a : Nat → Nat} {k : Nat → ClassId} {σ : ST} : (wA a k σ)[44]? = some (a 44, .inl (k 44, 20, .inl (σ.1 44))) := rfl
theorem gA_45 {a : Nat → Nat} {k : Nat → ClassId} {σ : ST} : (wA a k σ)[45]? = some (a 45, .inl (k 45, 20, .inl (σ.1 45))) := rfl
theorem gA_46 {a : Nat → Nat} {k : Nat → ClassId} {σ : ST} : (wA a k σ)[46]? = some (a 46, .inl (k 46, 640, .inl (σ.1 46))) := rfl
theorem gA_47 {a : Nat → Nat} {k : Nat → ClassId} {σ : ST} : (wA a k σ)[47]? = some (a 47, .inl (k 47, 32, .inl (σ.1 47))) := rfl
theorem gA_48 {a : Nat → Nat} {k : Nat → ClassId} {σ : ST} : (wA a k σ)[48]? = some (a 48, .inr (9, [.ref (a 49), .int (σ.1 48 1), .int (σ.1 48 2), .int (σ.1 48 3)])) := rfl
theorem gA_49 {a : Nat → Nat} {k : Nat → ClassId} {σ : ST} : (wA a k σ)[49]? = some (a 49, .inl (k 49, 4, .inl (σ.1 49))) := rfl
theorem gA_50 {a : Nat → Nat} {k : Nat → ClassId} {σ : ST} : (wA a k σ)[50]? = some (a 50, .inr (7, [.int (σ.1 50 0), .int (σ.1 50 1), .ref (a 51), .ref (a 52), .ref (a 53), .ref (a 54), .ref (a 55), .ref (a 56), .ref (a 57), .ref (a 58), .ref (a 59), .ref (a 60), .ref (a 61)])) := rfl
theorem gA_51 {a : Nat → Nat} {k : Nat → ClassId} {σ : ST} : (wA a k σ)[51]? = some (a 51, .inl (k 51, 400, .inl (σ.1 51))) := rfl
theorem gA_52 {a : Nat → Nat} {k : Nat → ClassId} {σ : ST} : (wA a k σ)[52]? = some (a 52, .inl (k 52, 400, .inl (σ.1 52))) := rfl
theorem gA_53 {a : Nat → Nat} {k : Nat → ClassId} {σ : ST} : (wA a k σ)[53]? = some (a 53, .inl (k 53, 400, .inl (σ.1 53))) := rfl
theorem gA_54 {a : Nat → Nat} {k : Nat → ClassId} {σ : ST} : (wA a k σ)[54]? = some (a 54, .inl (k 54, 400, .inl (σ.1 54))) := rfl
theorem gA_55 {a : Nat → Nat} {k : Nat → ClassId} {σ : ST} : (wA a k σ)[55]? = some (a 55, .inl (k 55, 400, .inl (σ.1 55))) := rfl
theorem gA_56 {a : Nat → Nat} {k : Nat → ClassId} {σ : ST} : (wA a k σ)[56]? = some (a 56, .inl (k 56, 400, .inr (.inl (σ.2.1 56)))) := rfl
theorem gA_57 {a : Nat → Nat} {k : Nat → ClassId} {σ : ST} : (wA a k σ)[57]? = some (a 57, .inl (k 57, 400, .inl (σ.1 57))) := rfl
theorem gA_58 {a : Nat → Nat} {k : Nat → ClassId} {σ : ST} : (wA a k σ)[58]? = some (a 58, .inl (k 58, 400, .inl (σ.1 58))) := rfl
theorem gA_59 {a : Nat → Nat} {k : Nat → ClassId} {σ : ST} : (wA a k σ)[59]? = some (a 59, .inl (k 59, 400, .inl (σ.1 59))) := rfl
theorem gA_60 {a : Nat → Nat} {k : Nat → ClassId} {σ : ST} : (wA a k σ)[60]? = some (a 60, .inl (k 60, 400, .inl (σ.1 60))) := rfl
theorem gA_61 {a : Nat → Nat} {k : Nat → ClassId} {σ : ST} : (wA a k σ)[61]? = some (a 61, .inl (k 61, 400, .inl (σ.1 61))) := rfl
theorem gA_62 {a : Nat → Nat} {k : Nat → ClassId} {σ : ST} : (wA a k σ)[62]? = some (a 62, .inr (7, [.int (σ.1 62 0), .int (σ.1 62 1), .ref (a 63), .ref (a 64), .ref (a 65), .ref (a 66), .ref (a 67), .ref (a 68), .ref (a 69), .ref (a 70), .ref (a 71), .ref (a 72), .ref (a 73)])) := rfl
theorem gA_63 {a : Nat → Nat} {k : Nat → ClassId} {σ : ST} : (wA a k σ)[63]? = some (a 63, .inl (k 63, 502, .inl (σ.1 63))) := rfl
theorem gA_64 {a : Nat → Nat} {k : Nat → ClassId} {σ : ST} : (wA a k σ)[64]? = some (a 64, .inl (k 64, 502, .inl (σ.1 64))) := rfl
theorem gA_65 {a : Nat → Nat} {k : Nat → ClassId} {σ : ST} : (wA a k σ)[65]? = some (a 65, .inl (k 65, 502, .inl (σ.1 65))) := rfl
theorem gA_66 {a : Nat → Nat} {k : Nat → ClassId} {σ : ST} : (wA a k σ)[66]? = some (a 66, .inl (k 66, 502, .inl (σ.1 66))) := rfl
theorem gA_67 {a : Nat → Nat} {k : Nat → ClassId} {σ : ST} : (wA a k σ)[67]? = some (a 67, .inl (k 67, 502, .inl (σ.1 67))) := rfl
theorem gA_68 {a : Nat → Nat} {k : Nat → ClassId} {σ : ST} : (wA a k σ)[68]? = some (a 68, .inl (k 68, 502, .inr (.inl (σ.2.1 68)))) := rfl
theorem gA_69 {a : Nat → Nat} {k : Nat → ClassId} {σ : ST} : (wA a k σ)[69]? = some (a 69, .inl (k 69, 502, .inl (σ.1 69))) := rfl
theorem gA_70 {a : Nat → Nat} {k : Nat → ClassId} {σ : ST} : (wA a k σ)[70]? = some (a 70, .inl (k 70, 502, .inl (σ.1 70))) := rfl
theorem gA_71 {a : Nat → Nat} {k : Nat → ClassId} {σ : ST} : (wA a k σ)[71]? = some (a 71, .inl (k 71, 502, .inl (σ.1 71))) := rfl
theorem gA_72 {a : Nat → Nat} {k : Nat → ClassId} {σ : ST} : (wA a k σ)[72]? = some (a 72, .inl (k 72, 502, .inl (σ.1 72))) := rfl
theorem gA_73 {a : Nat → Nat} {k : Nat → ClassId} {σ : ST} : (wA a k σ)[73]? = some (a 73, .inl (k 73, 502, .inl (σ.1 73))) := rfl
theorem gA_74 {a : Nat → Nat} {k : Nat → ClassId} {σ : ST} : (wA a k σ)[74]? = some (a 74, .inr (7, [.int (σ.1 74 0), .int (σ.1 74 1), .ref (a 75), .ref (a 76), .ref (a 77), .ref (a 78), .ref (a 79), .ref (a 80), .ref (a 81), .ref (a 82), .ref (a 83), .ref (a 84), .ref (a 85)])) := rfl
theorem gA_75 {a : Nat → Nat} {k : Nat → ClassId} {σ : ST} : (wA a k σ)[75]? = some (a 75, .inl (k 75, 400, .inl (σ.1 75))) := rfl
theorem gA_76 {a : Nat → Nat} {k : Nat → ClassId} {σ : ST} : (wA a k σ)[76]? = some (a 76, .inl (k 76, 400, .inl (σ.1 76))) := rfl
theorem gA_77 {a : Nat → Nat} {k : Nat → ClassId} {σ : ST} : (wA a k σ)[77]? = some (a 77, .inl (k 77, 400, .inl (σ.1 77))) := rfl
theorem gA_78 {a : Nat → Nat} {k : Nat → ClassId} {σ : ST} : (wA a k σ)[78]? = some (a 78, .inl (k 78, 400, .inl (σ.1 78))) := rfl
theorem gA_79 {a : Nat → Nat} {k : Nat → ClassId} {σ : ST} : (wA a k σ)[79]? = some (a 79, .inl (k 79, 400, .inl (σ.1 79))) := rfl
theorem gA_80 {a : Nat → Nat} {k : Nat → ClassId} {σ : ST} : (wA a k σ)[80]? = some (a 80, .inl (k 80, 400, .inr (.inl (σ.2.1 80)))) := rfl
theorem gA_81 {a : Nat → Nat} {k : Nat → ClassId} {σ : ST} : (wA a k σ)[81]? = some (a 81, .inl (k 81, 400, .inl (σ.1 81))) := rfl
theorem gA_82 {a : Nat → Nat} {k : Nat → ClassId} {σ : ST} : (wA a k σ)[82]? = some (a 82, .inl (k 82, 400, .inl (σ.1 82))) := rfl
theorem gA_83 {a : Nat → Nat} {k : Nat → ClassId} {σ : ST} : (wA a k σ)[83]? = some (a 83, .inl (k 83, 400, .inl (σ.1 83))) := rfl
theorem gA_84 {a : Nat → Nat} {k : Nat → ClassId} {σ : ST} : (wA a k σ)[84]? = some (a 84, .inl (k 84, 400, .inl (σ.1 84))) := rfl
theorem gA_85 {a : Nat → Nat} {k : Nat → ClassId} {σ : ST} : (wA a k σ)[85]? = some (a 85, .inl (k 85, 400, .inl (σ.1 85))) := rfl
theorem gA_86 {a : Nat → Nat} {k : Nat → ClassId} {σ : ST} : (wA a k σ)[86]? = some (a 86, .inr (8, [.ref (a 2), .ref (a 4), .ref (a 62)])) := rfl
theorem gA_87 {a : Nat → Nat} {k : Nat → ClassId} {σ : ST} : (wA a k σ)[87]? = some (a 87, .inr (2, [.ref (a 4), .ref (a 88), .int (σ.1 87 2)])) := rfl
theorem gA_88 {a : Nat → Nat} {k : Nat → ClassId} {σ : ST} : (wA a k σ)[88]? = some (a 88, .inl (k 88, 400, .inl (σ.1 88))) := rfl
theorem gA_89 {a : Nat → Nat} {k : Nat → ClassId} {σ : ST} : (wA a k σ)[89]? = some (a 89, .inr (4, [.ref (a 4), .ref (a 37), .ref (a 41), .ref (a (σ.2.2.2 89)), .int (σ.1 89 4), .int (σ.1 89 5), .int (σ.1 89 6), .int (σ.1 89 7), .int (σ.1 89 8), .ref (a 90), .int (σ.1 89 10), .ref (a 91)])) := rfl
theorem gA_90 {a : Nat → Nat} {k : Nat → ClassId} {σ : ST} : (wA a k σ)[90]? = some (a 90, .inl (k 90, 64, .inl (σ.1 90))) := rfl
theorem gA_91 {a : Nat → Nat} {k : Nat → ClassId} {σ : ST} : (wA a k σ)[91]? = some (a 91, .inl (k 91, 256, .inl (σ.1 91))) := rfl
theorem gA_92 {a : Nat → Nat} {k : Nat → ClassId} {σ : ST} : (wA a k σ)[92]? = some (a 92, .inr (4, [.ref (a 4), .ref (a 37), .ref (a 41), .ref (a (σ.2.2.2 92)), .int (σ.1 92 4), .int (σ.1 92 5), .int (σ.1 92 6), .int (σ.1 92 7), .int (σ.1 92 8), .ref (a 93), .int (σ.1 92 10), .ref (a 94)])) := rfl
theorem gA_93 {a : Nat → Nat} {k : Nat → ClassId} {σ : ST} : (wA a k σ)[93]? = some (a 93, .inl (k 93, 64, .inl (σ.1 93))) := rfl
theorem gA_94 {a : Nat → Nat} {k : Nat → ClassId} {σ : ST} : (wA a k σ)[94]? = some (a 94, .inl (k 94, 256, .inl (σ.1 94))) := rfl
theorem gA_95 {a : Nat → Nat} {k : Nat → ClassId} {σ : ST} : (wA a k σ)[95]? = some (a 95, .inl (k 95, 1, .inr (.inl (σ.2.1 95)))) := rfl
theorem yA_1 {k : Nat → ClassId} : (tA k)[0]? = some (k 1, .byte) := rfl
theorem yA_3 {k : Nat → ClassId} : (tA k)[1]? = some (k 3, .long) := rfl
theorem yA_5 {k : Nat → ClassId} : (tA k)[2]? = some (k 5, .int) := rfl
theorem yA_6 {k : Nat → ClassId} : (tA k)[3]? = some (k 6, .int) := rfl
theorem yA_7 {k : Nat → ClassId} : (tA k)[4]? = some (k 7, .int) := rfl
theorem yA_8 {k : Nat → ClassId} : (tA k)[5]? = some (k 8, .long) := rfl
theorem yA_9 {k : Nat → ClassId} : (tA k)[6]? = some (k 9, .int) := rfl
theorem yA_10 {k : Nat → ClassId} : (tA k)[7]? = some (k 10, .int) := rfl
theorem yA_11 {k : Nat → ClassId} : (tA k)[8]? = some (k 11, .long) := rfl
theorem yA_12 {k : Nat → ClassId} : (tA k)[9]? = some (k 12, .long) := rfl
theorem yA_13 {k : Nat → ClassId} : (tA k)[10]? = some (k 13, .int) := rfl
theorem yA_14 {k : Nat → ClassId} : (tA k)[11]? = some (k 14, .long) := rfl
theorem yA_15 {k : Nat → ClassId} : (tA k)[12]? = some (k 15, .int) := rfl
theorem yA_16 {k : Nat → ClassId} : (tA k)[13]? = some (k 16, .int) := rfl
theorem yA_17 {k : Nat → ClassId} : (tA k)[14]? = some (k 17, .int) := rfl
theorem yA_18 {k : Nat → ClassId} : (tA k)[15]? = some (k 18, .long) := rfl
theorem yA_19 {k : Nat → ClassId} : (tA k)[16]? = some (k 19, .int) := rfl
theorem yA_21 {k : Nat → ClassId} : (tA k)[17]? = some (k 21, .int) := rfl
theorem yA_22 {k : Nat → ClassId} : (tA k)[18]? = some (k 22, .int) := rfl
theorem yA_23 {k : Nat → ClassId} : (tA k)[19]? = some (k 23, .int) := rfl
theorem yA_24 {k : Nat → ClassId} : (tA k)[20]? = some (k 24, .long) := rfl
theorem yA_25 {k : Nat → ClassId} : (tA k)[21]? = some (k 25, .int) := rfl
theorem yA_26 {k : Nat → ClassId} : (tA k)[22]? = some (k 26, .int) := rfl
theorem yA_27 {k : Nat → ClassId} : (tA k)[23]? = some (k 27, .long) := rfl
theorem yA_28 {k : Nat → ClassId} : (tA k)[24]? = some (k 28, .long) := rfl
theorem yA_29 {k : Nat → ClassId} : (tA k)[25]? = some (k 29, .int) := rfl
theorem yA_30 {k : Nat → ClassId} : (tA k)[26]? = some (k 30, .long) := rfl
theorem yA_31 {k : Nat → ClassId} : (tA k)[27]? = some (k 31, .int) := rfl
theorem yA_32 {k : Nat → ClassId} : (tA k)[28]? = some (k 32, .int) := rfl
theorem yA_33 {k : Nat → ClassId} : (tA k)[29]? = some (k 33, .int) := rfl
theorem yA_34 {k : Nat → ClassId} : (tA k)[30]? = some (k 34, .long) := rfl
theorem yA_35 {k : Nat → ClassId} : (tA k)[31]? = some (k 35, .int) := rfl
theorem yA_38 {k : Nat → ClassId} : (tA k)[32]? = some (k 38, .byte) := rfl
theorem yA_39 {k : Nat → ClassId} : (tA k)[33]? = some (k 39, .int) := rfl
theorem yA_40 {k : Nat → ClassId} : (tA k)[34]? = some (k 40, .int) := rfl
theorem yA_42 {k : Nat → ClassId} : (tA k)[35]? = some (k 42, .long) := rfl
theorem yA_43 {k : Nat → ClassId} : (tA k)[36]? = some (k 43, .int) := rfl
theorem yA_44 {k : Nat → ClassId} : (tA k)[37]? = some (k 44, .int) := rfl
theorem yA_45 {k : Nat → ClassId} : (tA k)[38]? = some (k 45, .int) := rfl
theorem yA_46 {k : Nat → ClassId} : (tA k)[39]? = some (k 46, .int) := rfl
theorem yA_47 {k : Nat → ClassId} : (tA k)[40]? = some (k 47, .int) := rfl
theorem yA_49 {k : Nat → ClassId} : (tA k)[41]? = some (k 49, .int) := rfl
theorem yA_51 {k : Nat → ClassId} : (tA k)[42]? = some (k 51, .int) := rfl
theorem yA_52 {k : Nat → ClassId} : (tA k)[43]? = some (k 52, .int) := rfl
theorem yA_53 {k : Nat → ClassId} : (tA k)[44]? = some (k 53, .int) := rfl
theorem yA_54 {k : Nat → ClassId} : (tA k)[45]? = some (k 54, .int) := rfl
theorem yA_55 {k : Nat → ClassId} : (tA k)[46]? = some (k 55, .boolean) := rfl
theorem yA_56 {k : Nat → ClassId} : (tA k)[47]? = some (k 56, .long) := rfl
theorem yA_57 {k : Nat → ClassId} : (tA k)[48]? = some (k 57, .int) := rfl
theorem yA_58 {k : Nat → ClassId} : (tA k)[49]? = some (k 58, .int) := rfl
theorem yA_59 {k : Nat → ClassId} : (tA k)[50]? = some (k 59, .int) := rfl
theorem yA_60 {k : Nat → ClassId} : (tA k)[51]? = some (k 60, .int) := rfl
theorem yA_61 {k : Nat → ClassId} : (tA k)[52]? = some (k 61, .int) := rfl
theorem yA_63 {k : Nat → ClassId} : (tA k)[53]? = some (k 63, .int) := rfl
theorem yA_64 {k : Nat → ClassId} : (tA k)[54]? = some (k 64, .int) := rfl
theorem yA_65 {k : Nat → ClassId} : (tA k)[55]? = some (k 65, .int) := rfl
theorem yA_66 {k : Nat → ClassId} : (tA k)[56]? = some (k 66, .int) := rfl
theorem yA_67 {k : Nat → ClassId} : (tA k)[57]? = some (k 67, .boolean) := rfl
theorem yA_68 {k : Nat → ClassId} : (tA k)[58]? = some (k 68, .long) := rfl
theorem yA_69 {k : Nat → ClassId} : (tA k)[59]? = some (k 69, .int) := rfl
theorem yA_70 {k : Nat → ClassId} : (tA k)[60]? = some (k 70, .int) := rfl
theorem yA_71 {k : Nat → ClassId} : (tA k)[61]? = some (k 71, .int) := rfl
theorem yA_72 {k : Nat → ClassId} : (tA k)[62]? = some (k 72, .int) := rfl
theorem yA_73 {k : Nat → ClassId} : (tA k)[63]? = some (k 73, .int) := rfl
theorem yA_75 {k : Nat → ClassId} : (tA k)[64]? = some (k 75, .int) := rfl
theorem yA_76 {k : Nat → ClassId} : (tA k)[65]? = some (k 76, .int) := rfl
theorem yA_77 {k : Nat → ClassId} : (tA k)[66]? = some (k 77, .int) := rfl
theorem yA_78 {k : Nat → ClassId} : (tA k)[67]? = some (k 78, .int) := rfl
theorem yA_79 {k : Nat → ClassId} : (tA k)[68]? = some (k 79, .boolean) := rfl
theorem yA_80 {k : Nat → ClassId} : (tA k)[69]? = some (k 80, .long) := rfl
theorem yA_81 {k : Nat → ClassId} : (tA k)[70]? = some (k 81, .int) := rfl
theorem yA_82 {k : Nat → ClassId} : (tA k)[71]? = some (k 82, .int) := rfl
theorem yA_83 {k : Nat → ClassId} : (tA k)[72]? = some (k 83, .int) := rfl
theorem yA_84 {k : Nat → ClassId} : (tA k)[73]? = some (k 84, .int) := rfl
theorem yA_85 {k : Nat → ClassId} : (tA k)[74]? = some (k 85, .int) := rfl
theorem yA_88 {k : Nat → ClassId} : (tA k)[75]? = some (k 88, .byte) := rfl
theorem yA_90 {k : Nat → ClassId} : (tA k)[76]? = some (k 90, .int) := rfl
theorem yA_91 {k : Nat → ClassId} : (tA k)[77]? = some (k 91, .int) := rfl
theorem yA_93 {k : Nat → ClassId} : (tA k)[78]? = some (k 93, .int) := rfl
theorem yA_94 {k : Nat → ClassId} : (tA k)[79]? = some (k 94, .int) := rfl
theorem yA_95 {k : Nat → ClassId} : (tA k)[80]? = some (k 95, .long) := rfl
theorem wA_D {A : Nat → Prop} {a : Nat → Nat} {k : Nat → ClassId} {σ σ1 : ST} (h : va_D A (wA a k σ)) : va_D A (wA a k σ1) := va_D_fst (ws := wA a k σ) (ws1 := wA a k σ1) rfl h
theorem uA_0_1 {D : va_G} {H : Heap} {a : Nat → Nat} {k : Nat → ClassId} {σ : ST} {v : Int32} (h : va_P D vwCl ((wA a k σ).set 0 (a 0, .inr (10, ([.ref (a 1), .int (σ.1 0 1), .ref (a 2), .ref (a 4), .ref (a 20), .ref (a 36), .ref (a 37), .ref (a 41), .ref (a 48), .ref (a 50), .ref (a 62), .ref (a 74), .ref (a 86), .ref (a 87), .ref (a 89), .ref (a 92)] : List Value).set 1 (.int v)))) H) : va_P D vwCl (wA a k (stI σ 0 1 v)) H := h
theorem vA_1 {D : va_G} {H : Heap} {a : Nat → Nat} {k : Nat → ClassId} {σ : ST} {f : Nat → Int32} (h : va_P D vwCl ((wA a k σ).set 1 (a 1, .inl (k 1, 1000, .inl f))) H) : va_P D vwCl (wA a k (stF σ 1 f)) H := h
theorem uA_1 {D : va_G} {H : Heap} {a : Nat → Nat} {k : Nat → ClassId} {σ : ST} {i : Nat} {v : Int32} (h : va_P D vwCl ((wA a k σ).set 1 (a 1, .inl (k 1, 1000, .inl (upd (σ.1 1) i v)))) H) : va_P D vwCl (wA a k (stI σ 1 i v)) H := h
theorem uA_2_2 {D : va_G} {H : Heap} {a : Nat → Nat} {k : Nat → ClassId} {σ : ST} {v : Int32} (h : va_P D vwCl ((wA a k σ).set 2 (a 2, .inr (6, ([.ref (a 1), .ref (a 3), .int (σ.1 2 2), .int (σ.1 2 3), .int (σ.1 2 4), .int (σ.1 2 5), .int (σ.1 2 6), .long (σ.2.1 2 7), .long (σ.2.1 2 8), .int (σ.1 2 9), .int (σ.1 2 10), .int (σ.1 2 11), .int (σ.1 2 12), .int (σ.1 2 13)] : List Value).set 2 (.int v)))) H) : va_P D vwCl (wA a k (stI σ 2 2 v)) H := h
theorem uA_2_3 {D : va_G} {H : Heap} {a : Nat → Nat} {k : Nat → ClassId} {σ : ST} {v : Int32} (h : va_P D vwCl ((wA a k σ).set 2 (a 2, .inr (6, ([.ref (a 1), .ref (a 3), .int (σ.1 2 2), .int (σ.1 2 3), .int (σ.1 2 4), .int (σ.1 2 5), .int (σ.1 2 6), .long (σ.2.1 2 7), .long (σ.2.1 2 8), .int (σ.1 2 9), .int (σ.1 2 10), .int (σ.1 2 11), .int (σ.1 2 12), .int (σ.1 2 13)] : List Value).set 3 (.int v)))) H) : va_P D vwCl (wA a k (stI σ 2 3 v)) H := h
theorem uA_2_4 {D : va_G} {H : Heap} {a : Nat → Nat} {k : Nat → ClassId} {σ : ST} {v : Int32} (h : va_P D vwCl ((wA a k σ).set 2 (a 2, .inr (6, ([.ref (a 1), .ref (a 3), .int (σ.1 2 2), .int (σ.1 2 3), .int (σ.1 2 4), .int (σ.1 2 5), .int (σ.1 2 6), .long (σ.2.1 2 7), .long (σ.2.1 2 8), .int (σ.1 2 9), .int (σ.1 2 10), .int (σ.1 2 11), .int (σ.1 2 12), .int (σ.1 2 13)] : List Value).set 4 (.int v)))) H) : va_P D vwCl (wA a k (stI σ 2 4 v)) H := h
theorem uA_2_5 {D : va_G} {H : Heap} {a : Nat → Nat} {k : Nat → ClassId} {σ : ST} {v : Int32} (h : va_P D vwCl ((wA a k σ).set 2 (a 2, .inr (6, ([.ref (a 1), .ref (a 3), .int (σ.1 2 2), .int (σ.1 2 3), .int (σ.1 2 4), .int (σ.1 2 5), .int (σ.1 2 6), .long (σ.2.1 2 7), .long (σ.2.1 2 8), .int (σ.1 2 9), .int (σ.1 2 10), .int (σ.1 2 11), .int (σ.1 2 12), .int (σ.1 2 13)] : List Value).set 5 (.int v)))) H) : va_P D vwCl (wA a k (stI σ 2 5 v)) H := h
theorem uA_2_6 {D : va_G} {H : Heap} {a : Nat → Nat} {k : Nat → ClassId} {σ : ST} {v : Int32} (h : va_P D vwCl ((wA a k σ).set 2 (a 2, .inr (6, ([.ref (a 1), .ref (a 3), .int (σ.1 2 2), .int (σ.1 2 3), .int (σ.1 2 4), .int (σ.1 2 5), .int (σ.1 2 6), .long (σ.2.1 2 7), .long (σ.2.1 2 8), .int (σ.1 2 9), .int (σ.1 2 10), .int (σ.1 2 11), .int (σ.1 2 12), .int (σ.1 2 13)] : List Value).set 6 (.int v)))) H) : va_P D vwCl (wA a k (stI σ 2 6 v)) H := h
theorem uA_2_7 {D : va_G} {H : Heap} {a : Nat → Nat} {k : Nat → ClassId} {σ : ST} {v : Int64} (h : va_P D vwCl ((wA a k σ).set 2 (a 2, .inr (6, ([.ref (a 1), .ref (a 3), .int (σ.1 2 2), .int (σ.1 2 3), .int (σ.1 2 4), .int (σ.1 2 5), .int (σ.1 2 6), .long (σ.2.1 2 7), .long (σ.2.1 2 8), .int (σ.1 2 9), .int (σ.1 2 10), .int (σ.1 2 11), .int (σ.1 2 12), .int (σ.1 2 13)] : List Value).set 7 (.long v)))) H) : va_P D vwCl (wA a k (stL σ 2 7 v)) H := h
theorem uA_2_8 {D : va_G} {H : Heap} {a : Nat → Nat} {k : Nat → ClassId} {σ : ST} {v : Int64} (h : va_P D vwCl ((wA a k σ).set 2 (a 2, .inr (6, ([.ref (a 1), .ref (a 3), .int (σ.1 2 2), .int (σ.1 2 3), .int (σ.1 2 4), .int (σ.1 2 5), .int (σ.1 2 6), .long (σ.2.1 2 7), .long (σ.2.1 2 8), .int (σ.1 2 9), .int (σ.1 2 10), .int (σ.1 2 11), .int (σ.1 2 12), .int (σ.1 2 13)] : List Value).set 8 (.long v)))) H) : va_P D vwCl (wA a k (stL σ 2 8 v)) H := h
theorem uA_2_9 {D : va_G} {H : Heap} {a : Nat → Nat} {k : Nat → ClassId} {σ : ST} {v : Int32} (h : va_P D vwCl ((wA a k σ).set 2 (a 2, .inr (6, ([.ref (a 1), .ref (a 3), .int (σ.1 2 2), .int (σ.1 2 3), .int (σ.1 2 4), .int (σ.1 2 5), .int (σ.1 2 6), .long (σ.2.1 2 7), .long (σ.2.1 2 8), .int (σ.1 2 9), .int (σ.1 2 10), .int (σ.1 2 11), .int (σ.1 2 12), .int (σ.1 2 13)] : List Value).set 9 (.int v)))) H) : va_P D vwCl (wA a k (stI σ 2 9 v)) H := h
theorem uA_2_10 {D : va_G} {H : Heap} {a : Nat → Nat} {k : Nat → ClassId} {σ : ST} {v : Int32} (h : va_P D vwCl ((wA a k σ).set 2 (a 2, .inr (6, ([.ref (a 1), .ref (a 3), .int (σ.1 2 2), .int (σ.1 2 3), .int (σ.1 2 4), .int (σ.1 2 5), .int (σ.1 2 6), .long (σ.2.1 2 7), .long (σ.2.1 2 8), .int (σ.1 2 9), .int (σ.1 2 10), .int (σ.1 2 11), .int (σ.1 2 12), .int (σ.1 2 13)] : List Value).set 10 (.int v)))) H) : va_P D vwCl (wA a k (stI σ 2 10 v)) H := h
theorem uA_2_11 {D : va_G} {H : Heap} {a : Nat → Nat} {k : Nat → ClassId} {σ : ST} {v : Int32} (h : va_P D vwCl ((wA a k σ).set 2 (a 2, .inr (6, ([.ref (a 1), .ref (a 3), .int (σ.1 2 2), .int (σ.1 2 3), .int (σ.1 2 4), .int (σ.1 2 5), .int (σ.1 2 6), .long (σ.2.1 2 7), .long (σ.2.1 2 8), .int (σ.1 2 9), .int (σ.1 2 10), .int (σ.1 2 11), .int (σ.1 2 12), .int (σ.1 2 13)] : List Value).set 11 (.int v)))) H) : va_P D vwCl (wA a k (stI σ 2 11 v)) H := h
theorem uA_2_12 {D : va_G} {H : Heap} {a : Nat → Nat} {k : Nat → ClassId} {σ : ST} {v : Int32} (h : va_P D vwCl ((wA a k σ).set 2 (a 2, .inr (6, ([.ref (a 1), .ref (a 3), .int (σ.1 2 2), .int (σ.1 2 3), .int (σ.1 2 4), .int (σ.1 2 5), .int (σ.1 2 6), .long (σ.2.1 2 7), .long (σ.2.1 2 8), .int (σ.1 2 9), .int (σ.1 2 10), .int (σ.1 2 11), .int (σ.1 2 12), .int (σ.1 2 13)] : List Value).set 12 (.int v)))) H) : va_P D vwCl (wA a k (stI σ 2 12 v)) H := h
theorem uA_2_13 {D : va_G} {H : Heap} {a : Nat → Nat} {k : Nat → ClassId} {σ : ST} {v : Int32} (h : va_P D vwCl ((wA a k σ).set 2 (a 2, .inr (6, ([.ref (a 1), .ref (a 3), .int (σ.1 2 2), .int (σ.1 2 3), .int (σ.1 2 4), .int (σ.1 2 5), .int (σ.1 2 6), .long (σ.2.1 2 7), .long (σ.2.1 2 8), .int (σ.1 2 9), .int (σ.1 2 10), .int (σ.1 2 11), .int (σ.1 2 12), .int (σ.1 2 13)] : List Value).set 13 (.int v)))) H) : va_P D vwCl (wA a k (stI σ 2 13 v)) H := h
theorem vA_3 {D : va_G} {H : Heap} {a : Nat → Nat} {k : Nat → ClassId} {σ : ST} {f : Nat → Int64} (h : va_P D vwCl ((wA a k σ).set 3 (a 3, .inl (k 3, 15, .inr (.inl f)))) H) : va_P D vwCl (wA a k (stFL σ 3 f)) H := h
theorem uA_3 {D : va_G} {H : Heap} {a : Nat → Nat} {k : Nat → ClassId} {σ : ST} {i : Nat} {v : Int64} (h : va_P D vwCl ((wA a k σ).set 3 (a 3, .inl (k 3, 15, .inr (.inl (vp_updL (σ.2.1 3) i v))))) H) : va_P D vwCl (wA a k (stL σ 3 i v)) H := h
theorem uA_4_0 {D : va_G} {H : Heap} {a : Nat → Nat} {k : Nat → ClassId} {σ : ST} {v : Int32} (h : va_P D vwCl ((wA a k σ).set 4 (a 4, .inr (5, ([.int (σ.1 4 0), .int (σ.1 4 1), .ref (a 5), .ref (a 6), .ref (a 7), .ref (a 8), .ref (a 9), .ref (a 10), .ref (a 11), .ref (a 12), .ref (a 13), .ref (a 14), .ref (a 15), .ref (a 16), .ref (a 17), .ref (a 18), .ref (a 19)] : List Value).set 0 (.int v)))) H) : va_P D vwCl (wA a k (stI σ 4 0 v)) H := h
theorem uA_4_1 {D : va_G} {H : Heap} {a : Nat → Nat} {k : Nat → ClassId} {σ : ST} {v : Int32} (h : va_P D vwCl ((wA a k σ).set 4 (a 4, .inr (5, ([.int (σ.1 4 0), .int (σ.1 4 1), .ref (a 5), .ref (a 6), .ref (a 7), .ref (a 8), .ref (a 9), .ref (a 10), .ref (a 11), .ref (a 12), .ref (a 13), .ref (a 14), .ref (a 15), .ref (a 16), .ref (a 17), .ref (a 18), .ref (a 19)] : List Value).set 1 (.int v)))) H) : va_P D vwCl (wA a k (stI σ 4 1 v)) H := h
theorem vA_5 {D : va_G} {H : Heap} {a : Nat → Nat} {k : Nat → ClassId} {σ : ST} {f : Nat → Int32} (h : va_P D vwCl ((wA a k σ).set 5 (a 5, .inl (k 5, 6, .inl f))) H) : va_P D vwCl (wA a k (stF σ 5 f)) H := h
theorem uA_5 {D : va_G} {H : Heap} {a : Nat → Nat} {k : Nat → ClassId} {σ : ST} {i : Nat} {v : Int32} (h : va_P D vwCl ((wA a k σ).set 5 (a 5, .inl (k 5, 6, .inl (upd (σ.1 5) i v)))) H) : va_P D vwCl (wA a k (stI σ 5 i v)) H := h
theorem vA_6 {D : va_G} {H : Heap} {a : Nat → Nat} {k : Nat → ClassId} {σ : ST} {f : Nat → Int32} (h : va_P D vwCl ((wA a k σ).set 6 (a 6, .inl (k 6, 6, .inl f))) H) : va_P D vwCl (wA a k (stF σ 6 f)) H := h
theorem uA_6 {D : va_G} {H : Heap} {a : Nat → Nat} {k : Nat → ClassId} {σ : ST} {i : Nat} {v : Int32} (h : va_P D vwCl ((wA a k σ).set 6 (a 6, .inl (k 6, 6, .inl (upd (σ.1 6) i v)))) H) : va_P D vwCl (wA a k (stI σ 6 i v)) H := h
theorem vA_7 {D : va_G} {H : Heap} {a : Nat → Nat} {k : Nat → ClassId} {σ : ST} {f : Nat → Int32} (h : va_P D vwCl ((wA a k σ).set 7 (a 7, .inl (k 7, 36, .inl f))) H) : va_P D vwCl (wA a k (stF σ 7 f)) H := h
theorem uA_7 {D : va_G} {H : Heap} {a : Nat → Nat} {k : Nat → ClassId} {σ : ST} {i : Nat} {v : Int32} (h : va_P D vwCl ((wA a k σ).set 7 (a 7, .inl (k 7, 36, .inl (upd (σ.1 7) i v)))) H) : va_P D vwCl (wA a k (stI σ 7 i v)) H := h
theorem vA_8 {D : va_G} {H : Heap} {a : Nat → Nat} {k : Nat → ClassId} {σ : ST} {f : Nat → Int64} (h : va_P D vwCl ((wA a k σ).set 8 (a 8, .inl (k 8, 36, .inr (.inl f)))) H) : va_P D vwCl (wA a k (stFL σ 8 f)) H := h
theorem uA_8 {D : va_G} {H : Heap} {a : Nat → Nat} {k : Nat → ClassId} {σ : ST} {i : Nat} {v : Int64} (h : va_P D vwCl ((wA a k σ).set 8 (a 8, .inl (k 8, 36, .inr (.inl (vp_updL (σ.2.1 8) i v))))) H) : va_P D vwCl (wA a k (stL σ 8 i v)) H := h
theorem vA_9 {D : va_G} {H : Heap} {a : Nat → Nat} {k : Nat → ClassId} {σ : ST} {f : Nat → Int32} (h : va_P D vwCl ((wA a k σ).set 9 (a 9, .inl (k 9, 36, .inl f))) H) : va_P D vwCl (wA a k (stF σ 9 f)) H := h
theorem uA_9 {D : va_G} {H : Heap} {a : Nat → Nat} {k : Nat → ClassId} {σ : ST} {i : Nat} {v : Int32} (h : va_P D vwCl ((wA a k σ).set 9 (a 9, .inl (k 9, 36, .inl (upd (σ.1 9) i v)))) H) : va_P D vwCl (wA a k (stI σ 9 i v)) H := h
theorem vA_10 {D : va_G} {H : Heap} {a : Nat → Nat} {k : Nat → ClassId} {σ : ST} {f : Nat → Int32} (h : va_P D vwCl ((wA a k σ).set 10 (a 10, .inl (k 10, 36, .inl f))) H) : va_P D vwCl (wA a k (stF σ 10 f)) H := h
theorem uA_10 {D : va_G} {H : Heap} {a : Nat → Nat} {k : Nat → ClassId} {σ : ST} {i : Nat} {v : Int32} (h : va_P D vwCl ((wA a k σ).set 10 (a 10, .inl (k 10, 36, .inl (upd (σ.1 10) i v)))) H) : va_P D vwCl (wA a k (stI σ 10 i v)) H := h
theorem vA_11 {D : va_G} {H : Heap} {a : Nat → Nat} {k : Nat → ClassId} {σ : ST} {f : Nat → Int64} (h : va_P D vwCl ((wA a k σ).set 11 (a 11, .inl (k 11, 288, .inr (.inl f)))) H) : va_P D vwCl (wA a k (stFL σ 11 f)) H := h
theorem uA_11 {D : va_G} {H : Heap} {a : Nat → Nat} {k : Nat → ClassId} {σ : ST} {i : Nat} {v : Int64} (h : va_P D vwCl ((wA a k σ).set 11 (a 11, .inl (k 11, 288, .inr (.inl (vp_updL (σ.2.1 11) i v))))) H) : va_P D vwCl (wA a k (stL σ 11 i v)) H := h
theorem vA_12 {D : va_G} {H : Heap} {a : Nat → Nat} {k : Nat → ClassId} {σ : ST} {f : Nat → Int64} (h : va_P D vwCl ((wA a k σ).set 12 (a 12, .inl (k 12, 288, .inr (.inl f)))) H) : va_P D vwCl (wA a k (stFL σ 12 f)) H := h
theorem uA_12 {D : va_G} {H : Heap} {a : Nat → Nat} {k : Nat → ClassId} {σ : ST} {i : Nat} {v : Int64} (h : va_P D vwCl ((wA a k σ).set 12 (a 12, .inl (k 12, 288, .inr (.inl (vp_updL (σ.2.1 12) i v))))) H) : va_P D vwCl (wA a k (stL σ 12 i v)) H := h
theorem vA_13 {D : va_G} {H : Heap} {a : Nat → Nat} {k : Nat → ClassId} {σ : ST} {f : Nat → Int32} (h : va_P D vwCl ((wA a k σ).set 13 (a 13, .inl (k 13, 288, .inl f))) H) : va_P D vwCl (wA a k (stF σ 13 f)) H := h
theorem uA_13 {D : va_G} {H : Heap} {a : Nat → Nat} {k : Nat → ClassId} {σ : ST} {i : Nat} {v : Int32} (h : va_P D vwCl ((wA a k σ).set 13 (a 13, .inl (k 13, 288, .inl (upd (σ.1 13) i v)))) H) : va_P D vwCl (wA a k (stI σ 13 i v)) H := h
theorem vA_14 {D : va_G} {H : Heap} {a : Nat → Nat} {k : Nat → ClassId} {σ : ST} {f : Nat → Int64} (h : va_P D vwCl ((wA a k σ).set 14 (a 14, .inl (k 14, 288, .inr (.inl f)))) H) : va_P D vwCl (wA a k (stFL σ 14 f)) H := h
theorem uA_14 {D : va_G} {H : Heap} {a : Nat → Nat} {k : Nat → ClassId} {σ : ST} {i : Nat} {v : Int64} (h : va_P D vwCl ((wA a k σ).set 14 (a 14, .inl (k 14, 288, .inr (.inl (vp_updL (σ.2.1 14) i v))))) H) : va_P D vwCl (wA a k (stL σ 14 i v)) H := h
theorem vA_15 {D : va_G} {H : Heap} {a : Nat → Nat} {k : Nat → ClassId} {σ : ST} {f : Nat → Int32} (h : va_P D vwCl ((wA a k σ).set 15 (a 15, .inl (k 15, 262, .inl f))) H) : va_P D vwCl (wA a k (stF σ 15 f)) H := h
theorem uA_15 {D : va_G} {H : Heap} {a : Nat → Nat} {k : Nat → ClassId} {σ : ST} {i : Nat} {v : Int32} (h : va_P D vwCl ((wA a k σ).set 15 (a 15, .inl (k 15, 262, .inl (upd (σ.1 15) i v)))) H) : va_P D vwCl (wA a k (stI σ 15 i v)) H := h
theorem vA_16 {D : va_G} {H : Heap} {a : Nat → Nat} {k : Nat → ClassId} {σ : ST} {f : Nat → Int32} (h : va_P D vwCl ((wA a k σ).set 16 (a 16, .inl (k 16, 262, .inl f))) H) : va_P D vwCl (wA a k (stF σ 16 f)) H := h
theorem uA_16 {D : va_G} {H : Heap} {a : Nat → Nat} {k : Nat → ClassId} {σ : ST} {i : Nat} {v : Int32} (h : va_P D vwCl ((wA a k σ).set 16 (a 16, .inl (k 16, 262, .inl (upd (σ.1 16) i v)))) H) : va_P D vwCl (wA a k (stI σ 16 i v)) H := h
theorem vA_17 {D : va_G} {H : Heap} {a : Nat → Nat} {k : Nat → ClassId} {σ : ST} {f : Nat → Int32} (h : va_P D vwCl ((wA a k σ).set 17 (a 17, .inl (k 17, 262, .inl f))) H) : va_P D vwCl (wA a k (stF σ 17 f)) H := h
theorem uA_17 {D : va_G} {H : Heap} {a : Nat → Nat} {k : Nat → ClassId} {σ : ST} {i : Nat} {v : Int32} (h : va_P D vwCl ((wA a k σ).set 17 (a 17, .inl (k 17, 262, .inl (upd (σ.1 17) i v)))) H) : va_P D vwCl (wA a k (stI σ 17 i v)) H := h
theorem vA_18 {D : va_G} {H : Heap} {a : Nat → Nat} {k : Nat → ClassId} {σ : ST} {f : Nat → Int64} (h : va_P D vwCl ((wA a k σ).set 18 (a 18, .inl (k 18, 262, .inr (.inl f)))) H) : va_P D vwCl (wA a k (stFL σ 18 f)) H := h
theorem uA_18 {D : va_G} {H : Heap} {a : Nat → Nat} {k : Nat → ClassId} {σ : ST} {i : Nat} {v : Int64} (h : va_P D vwCl ((wA a k σ).set 18 (a 18, .inl (k 18, 262, .inr (.inl (vp_updL (σ.2.1 18) i v))))) H) : va_P D vwCl (wA a k (stL σ 18 i v)) H := h
theorem vA_19 {D : va_G} {H : Heap} {a : Nat → Nat} {k : Nat → ClassId} {σ : ST} {f : Nat → Int32} (h : va_P D vwCl ((wA a k σ).set 19 (a 19, .inl (k 19, 262, .inl f))) H) : va_P D vwCl (wA a k (stF σ 19 f)) H := h
theorem uA_19 {D : va_G} {H : Heap} {a : Nat → Nat} {k : Nat → ClassId} {σ : ST} {i : Nat} {v : Int32} (h : va_P D vwCl ((wA a k σ).set 19 (a 19, .inl (k 19, 262, .inl (upd (σ.1 19) i v)))) H) : va_P D vwCl (wA a k (stI σ 19 i v)) H := h
theorem uA_20_0 {D : va_G} {H : Heap} {a : Nat → Nat} {k : Nat → ClassId} {σ : ST} {v : Int32} (h : va_P D vwCl ((wA a k σ).set 20 (a 20, .inr (5, ([.int (σ.1 20 0), .int (σ.1 20 1), .ref (a 21), .ref (a 22), .ref (a 23), .ref (a 24), .ref (a 25), .ref (a 26), .ref (a 27), .ref (a 28), .ref (a 29), .ref (a 30), .ref (a 31), .ref (a 32), .ref (a 33), .ref (a 34), .ref (a 35)] : List Value).set 0 (.int v)))) H) : va_P D vwCl (wA a k (stI σ 20 0 v)) H := h
theorem uA_20_1 {D : va_G} {H : Heap} {a : Nat → Nat} {k : Nat → ClassId} {σ : ST} {v : Int32} (h : va_P D vwCl ((wA a k σ).set 20 (a 20, .inr (5, ([.int (σ.1 20 0), .int (σ.1 20 1), .ref (a 21), .ref (a 22), .ref (a 23), .ref (a 24), .ref (a 25), .ref (a 26), .ref (a 27), .ref (a 28), .ref (a 29), .ref (a 30), .ref (a 31), .ref (a 32), .ref (a 33), .ref (a 34), .ref (a 35)] : List Value).set 1 (.int v)))) H) : va_P D vwCl (wA a k (stI σ 20 1 v)) H := h
theorem vA_21 {D : va_G} {H : Heap} {a : Nat → Nat} {k : Nat → ClassId} {σ : ST} {f : Nat → Int32} (h : va_P D vwCl ((wA a k σ).set 21 (a 21, .inl (k 21, 6, .inl f))) H) : va_P D vwCl (wA a k (stF σ 21 f)) H := h
theorem uA_21 {D : va_G} {H : Heap} {a : Nat → Nat} {k : Nat → ClassId} {σ : ST} {i : Nat} {v : Int32} (h : va_P D vwCl ((wA a k σ).set 21 (a 21, .inl (k 21, 6, .inl (upd (σ.1 21) i v)))) H) : va_P D vwCl (wA a k (stI σ 21 i v)) H := h
theorem vA_22 {D : va_G} {H : Heap} {a : Nat → Nat} {k : Nat → ClassId} {σ : ST} {f : Nat → Int32} (h : va_P D vwCl ((wA a k σ).set 22 (a 22, .inl (k 22, 6, .inl f))) H) : va_P D vwCl (wA a k (stF σ 22 f)) H := h
theorem uA_22 {D : va_G} {H : Heap} {a : Nat → Nat} {k : Nat → ClassId} {σ : ST} {i : Nat} {v : Int32} (h : va_P D vwCl ((wA a k σ).set 22 (a 22, .inl (k 22, 6, .inl (upd (σ.1 22) i v)))) H) : va_P D vwCl (wA a k (stI σ 22 i v)) H := h
theorem vA_23 {D : va_G} {H : Heap} {a : Nat → Nat} {k : Nat → ClassId} {σ : ST} {f : Nat → Int32} (h : va_P D vwCl ((wA a k σ).set 23 (a 23, .inl (k 23, 36, .inl f))) H) : va_P D vwCl (wA a k (stF σ 23 f)) H := h
theorem uA_23 {D : va_G} {H : Heap} {a : Nat → Nat} {k : Nat → ClassId} {σ : ST} {i : Nat} {v : Int32} (h : va_P D vwCl ((wA a k σ).set 23 (a 23, .inl (k 23, 36, .inl (upd (σ.1 23) i v)))) H) : va_P D vwCl (wA a k (stI σ 23 i v)) H := h
theorem vA_24 {D : va_G} {H : Heap} {a : Nat → Nat} {k : Nat → ClassId} {σ : ST} {f : Nat → Int64} (h : va_P D vwCl ((wA a k σ).set 24 (a 24, .inl (k 24, 36, .inr (.inl f)))) H) : va_P D vwCl (wA a k (stFL σ 24 f)) H := h
theorem uA_24 {D : va_G} {H : Heap} {a : Nat → Nat} {k : Nat → ClassId} {σ : ST} {i : Nat} {v : Int64} (h : va_P D vwCl ((wA a k σ).set 24 (a 24, .inl (k 24, 36, .inr (.inl (vp_updL (σ.2.1 24) i v))))) H) : va_P D vwCl (wA a k (stL σ 24 i v)) H := h
theorem vA_25 {D : va_G} {H : Heap} {a : Nat → Nat} {k : Nat → ClassId} {σ : ST} {f : Nat → Int32} (h : va_P D vwCl ((wA a k σ).set 25 (a 25, .inl (k 25, 36, .inl f))) H) : va_P D vwCl (wA a k (stF σ 25 f)) H := h
theorem uA_25 {D : va_G} {H : Heap} {a : Nat → Nat} {k : Nat → ClassId} {σ : ST} {i : Nat} {v : Int32} (h : va_P D vwCl ((wA a k σ).set 25 (a 25, .inl (k 25, 36, .inl (upd (σ.1 25) i v)))) H) : va_P D vwCl (wA a k (stI σ 25 i v)) H := h
theorem vA_26 {D : va_G} {H : Heap} {a : Nat → Nat} {k : Nat → ClassId} {σ : ST} {f : Nat → Int32} (h : va_P D vwCl ((wA a k σ).set 26 (a 26, .inl (k 26, 36, .inl f))) H) : va_P D vwCl (wA a k (stF σ 26 f)) H := h
theorem uA_26 {D : va_G} {H : Heap} {a : Nat → Nat} {k : Nat → ClassId} {σ : ST} {i : Nat} {v : Int32} (h : va_P D vwCl ((wA a k σ).set 26 (a 26, .inl (k 26, 36, .inl (upd (σ.1 26) i v)))) H) : va_P D vwCl (wA a k (stI σ 26 i v)) H := h
theorem vA_27 {D : va_G} {H : Heap} {a : Nat → Nat} {k : Nat → ClassId} {σ : ST} {f : Nat → Int64} (h : va_P D vwCl ((wA a k σ).set 27 (a 27, .inl (k 27, 288, .inr (.inl f)))) H) : va_P D vwCl (wA a k (stFL σ 27 f)) H := h
theorem uA_27 {D : va_G} {H : Heap} {a : Nat → Nat} {k : Nat → ClassId} {σ : ST} {i : Nat} {v : Int64} (h : va_P D vwCl ((wA a k σ).set 27 (a 27, .inl (k 27, 288, .inr (.inl (vp_updL (σ.2.1 27) i v))))) H) : va_P D vwCl (wA a k (stL σ 27 i v)) H := h
theorem vA_28 {D : va_G} {H : Heap} {a : Nat → Nat} {k : Nat → ClassId} {σ : ST} {f : Nat → Int64} (h : va_P D vwCl ((wA a k σ).set 28 (a 28, .inl (k 28, 288, .inr (.inl f)))) H) : va_P D vwCl (wA a k (stFL σ 28 f)) H := h
theorem uA_28 {D : va_G} {H : Heap} {a : Nat → Nat} {k : Nat → ClassId} {σ : ST} {i : Nat} {v : Int64} (h : va_P D vwCl ((wA a k σ).set 28 (a 28, .inl (k 28, 288, .inr (.inl (vp_updL (σ.2.1 28) i v))))) H) : va_P D vwCl (wA a k (stL σ 28 i v)) H := h
theorem vA_29 {D : va_G} {H : Heap} {a : Nat → Nat} {k : Nat → ClassId} {σ : ST} {f : Nat → Int32} (h : va_P D vwCl ((wA a k σ).set 29 (a 29, .inl (k 29, 288, .inl f))) H) : va_P D vwCl (wA a k (stF σ 29 f)) H := h
theorem uA_29 {D : va_G} {H : Heap} {a : Nat → Nat} {k : Nat → ClassId} {σ : ST} {i : Nat} {v : Int32} (h : va_P D vwCl ((wA a k σ).set 29 (a 29, .inl (k 29, 288, .inl (upd (σ.1 29) i v)))) H) : va_P D vwCl (wA a k (stI σ 29 i v)) H := h
theorem vA_30 {D : va_G} {H : Heap} {a : Nat → Nat} {k : Nat → ClassId} {σ : ST} {f : Nat → Int64} (h : va_P D vwCl ((wA a k σ).set 30 (a 30, .inl (k 30, 288, .inr (.inl f)))) H) : va_P D vwCl (wA a k (stFL σ 30 f)) H := h
theorem uA_30 {D : va_G} {H : Heap} {a : Nat → Nat} {k : Nat → ClassId} {σ : ST} {i : Nat} {v : Int64} (h : va_P D vwCl ((wA a k σ).set 30 (a 30, .inl (k 30, 288, .inr (.inl (vp_updL (σ.2.1 30) i v))))) H) : va_P D vwCl (wA a k (stL σ 30 i v)) H := h
theorem vA_31 {D : va_G} {H : Heap} {a : Nat → Nat} {k : Nat → ClassId} {σ : ST} {f : Nat → Int32} (h : va_P D vwCl ((wA a k σ).set 31 (a 31, .inl (k 31, 262, .inl f))) H) : va_P D vwCl (wA a k (stF σ 31 f)) H := h
theorem uA_31 {D : va_G} {H : Heap} {a : Nat → Nat} {k : Nat → ClassId} {σ : ST} {i : Nat} {v : Int32} (h : va_P D vwCl ((wA a k σ).set 31 (a 31, .inl (k 31, 262, .inl (upd (σ.1 31) i v)))) H) : va_P D vwCl (wA a k (stI σ 31 i v)) H := h
theorem vA_32 {D : va_G} {H : Heap} {a : Nat → Nat} {k : Nat → ClassId} {σ : ST} {f : Nat → Int32} (h : va_P D vwCl ((wA a k σ).set 32 (a 32, .inl (k 32, 262, .inl f))) H) : va_P D vwCl (wA a k (stF σ 32 f)) H := h
theorem uA_32 {D : va_G} {H : Heap} {a : Nat → Nat} {k : Nat → ClassId} {σ : ST} {i : Nat} {v : Int32} (h : va_P D vwCl ((wA a k σ).set 32 (a 32, .inl (k 32, 262, .inl (upd (σ.1 32) i v)))) H) : va_P D vwCl (wA a k (stI σ 32 i v)) H := h
theorem vA_33 {D : va_G} {H : Heap} {a : Nat → Nat} {k : Nat → ClassId} {σ : ST} {f : Nat → Int32} (h : va_P D vwCl ((wA a k σ).set 33 (a 33, .inl (k 33, 262, .inl f))) H) : va_P D vwCl (wA a k (stF σ 33 f)) H := h
theorem uA_33 {D : va_G} {H : Heap} {a : Nat → Nat} {k : Nat → ClassId} {σ : ST} {i : Nat} {v : Int32} (h : va_P D vwCl ((wA a k σ).set 33 (a 33, .inl (k 33, 262, .inl (upd (σ.1 33) i v)))) H) : va_P D vwCl (wA a k (stI σ 33 i v)) H := h
theorem vA_34 {D : va_G} {H : Heap} {a : Nat → Nat} {k : Nat → ClassId} {σ : ST} {f : Nat → Int64} (h : va_P D vwCl ((wA a k σ).set 34 (a 34, .inl (k 34, 262, .inr (.inl f)))) H) : va_P D vwCl (wA a k (stFL σ 34 f)) H := h
theorem uA_34 {D : va_G} {H : Heap} {a : Nat → Nat} {k : Nat → ClassId} {σ : ST} {i : Nat} {v : Int64} (h : va_P D vwCl ((wA a k σ).set 34 (a 34, .inl (k 34, 262, .inr (.inl (vp_updL (σ.2.1 34) i v))))) H) : va_P D vwCl (wA a k (stL σ 34 i v)) H := h
theorem vA_35 {D : va_G} {H : Heap} {a : Nat → Nat} {k : Nat → ClassId} {σ : ST} {f : Nat → Int32} (h : va_P D vwCl ((wA a k σ).set 35 (a 35, .inl (k 35, 262, .inl f))) H) : va_P D vwCl (wA a k (stF σ 35 f)) H := h
theorem uA_35 {D : va_G} {H : Heap} {a : Nat → Nat} {k : Nat → ClassId} {σ : ST} {i : Nat} {v : Int32} (h : va_P D vwCl ((wA a k σ).set 35 (a 35, .inl (k 35, 262, .inl (upd (σ.1 35) i v)))) H) : va_P D vwCl (wA a k (stI σ 35 i v)) H := h
theorem vA_38 {D : va_G} {H : Heap} {a : Nat → Nat} {k : Nat → ClassId} {σ : ST} {f : Nat → Int32} (h : va_P D vwCl ((wA a k σ).set 38 (a 38, .inl (k 38, 1600, .inl f))) H) : va_P D vwCl (wA a k (stF σ 38 f)) H := h
theorem uA_38 {D : va_G} {H : Heap} {a : Nat → Nat} {k : Nat → ClassId} {σ : ST} {i : Nat} {v : Int32} (h : va_P D vwCl ((wA a k σ).set 38 (a 38, .inl (k 38, 1600, .inl (upd (σ.1 38) i v)))) H) : va_P D vwCl (wA a k (stI σ 38 i v)) H := h
theorem vA_39 {D : va_G} {H : Heap} {a : Nat → Nat} {k : Nat → ClassId} {σ : ST} {f : Nat → Int32} (h : va_P D vwCl ((wA a k σ).set 39 (a 39, .inl (k 39, 4, .inl f))) H) : va_P D vwCl (wA a k (stF σ 39 f)) H := h
theorem uA_39 {D : va_G} {H : Heap} {a : Nat → Nat} {k : Nat → ClassId} {σ : ST} {i : Nat} {v : Int32} (h : va_P D vwCl ((wA a k σ).set 39 (a 39, .inl (k 39, 4, .inl (upd (σ.1 39) i v)))) H) : va_P D vwCl (wA a k (stI σ 39 i v)) H := h
theorem vA_40 {D : va_G} {H : Heap} {a : Nat → Nat} {k : Nat → ClassId} {σ : ST} {f : Nat → Int32} (h : va_P D vwCl ((wA a k σ).set 40 (a 40, .inl (k 40, 4, .inl f))) H) : va_P D vwCl (wA a k (stF σ 40 f)) H := h
theorem uA_40 {D : va_G} {H : Heap} {a : Nat → Nat} {k : Nat → ClassId} {σ : ST} {i : Nat} {v : Int32} (h : va_P D vwCl ((wA a k σ).set 40 (a 40, .inl (k 40, 4, .inl (upd (σ.1 40) i v)))) H) : va_P D vwCl (wA a k (stI σ 40 i v)) H := h
theorem uA_41_2 {D : va_G} {H : Heap} {a : Nat → Nat} {k : Nat → ClassId} {σ : ST} {v : Int64} (h : va_P D vwCl ((wA a k σ).set 41 (a 41, .inr (0, ([.ref (a 4), .ref (a 42), .long (σ.2.1 41 2), .ref (a 43), .long (σ.2.1 41 4), .int (σ.1 41 5), .int (σ.1 41 6), .ref (a 44), .ref (a 45), .ref (a 46), .ref (a 47), .int (σ.1 41 11), .long (σ.2.1 41 12)] : List Value).set 2 (.long v)))) H) : va_P D vwCl (wA a k (stL σ 41 2 v)) H := h
theorem uA_41_4 {D : va_G} {H : Heap} {a : Nat → Nat} {k : Nat → ClassId} {σ : ST} {v : Int64} (h : va_P D vwCl ((wA a k σ).set 41 (a 41, .inr (0, ([.ref (a 4), .ref (a 42), .long (σ.2.1 41 2), .ref (a 43), .long (σ.2.1 41 4), .int (σ.1 41 5), .int (σ.1 41 6), .ref (a 44), .ref (a 45), .ref (a 46), .ref (a 47), .int (σ.1 41 11), .long (σ.2.1 41 12)] : List Value).set 4 (.long v)))) H) : va_P D vwCl (wA a k (stL σ 41 4 v)) H := h
theorem uA_41_5 {D : va_G} {H : Heap} {a : Nat → Nat} {k : Nat → ClassId} {σ : ST} {v : Int32} (h : va_P D vwCl ((wA a k σ).set 41 (a 41, .inr (0, ([.ref (a 4), .ref (a 42), .long (σ.2.1 41 2), .ref (a 43), .long (σ.2.1 41 4), .int (σ.1 41 5), .int (σ.1 41 6), .ref (a 44), .ref (a 45), .ref (a 46), .ref (a 47), .int (σ.1 41 11), .long (σ.2.1 41 12)] : List Value).set 5 (.int v)))) H) : va_P D vwCl (wA a k (stI σ 41 5 v)) H := h
theorem uA_41_6 {D : va_G} {H : Heap} {a : Nat → Nat} {k : Nat → ClassId} {σ : ST} {v : Int32} (h : va_P D vwCl ((wA a k σ).set 41 (a 41, .inr (0, ([.ref (a 4), .ref (a 42), .long (σ.2.1 41 2), .ref (a 43), .long (σ.2.1 41 4), .int (σ.1 41 5), .int (σ.1 41 6), .ref (a 44), .ref (a 45), .ref (a 46), .ref (a 47), .int (σ.1 41 11), .long (σ.2.1 41 12)] : List Value).set 6 (.int v)))) H) : va_P D vwCl (wA a k (stI σ 41 6 v)) H := h
theorem uA_41_11 {D : va_G} {H : Heap} {a : Nat → Nat} {k : Nat → ClassId} {σ : ST} {v : Int32} (h : va_P D vwCl ((wA a k σ).set 41 (a 41, .inr (0, ([.ref (a 4), .ref (a 42), .long (σ.2.1 41 2), .ref (a 43), .long (σ.2.1 41 4), .int (σ.1 41 5), .int (σ.1 41 6), .ref (a 44), .ref (a 45), .ref (a 46), .ref (a 47), .int (σ.1 41 11), .long (σ.2.1 41 12)] : List Value).set 11 (.int v)))) H) : va_P D vwCl (wA a k (stI σ 41 11 v)) H := h
theorem uA_41_12 {D : va_G} {H : Heap} {a : Nat → Nat} {k : Nat → ClassId} {σ : ST} {v : Int64} (h : va_P D vwCl ((wA a k σ).set 41 (a 41, .inr (0, ([.ref (a 4), .ref (a 42), .long (σ.2.1 41 2), .ref (a 43), .long (σ.2.1 41 4), .int (σ.1 41 5), .int (σ.1 41 6), .ref (a 44), .ref (a 45), .ref (a 46), .ref (a 47), .int (σ.1 41 11), .long (σ.2.1 41 12)] : List Value).set 12 (.long v)))) H) : va_P D vwCl (wA a k (stL σ 41 12 v)) H := h
theorem vA_42 {D : va_G} {H : Heap} {a : Nat → Nat} {k : Nat → ClassId} {σ : ST} {f : Nat → Int64} (h : va_P D vwCl ((wA a k σ).set 42 (a 42, .inl (k 42, 36, .inr (.inl f)))) H) : va_P D vwCl (wA a k (stFL σ 42 f)) H := h
theorem uA_42 {D : va_G} {H : Heap} {a : Nat → Nat} {k : Nat → ClassId} {σ : ST} {i : Nat} {v : Int64} (h : va_P D vwCl ((wA a k σ).set 42 (a 42, .inl (k 42, 36, .inr (.inl (vp_updL (σ.2.1 42) i v))))) H) : va_P D vwCl (wA a k (stL σ 42 i v)) H := h
theorem vA_43 {D : va_G} {H : Heap} {a : Nat → Nat} {k : Nat → ClassId} {σ : ST} {f : Nat → Int32} (h : va_P D vwCl ((wA a k σ).set 43 (a 43, .inl (k 43, 36, .inl f))) H) : va_P D vwCl (wA a k (stF σ 43 f)) H := h
theorem uA_43 {D : va_G} {H : Heap} {a : Nat → Nat} {k : Nat → ClassId} {σ : ST} {i : Nat} {v : Int32} (h : va_P D vwCl ((wA a k σ).set 43 (a 43, .inl (k 43, 36, .inl (upd (σ.1 43) i v)))) H) : va_P D vwCl (wA a k (stI σ 43 i v)) H := h
theorem vA_44 {D : va_G} {H : Heap} {a : Nat → Nat} {k : Nat → ClassId} {σ : ST} {f : Nat → Int32} (h : va_P D vwCl ((wA a k σ).set 44 (a 44, .inl (k 44, 20, .inl f))) H) : va_P D vwCl (wA a k (stF σ 44 f)) H := h
theorem uA_44 {D : va_G} {H : Heap} {a : Nat → Nat} {k : Nat → ClassId} {σ : ST} {i : Nat} {v : Int32} (h : va_P D vwCl ((wA a k σ).set 44 (a 44, .inl (k 44, 20, .inl (upd (σ.1 44) i v)))) H) : va_P D vwCl (wA a k (stI σ 44 i v)) H := h
theorem vA_45 {D : va_G} {H : Heap} {a : Nat → Nat} {k : Nat → ClassId} {σ : ST} {f : Nat → Int32} (h : va_P D vwCl ((wA a k σ).set 45 (a 45, .inl (k 45, 20, .inl f))) H) : va_P D vwCl (wA a k (stF σ 45 f)) H := h
theorem uA_45 {D : va_G} {H : Heap} {a : Nat → Nat} {k : Nat → ClassId} {σ : ST} {i : Nat} {v : Int32} (h : va_P D vwCl ((wA a k σ).set 45 (a 45, .inl (k 45, 20, .inl (upd (σ.1 45) i v)))) H) : va_P D vwCl (wA a k (stI σ 45 i v)) H := h
theorem vA_46 {D : va_G} {H : Heap} {a : Nat → Nat} {k : Nat → ClassId} {σ : ST} {f : Nat → Int32} (h : va_P D vwCl ((wA a k σ).set 46 (a 46, .inl (k 46, 640, .inl f))) H) : va_P D vwCl (wA a k (stF σ 46 f)) H := h
theorem uA_46 {D : va_G} {H : Heap} {a : Nat → Nat} {k : Nat → ClassId} {σ : ST} {i : Nat} {v : Int32} (h : va_P D vwCl ((wA a k σ).set 46 (a 46, .inl (k 46, 640, .inl (upd (σ.1 46) i v)))) H) : va_P D vwCl (wA a k (stI σ 46 i v)) H := h
theorem vA_47 {D : va_G} {H : Heap} {a : Nat → Nat} {k : Nat → ClassId} {σ : ST} {f : Nat → Int32} (h : va_P D vwCl ((wA a k σ).set 47 (a 47, .inl (k 47, 32, .inl f))) H) : va_P D vwCl (wA a k (stF σ 47 f)) H := h
theorem uA_47 {D : va_G} {H : Heap} {a : Nat → Nat} {k : Nat → ClassId} {σ : ST} {i : Nat} {v : Int32} (h : va_P D vwCl ((wA a k σ).set 47 (a 47, .inl (k 47, 32, .inl (upd (σ.1 47) i v)))) H) : va_P D vwCl (wA a k (stI σ 47 i v)) H := h
theorem uA_48_1 {D : va_G} {H : Heap} {a : Nat → Nat} {k : Nat → ClassId} {σ : ST} {v : Int32} (h : va_P D vwCl ((wA a k σ).set 48 (a 48, .inr (9, ([.ref (a 49), .int (σ.1 48 1), .int (σ.1 48 2), .int (σ.1 48 3)] : List Value).set 1 (.int v)))) H) : va_P D vwCl (wA a k (stI σ 48 1 v)) H := h
theorem uA_48_2 {D : va_G} {H : Heap} {a : Nat → Nat} {k : Nat → ClassId} {σ : ST} {v : Int32} (h : va_P D vwCl ((wA a k σ).set 48 (a 48, .inr (9, ([.ref (a 49), .int (σ.1 48 1), .int (σ.1 48 2), .int (σ.1 48 3)] : List Value).set 2 (.int v)))) H) : va_P D vwCl (wA a k (stI σ 48 2 v)) H := h
theorem uA_48_3 {D : va_G} {H : Heap} {a : Nat → Nat} {k : Nat → ClassId} {σ : ST} {v : Int32} (h : va_P D vwCl ((wA a k σ).set 48 (a 48, .inr (9, ([.ref (a 49), .int (σ.1 48 1), .int (σ.1 48 2), .int (σ.1 48 3)] : List Value).set 3 (.int v)))) H) : va_P D vwCl (wA a k (stI σ 48 3 v)) H := h
theorem vA_49 {D : va_G} {H : Heap} {a : Nat → Nat} {k : Nat → ClassId} {σ : ST} {f : Nat → Int32} (h : va_P D vwCl ((wA a k σ).set 49 (a 49, .inl (k 49, 4, .inl f))) H) : va_P D vwCl (wA a k (stF σ 49 f)) H := h
theorem uA_49 {D : va_G} {H : Heap} {a : Nat → Nat} {k : Nat → ClassId} {σ : ST} {i : Nat} {v : Int32} (h : va_P D vwCl ((wA a k σ).set 49 (a 49, .inl (k 49, 4, .inl (upd (σ.1 49) i v)))) H) : va_P D vwCl (wA a k (stI σ 49 i v)) H := h
theorem uA_50_1 {D : va_G} {H : Heap} {a : Nat → Nat} {k : Nat → ClassId} {σ : ST} {v : Int32} (h : va_P D vwCl ((wA a k σ).set 50 (a 50, .inr (7, ([.int (σ.1 50 0), .int (σ.1 50 1), .ref (a 51), .ref (a 52), .ref (a 53), .ref (a 54), .ref (a 55), .ref (a 56), .ref (a 57), .ref (a 58), .ref (a 59), .ref (a 60), .ref (a 61)] : List Value).set 1 (.int v)))) H) : va_P D vwCl (wA a k (stI σ 50 1 v)) H := h
theorem vA_51 {D : va_G} {H : Heap} {a : Nat → Nat} {k : Nat → ClassId} {σ : ST} {f : Nat → Int32} (h : va_P D vwCl ((wA a k σ).set 51 (a 51, .inl (k 51, 400, .inl f))) H) : va_P D vwCl (wA a k (stF σ 51 f)) H := h
theorem uA_51 {D : va_G} {H : Heap} {a : Nat → Nat} {k : Nat → ClassId} {σ : ST} {i : Nat} {v : Int32} (h : va_P D vwCl ((wA a k σ).set 51 (a 51, .inl (k 51, 400, .inl (upd (σ.1 51) i v)))) H) : va_P D vwCl (wA a k (stI σ 51 i v)) H := h
theorem vA_52 {D : va_G} {H : Heap} {a : Nat → Nat} {k : Nat → ClassId} {σ : ST} {f : Nat → Int32} (h : va_P D vwCl ((wA a k σ).set 52 (a 52, .inl (k 52, 400, .inl f))) H) : va_P D vwCl (wA a k (stF σ 52 f)) H := h
theorem uA_52 {D : va_G} {H : Heap} {a : Nat → Nat} {k : Nat → ClassId} {σ : ST} {i : Nat} {v : Int32} (h : va_P D vwCl ((wA a k σ).set 52 (a 52, .inl (k 52, 400, .inl (upd (σ.1 52) i v)))) H) : va_P D vwCl (wA a k (stI σ 52 i v)) H := h
theorem vA_53 {D : va_G} {H : Heap} {a : Nat → Nat} {k : Nat → ClassId} {σ : ST} {f : Nat → Int32} (h : va_P D vwCl ((wA a k σ).set 53 (a 53, .inl (k 53, 400, .inl f))) H) : va_P D vwCl (wA a k (stF σ 53 f)) H := h
theorem uA_53 {D : va_G} {H : Heap} {a : Nat → Nat} {k : Nat → ClassId} {σ : ST} {i : Nat} {v : Int32} (h : va_P D vwCl ((wA a k σ).set 53 (a 53, .inl (k 53, 400, .inl (upd (σ.1 53) i v)))) H) : va_P D vwCl (wA a k (stI σ 53 i v)) H := h
theorem vA_54 {D : va_G} {H : Heap} {a : Nat → Nat} {k : Nat → ClassId} {σ : ST} {f : Nat → Int32} (h : va_P D vwCl ((wA a k σ).set 54 (a 54, .inl (k 54, 400, .inl f))) H) : va_P D vwCl (wA a k (stF σ 54 f)) H := h
theorem uA_54 {D : va_G} {H : Heap} {a : Nat → Nat} {k : Nat → ClassId} {σ : ST} {i : Nat} {v : Int32} (h : va_P D vwCl ((wA a k σ).set 54 (a 54, .inl (k 54, 400, .inl (upd (σ.1 54) i v)))) H) : va_P D vwCl (wA a k (stI σ 54 i v)) H := h
theorem vA_55 {D : va_G} {H : Heap} {a : Nat → Nat} {k : Nat → ClassId} {σ : ST} {f : Nat → Int32} (h : va_P D vwCl ((wA a k σ).set 55 (a 55, .inl (k 55, 400, .inl f))) H) : va_P D vwCl (wA a k (stF σ 55 f)) H := h
theorem uA_55 {D : va_G} {H : Heap} {a : Nat → Nat} {k : Nat → ClassId} {σ : ST} {i : Nat} {v : Int32} (h : va_P D vwCl ((wA a k σ).set 55 (a 55, .inl (k 55, 400, .inl (upd (σ.1 55) i v)))) H) : va_P D vwCl (wA a k (stI σ 55 i v)) H := h
theorem vA_56 {D : va_G} {H : Heap} {a : Nat → Nat} {k : Nat → ClassId} {σ : ST} {f : Nat → Int64} (h : va_P D vwCl ((wA a k σ).set 56 (a 56, .inl (k 56, 400, .inr (.inl f)))) H) : va_P D vwCl (wA a k (stFL σ 56 f)) H := h
theorem uA_56 {D : va_G} {H : Heap} {a : Nat → Nat} {k : Nat → ClassId} {σ : ST} {i : Nat} {v : Int64} (h : va_P D vwCl ((wA a k σ).set 56 (a 56, .inl (k 56, 400, .inr (.inl (vp_updL (σ.2.1 56) i v))))) H) : va_P D vwCl (wA a k (stL σ 56 i v)) H := h
theorem vA_57 {D : va_G} {H : Heap} {a : Nat → Nat} {k : Nat → ClassId} {σ : ST} {f : Nat → Int32} (h : va_P D vwCl ((wA a k σ).set 57 (a 57, .inl (k 57, 400, .inl f))) H) : va_P D vwCl (wA a k (stF σ 57 f)) H := h
theorem uA_57 {D : va_G} {H : Heap} {a : Nat → Nat} {k : Nat → ClassId} {σ : ST} {i : Nat} {v : Int32} (h : va_P D vwCl ((wA a k σ).set 57 (a 57, .inl (k 57, 400, .inl (upd (σ.1 57) i v)))) H) : va_P D vwCl (wA a k (stI σ 57 i v)) H := h
theorem vA_58 {D : va_G} {H : Heap} {a : Nat → Nat} {k : Nat → ClassId} {σ : ST} {f : Nat → Int32} (h : va_P D vwCl ((wA a k σ).set 58 (a 58, .inl (k 58, 400, .inl f))) H) : va_P D vwCl (wA a k (stF σ 58 f)) H := h
theorem uA_58 {D : va_G} {H : Heap} {a : Nat → Nat} {k : Nat → ClassId} {σ : ST} {i : Nat} {v : Int32} (h : va_P D vwCl ((wA a k σ).set 58 (a 58, .inl (k 58, 400, .inl (upd (σ.1 58) i v)))) H) : va_P D vwCl (wA a k (stI σ 58 i v)) H := h
theorem vA_59 {D : va_G} {H : Heap} {a : Nat → Nat} {k : Nat → ClassId} {σ : ST} {f : Nat → Int32} (h : va_P D vwCl ((wA a k σ).set 59 (a 59, .inl (k 59, 400, .inl f))) H) : va_P D vwCl (wA a k (stF σ 59 f)) H := h
theorem uA_59 {D : va_G} {H : Heap} {a : Nat → Nat} {k : Nat → ClassId} {σ : ST} {i : Nat} {v : Int32} (h : va_P D vwCl ((wA a k σ).set 59 (a 59, .inl (k 59, 400, .inl (upd (σ.1 59) i v)))) H) : va_P D vwCl (wA a k (stI σ 59 i v)) H := h
theorem vA_60 {D : va_G} {H : Heap} {a : Nat → Nat} {k : Nat → ClassId} {σ : ST} {f : Nat → Int32} (h : va_P D vwCl ((wA a k σ).set 60 (a 60, .inl (k 60, 400, .inl f))) H) : va_P D vwCl (wA a k (stF σ 60 f)) H := h
theorem uA_60 {D : va_G} {H : Heap} {a : Nat → Nat} {k : Nat → ClassId} {σ : ST} {i : Nat} {v : Int32} (h : va_P D vwCl ((wA a k σ).set 60 (a 60, .inl (k 60, 400, .inl (upd (σ.1 60) i v)))) H) : va_P D vwCl (wA a k (stI σ 60 i v)) H := h
theorem vA_61 {D : va_G} {H : Heap} {a : Nat → Nat} {k : Nat → ClassId} {σ : ST} {f : Nat → Int32} (h : va_P D vwCl ((wA a k σ).set 61 (a 61, .inl (k 61, 400, .inl f))) H) : va_P D vwCl (wA a k (stF σ 61 f)) H := h
theorem uA_61 {D : va_G} {H : Heap} {a : Nat → Nat} {k : Nat → ClassId} {σ : ST} {i : Nat} {v : Int32} (h : va_P D vwCl ((wA a k σ).set 61 (a 61, .inl (k 61, 400, .inl (upd (σ.1 61) i v)))) H) : va_P D vwCl (wA a k (stI σ 61 i v)) H := h
theorem uA_62_1 {D : va_G} {H : Heap} {a : Nat → Nat} {k : Nat → ClassId} {σ : ST} {v : Int32} (h : va_P D vwCl ((wA a k σ).set 62 (a 62, .inr (7, ([.int (σ.1 62 0), .int (σ.1 62 1), .ref (a 63), .ref (a 64), .ref (a 65), .ref (a 66), .ref (a 67), .ref (a 68), .ref (a 69), .ref (a 70), .ref (a 71), .ref (a 72), .ref (a 73)] : List Value).set 1 (.int v)))) H) : va_P D vwCl (wA a k (stI σ 62 1 v)) H := h
theorem vA_63 {D : va_G} {H : Heap} {a : Nat → Nat} {k : Nat → ClassId} {σ : ST} {f : Nat → Int32} (h : va_P D vwCl ((wA a k σ).set 63 (a 63, .inl (k 63, 502, .inl f))) H) : va_P D vwCl (wA a k (stF σ 63 f)) H := h
theorem uA_63 {D : va_G} {H : Heap} {a : Nat → Nat} {k : Nat → ClassId} {σ : ST} {i : Nat} {v : Int32} (h : va_P D vwCl ((wA a k σ).set 63 (a 63, .inl (k 63, 502, .inl (upd (σ.1 63) i v)))) H) : va_P D vwCl (wA a k (stI σ 63 i v)) H := h
theorem vA_64 {D : va_G} {H : Heap} {a : Nat → Nat} {k : Nat → ClassId} {σ : ST} {f : Nat → Int32} (h : va_P D vwCl ((wA a k σ).set 64 (a 64, .inl (k 64, 502, .inl f))) H) : va_P D vwCl (wA a k (stF σ 64 f)) H := h
theorem uA_64 {D : va_G} {H : Heap} {a : Nat → Nat} {k : Nat → ClassId} {σ : ST} {i : Nat} {v : Int32} (h : va_P D vwCl ((wA a k σ).set 64 (a 64, .inl (k 64, 502, .inl (upd (σ.1 64) i v)))) H) : va_P D vwCl (wA a k (stI σ 64 i v)) H := h
theorem vA_65 {D : va_G} {H : Heap} {a : Nat → Nat} {k : Nat → ClassId} {σ : ST} {f : Nat → Int32} (h : va_P D vwCl ((wA a k σ).set 65 (a 65, .inl (k 65, 502, .inl f))) H) : va_P D vwCl (wA a k (stF σ 65 f)) H := h
theorem uA_65 {D : va_G} {H : Heap} {a : Nat → Nat} {k : Nat → ClassId} {σ : ST} {i : Nat} {v : Int32} (h : va_P D vwCl ((wA a k σ).set 65 (a 65, .inl (k 65, 502, .inl (upd (σ.1 65) i v)))) H) : va_P D vwCl (wA a k (stI σ 65 i v)) H := h
theorem vA_66 {D : va_G} {H : Heap} {a : Nat → Nat} {k : Nat → ClassId} {σ : ST} {f : Nat → Int32} (h : va_P D vwCl ((wA a k σ).set 66 (a 66, .inl (k 66, 502, .inl f))) H) : va_P D vwCl (wA a k (stF σ 66 f)) H := h
theorem uA_66 {D : va_G} {H : Heap} {a : Nat → Nat} {k : Nat → ClassId} {σ : ST} {i : Nat} {v : Int32} (h : va_P D vwCl ((wA a k σ).set 66 (a 66, .inl (k 66, 502, .inl (upd (σ.1 66) i v)))) H) : va_P D vwCl (wA a k (stI σ 66 i v)) H := h
theorem vA_67 {D : va_G} {H : Heap} {a : Nat → Nat} {k : Nat → ClassId} {σ : ST} {f : Nat → Int32} (h : va_P D vwCl ((wA a k σ).set 67 (a 67, .inl (k 67, 502, .inl f))) H) : va_P D vwCl (wA a k (stF σ 67 f)) H := h
theorem uA_67 {D : va_G} {H : Heap} {a : Nat → Nat} {k : Nat → ClassId} {σ : ST} {i : Nat} {v : Int32} (h : va_P D vwCl ((wA a k σ).set 67 (a 67, .inl (k 67, 502, .inl (upd (σ.1 67) i v)))) H) : va_P D vwCl (wA a k (stI σ 67 i v)) H := h
theorem vA_68 {D : va_G} {H : Heap} {a : Nat → Nat} {k : Nat → ClassId} {σ : ST} {f : Nat → Int64} (h : va_P D vwCl ((wA a k σ).set 68 (a 68, .inl (k 68, 502, .inr (.inl f)))) H) : va_P D vwCl (wA a k (stFL σ 68 f)) H := h
theorem uA_68 {D : va_G} {H : Heap} {a : Nat → Nat} {k : Nat → ClassId} {σ : ST} {i : Nat} {v : Int64} (h : va_P D vwCl ((wA a k σ).set 68 (a 68, .inl (k 68, 502, .inr (.inl (vp_updL (σ.2.1 68) i v))))) H) : va_P D vwCl (wA a k (stL σ 68 i v)) H := h
theorem vA_69 {D : va_G} {H : Heap} {a : Nat → Nat} {k : Nat → ClassId} {σ : ST} {f : Nat → Int32} (h : va_P D vwCl ((wA a k σ).set 69 (a 69, .inl (k 69, 502, .inl f))) H) : va_P D vwCl (wA a k (stF σ 69 f)) H := h
theorem uA_69 {D : va_G} {H : Heap} {a : Nat → Nat} {k : Nat → ClassId} {σ : ST} {i : Nat} {v : Int32} (h : va_P D vwCl ((wA a k σ).set 69 (a 69, .inl (k 69, 502, .inl (upd (σ.1 69) i v)))) H) : va_P D vwCl (wA a k (stI σ 69 i v)) H := h
theorem vA_70 {D : va_G} {H : Heap} {a : Nat → Nat} {k : Nat → ClassId} {σ : ST} {f : Nat → Int32} (h : va_P D vwCl ((wA a k σ).set 70 (a 70, .inl (k 70, 502, .inl f))) H) : va_P D vwCl (wA a k (stF σ 70 f)) H := h
theorem uA_70 {D : va_G} {H : Heap} {a : Nat → Nat} {k : Nat → ClassId} {σ : ST} {i : Nat} {v : Int32} (h : va_P D vwCl ((wA a k σ).set 70 (a 70, .inl (k 70, 502, .inl (upd (σ.1 70) i v)))) H) : va_P D vwCl (wA a k (stI σ 70 i v)) H := h
theorem vA_71 {D : va_G} {H : Heap} {a : Nat → Nat} {k : Nat → ClassId} {σ : ST} {f : Nat → Int32} (h : va_P D vwCl ((wA a k σ).set 71 (a 71, .inl (k 71, 502, .inl f))) H) : va_P D vwCl (wA a k (stF σ 71 f)) H := h
theorem uA_71 {D : va_G} {H : Heap} {a : Nat → Nat} {k : Nat → ClassId} {σ : ST} {i : Nat} {v : Int32} (h : va_P D vwCl ((wA a k σ).set 71 (a 71, .inl (k 71, 502, .inl (upd (σ.1 71) i v)))) H) : va_P D vwCl (wA a k (stI σ 71 i v)) H := h
theorem vA_72 {D : va_G} {H : Heap} {a : Nat → Nat} {k : Nat → ClassId} {σ : ST} {f : Nat → Int32} (h : va_P D vwCl ((wA a k σ).set 72 (a 72, .inl (k 72, 502, .inl f))) H) : va_P D vwCl (wA a k (stF σ 72 f)) H := h
theorem uA_72 {D : va_G} {H : Heap} {a : Nat → Nat} {k : Nat → ClassId} {σ : ST} {i : Nat} {v : Int32} (h : va_P D vwCl ((wA a k σ).set 72 (a 72, .inl (k 72, 502, .inl (upd (σ.1 72) i v)))) H) : va_P D vwCl (wA a k (stI σ 72 i v)) H := h
theorem vA_73 {D : va_G} {H : Heap} {a : Nat → Nat} {k : Nat → ClassId} {σ : ST} {f : Nat → Int32} (h : va_P D vwCl ((wA a k σ).set 73 (a 73, .inl (k 73, 502, .inl f))) H) : va_P D vwCl (wA a k (stF σ 73 f)) H := h
theorem uA_73 {D : va_G} {H : Heap} {a : Nat → Nat} {k : Nat → ClassId} {σ : ST} {i : Nat} {v : Int32} (h : va_P D vwCl ((wA a k σ).set 73 (a 73, .inl (k 73, 502, .inl (upd (σ.1 73) i v)))) H) : va_P D vwCl (wA a k (stI σ 73 i v)) H := h
theorem uA_74_1 {D : va_G} {H : Heap} {a : Nat → Nat} {k : Nat → ClassId} {σ : ST} {v : Int32} (h : va_P D vwCl ((wA a k σ).set 74 (a 74, .inr (7, ([.int (σ.1 74 0), .int (σ.1 74 1), .ref (a 75), .ref (a 76), .ref (a 77), .ref (a 78), .ref (a 79), .ref (a 80), .ref (a 81), .ref (a 82), .ref (a 83), .ref (a 84), .ref (a 85)] : List Value).set 1 (.int v)))) H) : va_P D vwCl (wA a k (stI σ 74 1 v)) H := h
theorem vA_75 {D : va_G} {H : Heap} {a : Nat → Nat} {k : Nat → ClassId} {σ : ST} {f : Nat → Int32} (h : va_P D vwCl ((wA a k σ).set 75 (a 75, .inl (k 75, 400, .inl f))) H) : va_P D vwCl (wA a k (stF σ 75 f)) H := h
theorem uA_75 {D : va_G} {H : Heap} {a : Nat → Nat} {k : Nat → ClassId} {σ : ST} {i : Nat} {v : Int32} (h : va_P D vwCl ((wA a k σ).set 75 (a 75, .inl (k 75, 400, .inl (upd (σ.1 75) i v)))) H) : va_P D vwCl (wA a k (stI σ 75 i v)) H := h
theorem vA_76 {D : va_G} {H : Heap} {a : Nat → Nat} {k : Nat → ClassId} {σ : ST} {f : Nat → Int32} (h : va_P D vwCl ((wA a k σ).set 76 (a 76, .inl (k 76, 400, .inl f))) H) : va_P D vwCl (wA a k (stF σ 76 f)) H := h
theorem uA_76 {D : va_G} {H : Heap} {a : Nat → Nat} {k : Nat → ClassId} {σ : ST} {i : Nat} {v : Int32} (h : va_P D vwCl ((wA a k σ).set 76 (a 76, .inl (k 76, 400, .inl (upd (σ.1 76) i v)))) H) : va_P D vwCl (wA a k (stI σ 76 i v)) H := h
theorem vA_77 {D : va_G} {H : Heap} {a : Nat → Nat} {k : Nat → ClassId} {σ : ST} {f : Nat → Int32} (h : va_P D vwCl ((wA a k σ).set 77 (a 77, .inl (k 77, 400, .inl f))) H) : va_P D vwCl (wA a k (stF σ 77 f)) H := h
theorem uA_77 {D : va_G} {H : Heap} {a : Nat → Nat} {k : Nat → ClassId} {σ : ST} {i : Nat} {v : Int32} (h : va_P D vwCl ((wA a k σ).set 77 (a 77, .inl (k 77, 400, .inl (upd (σ.1 77) i v)))) H) : va_P D vwCl (wA a k (stI σ 77 i v)) H := h
theorem vA_78 {D : va_G} {H : Heap} {a : Nat → Nat} {k : Nat → ClassId} {σ : ST} {f : Nat → Int32} (h : va_P D vwCl ((wA a k σ).set 78 (a 78, .inl (k 78, 400, .inl f))) H) : va_P D vwCl (wA a k (stF σ 78 f)) H := h
theorem uA_78 {D : va_G} {H : Heap} {a : Nat → Nat} {k : Nat → ClassId} {σ : ST} {i : Nat} {v : Int32} (h : va_P D vwCl ((wA a k σ).set 78 (a 78, .inl (k 78, 400, .inl (upd (σ.1 78) i v)))) H) : va_P D vwCl (wA a k (stI σ 78 i v)) H := h
theorem vA_79 {D : va_G} {H : Heap} {a : Nat → Nat} {k : Nat → ClassId} {σ : ST} {f : Nat → Int32} (h : va_P D vwCl ((wA a k σ).set 79 (a 79, .inl (k 79, 400, .inl f))) H) : va_P D vwCl (wA a k (stF σ 79 f)) H := h
theorem uA_79 {D : va_G} {H : Heap} {a : Nat → Nat} {k : Nat → ClassId} {σ : ST} {i : Nat} {v : Int32} (h : va_P D vwCl ((wA a k σ).set 79 (a 79, .inl (k 79, 400, .inl (upd (σ.1 79) i v)))) H) : va_P D vwCl (wA a k (stI σ 79 i v)) H := h
theorem vA_80 {D : va_G} {H : Heap} {a : Nat → Nat} {k : Nat → ClassId} {σ : ST} {f : Nat → Int64} (h : va_P D vwCl ((wA a k σ).set 80 (a 80, .inl (k 80, 400, .inr (.inl f)))) H) : va_P D vwCl (wA a k (stFL σ 80 f)) H := h
theorem uA_80 {D : va_G} {H : Heap} {a : Nat → Nat} {k : Nat → ClassId} {σ : ST} {i : Nat} {v : Int64} (h : va_P D vwCl ((wA a k σ).set 80 (a 80, .inl (k 80, 400, .inr (.inl (vp_updL (σ.2.1 80) i v))))) H) : va_P D vwCl (wA a k (stL σ 80 i v)) H := h
theorem vA_81 {D : va_G} {H : Heap} {a : Nat → Nat} {k : Nat → ClassId} {σ : ST} {f : Nat → Int32} (h : va_P D vwCl ((wA a k σ).set 81 (a 81, .inl (k 81, 400, .inl f))) H) : va_P D vwCl (wA a k (stF σ 81 f)) H := h
theorem uA_81 {D : va_G} {H : Heap} {a : Nat → Nat} {k : Nat → ClassId} {σ : ST} {i : Nat} {v : Int32} (h : va_P D vwCl ((wA a k σ).set 81 (a 81, .inl (k 81, 400, .inl (upd (σ.1 81) i v)))) H) : va_P D vwCl (wA a k (stI σ 81 i v)) H := h
theorem vA_82 {D : va_G} {H : Heap} {a : Nat → Nat} {k : Nat → ClassId} {σ : ST} {f : Nat → Int32} (h : va_P D vwCl ((wA a k σ).set 82 (a 82, .inl (k 82, 400, .inl f))) H) : va_P D vwCl (wA a k (stF σ 82 f)) H := h
theorem uA_82 {D : va_G} {H : Heap} {a : Nat → Nat} {k : Nat → ClassId} {σ : ST} {i : Nat} {v : Int32} (h : va_P D vwCl ((wA a k σ).set 82 (a 82, .inl (k 82, 400, .inl (upd (σ.1 82) i v)))) H) : va_P D vwCl (wA a k (stI σ 82 i v)) H := h
theorem vA_83 {D : va_G} {H : Heap} {a : Nat → Nat} {k : Nat → ClassId} {σ : ST} {f : Nat → Int32} (h : va_P D vwCl ((wA a k σ).set 83 (a 83, .inl (k 83, 400, .inl f))) H) : va_P D vwCl (wA a k (stF σ 83 f)) H := h
theorem uA_83 {D : va_G} {H : Heap} {a : Nat → Nat} {k : Nat → ClassId} {σ : ST} {i : Nat} {v : Int32} (h : va_P D vwCl ((wA a k σ).set 83 (a 83, .inl (k 83, 400, .inl (upd (σ.1 83) i v)))) H) : va_P D vwCl (wA a k (stI σ 83 i v)) H := h
theorem vA_84 {D : va_G} {H : Heap} {a : Nat → Nat} {k : Nat → ClassId} {σ : ST} {f : Nat → Int32} (h : va_P D vwCl ((wA a k σ).set 84 (a 84, .inl (k 84, 400, .inl f))) H) : va_P D vwCl (wA a k (stF σ 84 f)) H := h
theorem uA_84 {D : va_G} {H : Heap} {a : Nat → Nat} {k : Nat → ClassId} {σ : ST} {i : Nat} {v : Int32} (h : va_P D vwCl ((wA a k σ).set 84 (a 84, .inl (k 84, 400, .inl (upd (σ.1 84) i v)))) H) : va_P D vwCl (wA a k (stI σ 84 i v)) H := h
theorem vA_85 {D : va_G} {H : Heap} {a : Nat → Nat} {k : Nat → ClassId} {σ : ST} {f : Nat → Int32} (h : va_P D vwCl ((wA a k σ).set 85 (a 85, .inl (k 85, 400, .inl f))) H) : va_P D vwCl (wA a k (stF σ 85 f)) H := h
theorem uA_85 {D : va_G} {H : Heap} {a : Nat → Nat} {k : Nat → ClassId} {σ : ST} {i : Nat} {v : Int32} (h : va_P D vwCl ((wA a k σ).set 85 (a 85, .inl (k 85, 400, .inl (upd (σ.1 85) i v)))) H) : va_P D vwCl (wA a k (stI σ 85 i v)) H := h
theorem uA_87_2 {D : va_G} {H : Heap} {a : Nat → Nat} {k : Nat → ClassId} {σ : ST} {v : Int32} (h : va_P D vwCl ((wA a k σ).set 87 (a 87, .inr (2, ([.ref (a 4), .ref (a 88), .int (σ.1 87 2)] : List Value).set 2 (.int v)))) H) : va_P D vwCl (wA a k (stI σ 87 2 v)) H := h
theorem vA_88 {D : va_G} {H : Heap} {a : Nat → Nat} {k : Nat → ClassId} {σ : ST} {f : Nat → Int32} (h : va_P D vwCl ((wA a k σ).set 88 (a 88, .inl (k 88, 400, .inl f))) H) : va_P D vwCl (wA a k (stF σ 88 f)) H := h
theorem uA_88 {D : va_G} {H : Heap} {a : Nat → Nat} {k : Nat → ClassId} {σ : ST} {i : Nat} {v : Int32} (h : va_P D vwCl ((wA a k σ).set 88 (a 88, .inl (k 88, 400, .inl (upd (σ.1 88) i v)))) H) : va_P D vwCl (wA a k (stI σ 88 i v)) H := h
theorem uA_89_3 {D : va_G} {H : Heap} {a : Nat → Nat} {k : Nat → ClassId} {σ : ST} {v : Nat} (h : va_P D vwCl ((wA a k σ).set 89 (a 89, .inr (4, ([.ref (a 4), .ref (a 37), .ref (a 41), .ref (a (σ.2.2.2 89)), .int (σ.1 89 4), .int (σ.1 89 5), .int (σ.1 89 6), .int (σ.1 89 7), .int (σ.1 89 8), .ref (a 90), .int (σ.1 89 10), .ref (a 91)] : List Value).set 3 (.ref (a v))))) H) : va_P D vwCl (wA a k (stR σ 89 v)) H := h
theorem uA_89_4 {D : va_G} {H : Heap} {a : Nat → Nat} {k : Nat → ClassId} {σ : ST} {v : Int32} (h : va_P D vwCl ((wA a k σ).set 89 (a 89, .inr (4, ([.ref (a 4), .ref (a 37), .ref (a 41), .ref (a (σ.2.2.2 89)), .int (σ.1 89 4), .int (σ.1 89 5), .int (σ.1 89 6), .int (σ.1 89 7), .int (σ.1 89 8), .ref (a 90), .int (σ.1 89 10), .ref (a 91)] : List Value).set 4 (.int v)))) H) : va_P D vwCl (wA a k (stI σ 89 4 v)) H := h
theorem uA_89_5 {D : va_G} {H : Heap} {a : Nat → Nat} {k : Nat → ClassId} {σ : ST} {v : Int32} (h : va_P D vwCl ((wA a k σ).set 89 (a 89, .inr (4, ([.ref (a 4), .ref (a 37), .ref (a 41), .ref (a (σ.2.2.2 89)), .int (σ.1 89 4), .int (σ.1 89 5), .int (σ.1 89 6), .int (σ.1 89 7), .int (σ.1 89 8), .ref (a 90), .int (σ.1 89 10), .ref (a 91)] : List Value).set 5 (.int v)))) H) : va_P D vwCl (wA a k (stI σ 89 5 v)) H := h
theorem uA_89_6 {D : va_G} {H : Heap} {a : Nat → Nat} {k : Nat → ClassId} {σ : ST} {v : Int32} (h : va_P D vwCl ((wA a k σ).set 89 (a 89, .inr (4, ([.ref (a 4), .ref (a 37), .ref (a 41), .ref (a (σ.2.2.2 89)), .int (σ.1 89 4), .int (σ.1 89 5), .int (σ.1 89 6), .int (σ.1 89 7), .int (σ.1 89 8), .ref (a 90), .int (σ.1 89 10), .ref (a 91)] : List Value).set 6 (.int v)))) H) : va_P D vwCl (wA a k (stI σ 89 6 v)) H := h
theorem uA_89_7 {D : va_G} {H : Heap} {a : Nat → Nat} {k : Nat → ClassId} {σ : ST} {v : Int32} (h : va_P D vwCl ((wA a k σ).set 89 (a 89, .inr (4, ([.ref (a 4), .ref (a 37), .ref (a 41), .ref (a (σ.2.2.2 89)), .int (σ.1 89 4), .int (σ.1 89 5), .int (σ.1 89 6), .int (σ.1 89 7), .int (σ.1 89 8), .ref (a 90), .int (σ.1 89 10), .ref (a 91)] : List Value).set 7 (.int v)))) H) : va_P D vwCl (wA a k (stI σ 89 7 v)) H := h
theorem uA_89_8 {D : va_G} {H : Heap} {a : Nat → Nat} {k : Nat → ClassId} {σ : ST} {v : Int32} (h : va_P D vwCl ((wA a k σ).set 89 (a 89, .inr (4, ([.ref (a 4), .ref (a 37), .ref (a 41), .ref (a (σ.2.2.2 89)), .int (σ.1 89 4), .int (σ.1 89 5), .int (σ.1 89 6), .int (σ.1 89 7), .int (σ.1 89 8), .ref (a 90), .int (σ.1 89 10), .ref (a 91)] : List Value).set 8 (.int v)))) H) : va_P D vwCl (wA a k (stI σ 89 8 v)) H := h
theorem uA_89_10 {D : va_G} {H : Heap} {a : Nat → Nat} {k : Nat → ClassId} {σ : ST} {v : Int32} (h : va_P D vwCl ((wA a k σ).set 89 (a 89, .inr (4, ([.ref (a 4), .ref (a 37), .ref (a 41), .ref (a (σ.2.2.2 89)), .int (σ.1 89 4), .int (σ.1 89 5), .int (σ.1 89 6), .int (σ.1 89 7), .int (σ.1 89 8), .ref (a 90), .int (σ.1 89 10), .ref (a 91)] : List Value).set 10 (.int v)))) H) : va_P D vwCl (wA a k (stI σ 89 10 v)) H := h
theorem vA_90 {D : va_G} {H : Heap} {a : Nat → Nat} {k : Nat → ClassId} {σ : ST} {f : Nat → Int32} (h : va_P D vwCl ((wA a k σ).set 90 (a 90, .inl (k 90, 64, .inl f))) H) : va_P D vwCl (wA a k (stF σ 90 f)) H := h
theorem uA_90 {D : va_G} {H : Heap} {a : Nat → Nat} {k : Nat → ClassId} {σ : ST} {i : Nat} {v : Int32} (h : va_P D vwCl ((wA a k σ).set 90 (a 90, .inl (k 90, 64, .inl (upd (σ.1 90) i v)))) H) : va_P D vwCl (wA a k (stI σ 90 i v)) H := h
theorem vA_91 {D : va_G} {H : Heap} {a : Nat → Nat} {k : Nat → ClassId} {σ : ST} {f : Nat → Int32} (h : va_P D vwCl ((wA a k σ).set 91 (a 91, .inl (k 91, 256, .inl f))) H) : va_P D vwCl (wA a k (stF σ 91 f)) H := h
theorem uA_91 {D : va_G} {H : Heap} {a : Nat → Nat} {k : Nat → ClassId} {σ : ST} {i : Nat} {v : Int32} (h : va_P D vwCl ((wA a k σ).set 91 (a 91, .inl (k 91, 256, .inl (upd (σ.1 91) i v)))) H) : va_P D vwCl (wA a k (stI σ 91 i v)) H := h
theorem uA_92_3 {D : va_G} {H : Heap} {a : Nat → Nat} {k : Nat → ClassId} {σ : ST} {v : Nat} (h : va_P D vwCl ((wA a k σ).set 92 (a 92, .inr (4, ([.ref (a 4), .ref (a 37), .ref (a 41), .ref (a (σ.2.2.2 92)), .int (σ.1 92 4), .int (σ.1 92 5), .int (σ.1 92 6), .int (σ.1 92 7), .int (σ.1 92 8), .ref (a 93), .int (σ.1 92 10), .ref (a 94)] : List Value).set 3 (.ref (a v))))) H) : va_P D vwCl (wA a k (stR σ 92 v)) H := h
theorem uA_92_4 {D : va_G} {H : Heap} {a : Nat → Nat} {k : Nat → ClassId} {σ : ST} {v : Int32} (h : va_P D vwCl ((wA a k σ).set 92 (a 92, .inr (4, ([.ref (a 4), .ref (a 37), .ref (a 41), .ref (a (σ.2.2.2 92)), .int (σ.1 92 4), .int (σ.1 92 5), .int (σ.1 92 6), .int (σ.1 92 7), .int (σ.1 92 8), .ref (a 93), .int (σ.1 92 10), .ref (a 94)] : List Value).set 4 (.int v)))) H) : va_P D vwCl (wA a k (stI σ 92 4 v)) H := h
theorem uA_92_5 {D : va_G} {H : Heap} {a : Nat → Nat} {k : Nat → ClassId} {σ : ST} {v : Int32} (h : va_P D vwCl ((wA a k σ).set 92 (a 92, .inr (4, ([.ref (a 4), .ref (a 37), .ref (a 41), .ref (a (σ.2.2.2 92)), .int (σ.1 92 4), .int (σ.1 92 5), .int (σ.1 92 6), .int (σ.1 92 7), .int (σ.1 92 8), .ref (a 93), .int (σ.1 92 10), .ref (a 94)] : List Value).set 5 (.int v)))) H) : va_P D vwCl (wA a k (stI σ 92 5 v)) H := h
theorem uA_92_6 {D : va_G} {H : Heap} {a : Nat → Nat} {k : Nat → ClassId} {σ : ST} {v : Int32} (h : va_P D vwCl ((wA a k σ).set 92 (a 92, .inr (4, ([.ref (a 4), .ref (a 37), .ref (a 41), .ref (a (σ.2.2.2 92)), .int (σ.1 92 4), .int (σ.1 92 5), .int (σ.1 92 6), .int (σ.1 92 7), .int (σ.1 92 8), .ref (a 93), .int (σ.1 92 10), .ref (a 94)] : List Value).set 6 (.int v)))) H) : va_P D vwCl (wA a k (stI σ 92 6 v)) H := h
theorem uA_92_7 {D : va_G} {H : Heap} {a : Nat → Nat} {k : Nat → ClassId} {σ : ST} {v : Int32} (h : va_P D vwCl ((wA a k σ).set 92 (a 92, .inr (4, ([.ref (a 4), .ref (a 37), .ref (a 41), .ref (a (σ.2.2.2 92)), .int (σ.1 92 4), .int (σ.1 92 5), .int (σ.1 92 6), .int (σ.1 92 7), .int (σ.1 92 8), .ref (a 93), .int (σ.1 92 10), .ref (a 94)] : List Value).set 7 (.int v)))) H) : va_P D vwCl (wA a k (stI σ 92 7 v)) H := h
theorem uA_92_8 {D : va_G} {H : Heap} {a : Nat → Nat} {k : Nat → ClassId} {σ : ST} {v : Int32} (h : va_P D vwCl ((wA a k σ).set 92 (a 92, .inr (4, ([.ref (a 4), .ref (a 37), .ref (a 41), .ref (a (σ.2.2.2 92)), .int (σ.1 92 4), .int (σ.1 92 5), .int (σ.1 92 6), .int (σ.1 92 7), .int (σ.1 92 8), .ref (a 93), .int (σ.1 92 10), .ref (a 94)] : List Value).set 8 (.int v)))) H) : va_P D vwCl (wA a k (stI σ 92 8 v)) H := h
theorem uA_92_10 {D : va_G} {H : Heap} {a : Nat → Nat} {k : Nat → ClassId} {σ : ST} {v : Int32} (h : va_P D vwCl ((wA a k σ).set 92 (a 92, .inr (4, ([.ref (a 4), .ref (a 37), .ref (a 41), .ref (a (σ.2.2.2 92)), .int (σ.1 92 4), .int (σ.1 92 5), .int (σ.1 92 6), .int (σ.1 92 7), .int (σ.1 92 8), .ref (a 93), .int (σ.1 92 10), .ref (a 94)] : List Value).set 10 (.int v)))) H) : va_P D vwCl (wA a k (stI σ 92 10 v)) H := h
theorem vA_93 {D : va_G} {H : Heap} {a : Nat → Nat} {k : Nat → ClassId} {σ : ST} {f : Nat → Int32} (h : va_P D vwCl ((wA a k σ).set 93 (a 93, .inl (k 93, 64, .inl f))) H) : va_P D vwCl (wA a k (stF σ 93 f)) H := h
theorem uA_93 {D : va_G} {H : Heap} {a : Nat → Nat} {k : Nat → ClassId} {σ : ST} {i : Nat} {v : Int32} (h : va_P D vwCl ((wA a k σ).set 93 (a 93, .inl (k 93, 64, .inl (upd (σ.1 93) i v)))) H) : va_P D vwCl (wA a k (stI σ 93 i v)) H := h
theorem vA_94 {D : va_G} {H : Heap} {a : Nat → Nat} {k : Nat → ClassId} {σ : ST} {f : Nat → Int32} (h : va_P D vwCl ((wA a k σ).set 94 (a 94, .inl (k 94, 256, .inl f))) H) : va_P D vwCl (wA a k (stF σ 94 f)) H := h
theorem uA_94 {D : va_G} {H : Heap} {a : Nat → Nat} {k : Nat → ClassId} {σ : ST} {i : Nat} {v : Int32} (h : va_P D vwCl ((wA a k σ).set 94 (a 94, .inl (k 94, 256, .inl (upd (σ.1 94) i v)))) H) : va_P D vwCl (wA a k (stI σ 94 i v)) H := h
theorem vA_95 {D : va_G} {H : Heap} {a : Nat → Nat} {k : Nat → ClassId} {σ : ST} {f : Nat → Int64} (h : va_P D vwCl ((wA a k σ).set 95 (a 95, .inl (k 95, 1, .inr (.inl f)))) H) : va_P D vwCl (wA a k (stFL σ 95 f)) H := h
theorem uA_95 {D : va_G} {H : Heap} {a : Nat → Nat} {k : Nat → ClassId} {σ : ST} {i : Nat} {v : Int64} (h : va_P D vwCl ((wA a k σ).set 95 (a 95, .inl (k 95, 1, .inr (.inl (vp_updL (σ.2.1 95) i v))))) H) : va_P D vwCl (wA a k (stL σ 95 i v)) H := h
def CxA (p : Program) (s : State) (m : MethodId) (args : Array Value) (meth : Method) (c : Code) (dC : Nat → ClassId) (dI : Nat → Nat → Nat) (k : Nat → ClassId) (A : Nat → Prop) (code : ByteArray) (own : String) (ret : Option FieldType) (nL : Nat) : Prop := p.tables.exec = Jvm.exec ∧ c.code = code ∧ meth.sig.returnType = ret ∧ c.maxLocals = nL ∧ s.vm.findClass own = some m.cls ∧ (∀ w ∈ pw, w.before args s = true) ∧ meth.locks = false ∧ (∀ q : Nat, s.heap.size ≤ q → A q) ∧ nN s ∧ va_K (dC, dI) vwCl (tA k) s
def GoA (p : Program) (l : Launch) (e : Env) (R : Room) (s : State) (m : MethodId) (args : Array Value) (below : List Frame) (meth : Method) (c : Code) (Q : State → Prop) (dC : Nat → ClassId) (dI : Nat → Nat → Nat) (a : Nat → Nat) (k : Nat → ClassId) (A : Nat → Prop) (nL pc : Nat) (σ : ST) (lv : List (Nat × Value)) (stk : List Value) : Prop := ∀ (H : Heap) (locs : List Loc) (ls : Array Slot), va_P (dC, dI) vwCl (wA a k σ) H → va_D A (wA a k σ) → va_S A s.heap H locs → lv_has ls nL lv → W p l e R s m args below meth c H locs 0 0 Q (F0 m pc ls stk)
def GkA (p : Program) (l : Launch) (e : Env) (R : Room) (s : State) (m : MethodId) (args : Array Value) (below : List Frame) (meth : Method) (c : Code) (Q : State → Prop) (dC : Nat → ClassId) (dI : Nat → Nat → Nat) (a : Nat → Nat) (k : Nat → ClassId) (A : Nat → Prop) (nL pc κ : Nat) (σ : ST) (lv : List (Nat × Value)) (stk : List Value) : Prop := ∀ (H : Heap) (locs : List Loc) (ls : Array Slot), va_P (dC, dI) vwCl (wA a k σ) H → va_D A (wA a k σ) → va_S A s.heap H locs → lv_has ls nL lv → W p l e R s m args below meth c H locs κ (6 * κ) Q (F0 m pc ls stk)
def GdA (p : Program) (l : Launch) (e : Env) (R : Room) (s : State) (m : MethodId) (args : Array Value) (below : List Frame) (meth : Method) (c : Code) (Q : State → Prop) (dC : Nat → ClassId) (dI : Nat → Nat → Nat) (a : Nat → Nat) (k : Nat → ClassId) (A : Nat → Prop) (nL pc : Nat) (σ : ST) (lv : List (Nat × Value)) (stk : List Value) : Prop := ∀ (d0 : Drawn), s.drawn.sameBut d0 csD → ∀ (H : Heap) (locs : List Loc) (ls : Array Slot), va_P (dC, dI) vwCl (wA a k σ) H → va_D A (wA a k σ) → va_S A s.heap H locs → lv_has ls nL lv → W p l e R (s.setDrawn d0) m args below meth c H locs 0 0 Q (F0 m pc ls stk)
abbrev qAi (dC : Nat → ClassId) (dI : Nat → Nat → Nat) (a : Nat → Nat) (k : Nat → ClassId) (A : Nat → Prop) (q : Int32 × ST) : Array Value → State → Outcome → State → Prop := va_Qi (fun (r : Int32) (_ : Unit) => r = q.1) (fun (_ : Unit) t => vPst dC dI A (wA a k q.2) (tA k) t) A
abbrev qAl (dC : Nat → ClassId) (dI : Nat → Nat → Nat) (a : Nat → Nat) (k : Nat → ClassId) (A : Nat → Prop) (q : Int64 × ST) : Array Value → State → Outcome → State → Prop := va_Ql (fun (r : Int64) (_ : Unit) => r = q.1) (fun (_ : Unit) t => vPst dC dI A (wA a k q.2) (tA k) t) A
abbrev qAd (dC : Nat → ClassId) (dI : Nat → Nat → Nat) (a : Nat → Nat) (k : Nat → ClassId) (A : Nat → Prop) (q : UInt64 × ST) : Array Value → State → Outcome → State → Prop := va_Qd (fun (r : UInt64) (_ : Unit) => r = q.1) (fun (_ : Unit) t => vPst dC dI A (wA a k q.2) (tA k) t) A
abbrev qAv (dC : Nat → ClassId) (dI : Nat → Nat → Nat) (a : Nat → Nat) (k : Nat → ClassId) (A : Nat → Prop) (q : ST) : Array Value → State → Outcome → State → Prop := va_Qv (fun (_ : Unit) => True) (fun (_ : Unit) t => vPst dC dI A (wA a k q) (tA k) t) A
theorem metA {l : Launch} {y : MethodName} {cc : ByteArray} {maxL : Nat} {ret : Option FieldType} {rm : Room} {dC : Nat → ClassId} {dI : Nat → Nat → Nat} {a : Nat → Nat} {k : Nat → ClassId} {σ : ST} {sz : Nat} {av : List Value} (Qf : (Nat → Prop) → Array Value → State → Outcome → State → Prop) (hy : plainFor y = true) (hav : (lg_sl av).length ≤ maxL) (body : ∀ (p : Program) (e : Env) (s : State) (m : MethodId) (below : List Frame) (meth : Method) (c : Code) (A : Nat → Prop), CxA p s m av.toArray meth c dC dI k A cc y.cls ret maxL → GoA p l e rm s m av.toArray below meth c (MQ below (Qf A) av.toArray s 0 0 A) dC dI a k A maxL 0 σ (lv_args 0 av) []) : Met l y (.code y cc maxL ret :: pw) rm (va_Pc av (vPre dC dI (wA a k σ) (tA k) sz)) (Qf (va_A (wA a k σ) sz)) 0 0 (va_A (wA a k σ) sz) := by
  refine Met.ofWF (cc := cc) (maxL := maxL) (ret := ret) hy rfl ?_
  intro p e s m args below meth c s₁ B hml hv
  obtain ⟨rfl, hsz, hP, hK, hD0, hN⟩ := hv
  have hts := atoms_spec (ws := .code y cc maxL ret :: pw) B.pre
  have hts : ∀ w ∈ pw, w.before _ s = true := fun w h => hts w (List.mem_cons_of_mem _ h)
  have hown : s.vm.findClass y.cls = some m.cls := findClass_of_methodNamed B.named
  have hlocks := B.notSynchronized
  subst hsz
  have hD := hD0.self (sz := s.heap.size)
  have hA : ∀ q : Nat, s.heap.size ≤ q → va_A (wA a k σ) s.heap.size q := fun q h => Or.inr h
  have hl := lv_entry av (n := maxL) hav
  rw [lg_entry_eq]
  exact body p e s m below meth c _ ⟨B.exec, B.bytes, B.returns, hml, hown, hts, hlocks, hA, hN, hK⟩ s.heap [] _ hP hD va_S.rf hl
theorem mekA {T : Nat} {l : Launch} {y : MethodName} {cc : ByteArray} {maxL : Nat} {ret : Option FieldType} {rm : Room} {dC : Nat → ClassId} {dI : Nat → Nat → Nat} {a : Nat → Nat} {k : Nat → ClassId} {σ : ST} {sz : Nat} {av : List Value} (Qf : (Nat → Prop) → Array Value → State → Outcome → State → Prop) (hy : plainFor y = true) (hav : (lg_sl av).length ≤ maxL) (body : ∀ (p : Program) (e : Env) (s : State) (m : MethodId) (below : List Frame) (meth : Method) (c : Code) (A : Nat → Prop), CxA p s m av.toArray meth c dC dI k A cc y.cls ret maxL → GkA p l e rm s m av.toArray below meth c (MQ below (Qf A) av.toArray s T (6 * T) A) dC dI a k A maxL 0 0 σ (lv_args 0 av) []) : Met l y (.code y cc maxL ret :: pw) rm (va_Pc av (vPre dC dI (wA a k σ) (tA k) sz)) (Qf (va_A (wA a k σ) sz)) T (6 * T) (va_A (wA a k σ) sz) := by
  refine Met.ofWF (cc := cc) (maxL := maxL) (ret := ret) hy rfl ?_
  intro p e s m args below meth c s₁ B hml hv
  obtain ⟨rfl, hsz, hP, hK, hD0, hN⟩ := hv
  have hts := atoms_spec (ws := .code y cc maxL ret :: pw) B.pre
  have hts : ∀ w ∈ pw, w.before _ s = true := fun w h => hts w (List.mem_cons_of_mem _ h)
  have hown : s.vm.findClass y.cls = some m.cls := findClass_of_methodNamed B.named
  have hlocks := B.notSynchronized
  subst hsz
  have hD := hD0.self (sz := s.heap.size)
  have hA : ∀ q : Nat, s.heap.size ≤ q → va_A (wA a k σ) s.heap.size q := fun q h => Or.inr h
  have hl := lv_entry av (n := maxL) hav
  rw [lg_entry_eq]
  exact body p e s m below meth c _ ⟨B.exec, B.bytes, B.returns, hml, hown, hts, hlocks, hA, hN, hK⟩ s.heap [] _ hP hD va_S.rf hl
theorem medA {l : Launch} {y : MethodName} {cc : ByteArray} {maxL : Nat} {ret : Option FieldType} {rm : Room} {dC : Nat → ClassId} {dI : Nat → Nat → Nat} {a : Nat → Nat} {k : Nat → ClassId} {σ : ST} {sz : Nat} {av : List Value} (Qf : (Nat → Prop) → Array Value → State → Outcome → State → Prop) (hy : plainName y.cls = true) (hav : (lg_sl av).length ≤ maxL) (body : ∀ (p : Program) (e : Env) (s : State) (m : MethodId) (below : List Frame) (meth : Method) (c : Code) (A : Nat → Prop), CxA p s m av.toArray meth c dC dI k A cc y.cls ret maxL → GdA p l e rm s m av.toArray below meth c (MQD csD below (Qf A) av.toArray s 0 0 A) dC dI a k A maxL 0 σ (lv_args 0 av) [])   : MetD csD l y (.code y cc maxL ret :: pw) rm (va_Pc av (vPre dC dI (wA a k σ) (tA k) sz)) (Qf (va_A (wA a k σ) sz)) 0 0 (va_A (wA a k σ) sz) := by
  refine MetD.ofW (cc := cc) (maxL := maxL) (ret := ret) hy rfl ?_
  intro p e s m args below meth c s₁ B hml hv hd0
  obtain ⟨rfl, hsz, hP, hK, hD0, hN⟩ := hv
  have hts := atoms_spec (ws := .code y cc maxL ret :: pw) B.pre
  have hts : ∀ w ∈ pw, w.before _ s = true := fun w h => hts w (List.mem_cons_of_mem _ h)
  have hown : s.vm.findClass y.cls = some m.cls := findClass_of_methodNamed B.named
  have hlocks := B.notSynchronized
  subst hsz
  have hD := hD0.self (sz := s.heap.size)
  have hA : ∀ q : Nat, s.heap.size ≤ q → va_A (wA a k σ) s.heap.size q := fun q h => Or.inr h
  have hl := lv_entry av (n := maxL) hav
  rw [lg_entry_eq]
  exact body p e s m below meth c _ ⟨B.exec, B.bytes, B.returns, hml, hown, hts, hlocks, hA, hN, hK⟩ _ hd0 s.heap [] _ hP hD va_S.rf hl
