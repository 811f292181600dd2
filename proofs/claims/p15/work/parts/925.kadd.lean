/-! one more child -/
theorem SEPE.symm {a c : EN} (h : SEPE a c) : SEPE c a := ⟨h.1.symm, h.2.symm⟩
theorem sep_mem : ∀ {l : List EN}, l.Pairwise SEPE → ∀ {a c : EN}, a ∈ l → c ∈ l → a = c ∨ SEPE a c := by
  intro l
  induction l with
  | nil => intro _ a c ha; cases ha
  | cons y l ih =>
    intro h a c ha hc
    obtain ⟨h1, h2⟩ := List.pairwise_cons.mp h
    rcases List.mem_cons.mp ha with e | ha
    · rcases List.mem_cons.mp hc with e2 | hc
      · exact .inl (e.trans e2.symm)
      · rw [e]
        exact .inr (h1 c hc)
    · rcases List.mem_cons.mp hc with e2 | hc
      · rw [e2]
        exact .inr (h1 a ha).symm
      · exact ih h2 ha hc
theorem rA_nd : ∀ {l : List EN}, l.Pairwise SEPE → (rA l).Nodup := by
  intro l
  induction l with
  | nil => intro _; exact List.nodup_nil
  | cons y l ih =>
    intro h
    obtain ⟨h1, h2⟩ := List.pairwise_cons.mp h
    cases hy : inA y with
    | false =>
      have e : rA (y :: l) = rA l := by
        unfold rA
        rw [List.filter_cons_of_neg (by rw [hy]; decide)]
      rw [e]
      exact ih h2
    | true =>
      have e : rA (y :: l) = y.2.1.1 :: rA l := by
        unfold rA
        rw [List.filter_cons_of_pos hy, List.map_cons]
      rw [e]
      refine List.nodup_cons.mpr ⟨fun hm => ?_, ih h2⟩
      obtain ⟨z, z1, z2, z3⟩ := mem_rA hm
      have k := (h1 z z1).1
      have := inA_lt hy
      have := inA_lt z2
      omega
theorem rB_nd : ∀ {l : List EN}, l.Pairwise SEPE → (∀ y, y ∈ l → y.2.2.1 < y.2.2.2) → (rB l).Nodup := by
  intro l
  induction l with
  | nil => intro _ _; exact List.nodup_nil
  | cons y l ih =>
    intro h hn
    obtain ⟨h1, h2⟩ := List.pairwise_cons.mp h
    have e : rB (y :: l) = y.2.2.1 :: rB l := rfl
    rw [e]
    refine List.nodup_cons.mpr ⟨fun hm => ?_, ih h2 (fun z hz => hn z (List.mem_cons_of_mem _ hz))⟩
    obtain ⟨z, z1, z3⟩ := mem_rB hm
    have k := (h1 z z1).2
    have := hn y List.mem_cons_self
    have := hn z (List.mem_cons_of_mem _ z1)
    omega
theorem rA_one {y : EN} (h : inA y = true) (l : List EN) : rA (y :: l) = y.2.1.1 :: rA l := by
  unfold rA
  rw [List.filter_cons_of_pos h, List.map_cons]
theorem rA_none {y : EN} (h : inA y = false) (l : List EN) : rA (y :: l) = rA l := by
  unfold rA
  rw [List.filter_cons_of_neg (by rw [h]; decide)]
theorem rA_len (l : List EN) : (rA l).length ≤ l.length := by
  unfold rA
  rw [List.length_map]
  exact List.length_filter_le _ _
/-- row e came below p, and what is below it; all else stayed -/
def XTA (b e : Nat) (p : Int) (l m : List Nat) (σ s : ST) : Prop := (∀ i, i < e → CLA b σ s i) ∧ (∀ i : Nat, i < e → (i : Int) ≠ p → s.1 (b + 7) i = σ.1 (b + 7) i ∧ s.1 (b + 8) i = σ.1 (b + 8) i) ∧ (∀ i : Nat, i < e → (i : Int) ≠ lz (-1) l → s.1 (b + 9) i = σ.1 (b + 9) i) ∧ ∀ q : Nat, (q : Int) = p → CN (s.1 (b + 9)) (s.1 (b + 7) q) (l ++ e :: m) ∧ (s.1 (b + 8) q).toInt = lz (-1) (l ++ e :: m)
/-- but for its count of children -/
def CLC (τ t : ST) (j : Nat) : Prop := t.1 20 j = τ.1 20 j ∧ (∀ k, 24 ≤ k → k ≤ 27 → t.1 k j = τ.1 k j) ∧ t.2.1 21 j = τ.2.1 21 j ∧ t.2.1 22 j = τ.2.1 22 j
def XTB (f : Nat) (p : Int) (l m : List Nat) (τ t : ST) : Prop := ((∀ i, i < f → CLC τ t i) ∧ (∀ i : Nat, i < f → (i : Int) ≠ p → t.1 23 i = τ.1 23 i) ∧ ∀ i : Nat, (i : Int) = p → t.1 23 i = τ.1 23 i + 1) ∧ (∀ i : Nat, i < f → (i : Int) ≠ p → t.1 28 i = τ.1 28 i ∧ t.1 29 i = τ.1 29 i) ∧ (∀ i : Nat, i < f → (i : Int) ≠ lz (-1) l → t.1 30 i = τ.1 30 i) ∧ ∀ q : Nat, (q : Int) = p → CN (t.1 30) (t.1 28 q) (l ++ f :: m) ∧ (t.1 29 q).toInt = lz (-1) (l ++ f :: m)
/-- what was there ahead of row e stayed, and of row e what its children don't touch -/
def SUA (b e : Nat) (σ s : ST) : Prop := (∀ i, i < e → CLA b σ s i ∧ s.1 (b + 7) i = σ.1 (b + 7) i ∧ s.1 (b + 8) i = σ.1 (b + 8) i ∧ s.1 (b + 9) i = σ.1 (b + 9) i) ∧ s.1 (b + 9) e = σ.1 (b + 9) e ∧ s.1 (b + 1) e = σ.1 (b + 1) e ∧ s.1 (b + 2) e = σ.1 (b + 2) e ∧ s.1 (b + 3) e = σ.1 (b + 3) e ∧ s.1 (b + 5) e = σ.1 (b + 5) e
def SUB (f : Nat) (τ t : ST) : Prop := (∀ i, i < f → CLB τ t i ∧ t.1 28 i = τ.1 28 i ∧ t.1 29 i = τ.1 29 i ∧ t.1 30 i = τ.1 30 i) ∧ t.1 30 f = τ.1 30 f ∧ t.1 20 f = τ.1 20 f ∧ ∀ k, 24 ≤ k → k ≤ 27 → t.1 k f = τ.1 k f
theorem CLA.trans {b : Nat} {σ s u : ST} {j : Nat} (h : CLA b σ s j) (k : CLA b s u j) : CLA b σ u j := ⟨fun i a c => (k.1 i a c).trans (h.1 i a c), k.2.trans h.2⟩
theorem CLB.trans {σ s u : ST} {j : Nat} (h : CLB σ s j) (k : CLB s u j) : CLB σ u j := ⟨⟨k.1.1.trans h.1.1, k.1.2.trans h.1.2⟩, fun i a c => (k.2.1 i a c).trans (h.2.1 i a c), k.2.2.1.trans h.2.2.1, k.2.2.2.trans h.2.2.2⟩
theorem SUA.rf {b e : Nat} {σ : ST} : SUA b e σ σ := ⟨fun _ _ => ⟨⟨fun _ _ _ => rfl, rfl⟩, rfl, rfl, rfl⟩, rfl, rfl, rfl, rfl, rfl⟩
theorem SUB.rf {f : Nat} {τ : ST} : SUB f τ τ := ⟨fun _ _ => ⟨⟨⟨rfl, rfl⟩, fun _ _ _ => rfl, rfl, rfl⟩, rfl, rfl, rfl⟩, rfl, rfl, fun _ _ _ => rfl⟩
theorem SUA.trans {b e : Nat} {σ s u : ST} (h : SUA b e σ s) (k : SUA b e s u) : SUA b e σ u := by
  obtain ⟨h0, h1, h2, h3, h4, h5⟩ := h
  obtain ⟨k0, k1, k2, k3, k4, k5⟩ := k
  refine ⟨fun i hi => ?_, k1.trans h1, k2.trans h2, k3.trans h3, k4.trans h4, k5.trans h5⟩
  obtain ⟨a, b, c, d⟩ := h0 i hi
  obtain ⟨a', b', c', d'⟩ := k0 i hi
  exact ⟨a.trans a', b'.trans b, c'.trans c, d'.trans d⟩
theorem SUB.trans {f : Nat} {σ s u : ST} (h : SUB f σ s) (k : SUB f s u) : SUB f σ u := by
  obtain ⟨h0, h1, h2, h3⟩ := h
  obtain ⟨k0, k1, k2, k3⟩ := k
  refine ⟨fun i hi => ?_, k1.trans h1, k2.trans h2, fun i a c => (k3 i a c).trans (h3 i a c)⟩
  obtain ⟨a, b, c, d⟩ := h0 i hi
  obtain ⟨a', b', c', d'⟩ := k0 i hi
  exact ⟨a.trans a', b'.trans b, c'.trans c, d'.trans d⟩
/-- a child's coming, seen from its parent's rows -/
theorem XTA.su {b e x : Nat} {l m : List Nat} {σ s : ST} (h : XTA b e x l m σ s) (hx : x < e) (hl : ∀ r, r ∈ l → x < r) : SUA b x σ s := by
  obtain ⟨h1, h2, h3, _⟩ := h
  have hz : ∀ i : Nat, i ≤ x → (i : Int) ≠ lz (-1) l := fun i hi e => by
    rcases lz_in l (-1) with ⟨_, h9⟩ | ⟨q, h8, h9⟩
    · omega
    · have := hl q h8
      omega
  refine ⟨fun i hi => ⟨h1 i (by omega), (h2 i (by omega) (by omega)).1, (h2 i (by omega) (by omega)).2, h3 i (by omega) (hz i (by omega))⟩, h3 x hx (hz x (by omega)), (h1 x hx).1 1 (by omega) (by omega), (h1 x hx).1 2 (by omega) (by omega), (h1 x hx).1 3 (by omega) (by omega), (h1 x hx).1 5 (by omega) (by omega)⟩
theorem XTB.su {f v : Nat} {l m : List Nat} {τ t : ST} (h : XTB f v l m τ t) (hx : v < f) (hl : ∀ r, r ∈ l → v < r) : SUB v τ t := by
  obtain ⟨⟨h1, h1b, _⟩, h2, h3, _⟩ := h
  have hz : ∀ i : Nat, i ≤ v → (i : Int) ≠ lz (-1) l := fun i hi e => by
    rcases lz_in l (-1) with ⟨_, h9⟩ | ⟨q, h8, h9⟩
    · omega
    · have := hl q h8
      omega
  refine ⟨fun i hi => ⟨⟨⟨(h1 i (by omega)).1, h1b i (by omega) (by omega)⟩, (h1 i (by omega)).2⟩, (h2 i (by omega) (by omega)).1, (h2 i (by omega) (by omega)).2, h3 i (by omega) (hz i (by omega))⟩, h3 v hx (hz v (by omega)), (h1 v hx).1, (h1 v hx).2.1⟩
/-- a row's coming and its children's -/
theorem XTA.mk {b e : Nat} {so pa pl : Int32} {l m : List Nat} {σ s u : ST} (g : GRW b e so pa pl l m σ s) (k : SUA b e s u) (hr : ∀ r, r ∈ l ++ m → r < e) (hp : pa.toInt < e) : XTA b e pa.toInt l m σ u := by
  obtain ⟨_, _, _, g4, g5, g6, g7, g8⟩ := g
  obtain ⟨k0, k1, _⟩ := k
  refine ⟨fun i hi => ?_, fun i hi hn => ?_, fun i hi hn => ?_, fun q hq => ?_⟩
  · have a := g4 i (by omega)
    have c := (k0 i hi).1
    exact ⟨fun j j1 j2 => (c.1 j j1 j2).trans (a.1 j j1 j2), c.2.trans a.2⟩
  · have a := g6 i hn (by omega)
    obtain ⟨_, c1, c2, _⟩ := k0 i hi
    exact ⟨c1.trans a.1, c2.trans a.2⟩
  · exact (k0 i hi).2.2.2.trans (g7 i (by omega) hn)
  · obtain ⟨a1, a2⟩ := g8 q hq
    obtain ⟨_, c1, c2, _⟩ := k0 q (by omega)
    rw [c1, c2]
    refine ⟨a1.ext _ _ (fun r h => ?_), a2⟩
    rcases List.mem_append.mp h with h | h
    · exact (k0 r (hr r (List.mem_append_left _ h))).2.2.2
    · rcases List.mem_cons.mp h with h | h
      · rw [h]
        exact k1
      · exact (k0 r (hr r (List.mem_append_right _ h))).2.2.2
theorem XTB.mk {f : Nat} {so pa pl br : Int32} {l m : List Nat} {τ t u : ST} (g : GRB f so pa pl br l m τ t) (k : SUB f t u) (hr : ∀ r, r ∈ l ++ m → r < f) (hp : pa.toInt < f) : XTB f pa.toInt l m τ u := by
  obtain ⟨_, _, _, g4, g5, g6, g7, g8⟩ := g
  obtain ⟨k0, k1, _⟩ := k
  refine ⟨⟨fun i hi => ?_, fun i hi hn => ?_, fun i hi => ?_⟩, fun i hi hn => ?_, fun i hi hn => ?_, fun q hq => ?_⟩
  · obtain ⟨a1, _, _, a4, a5, a6⟩ := g4 i (by omega)
    have c := (k0 i hi).1
    exact ⟨c.1.1.trans a1, fun j j1 j2 => (c.2.1 j j1 j2).trans (a4 j j1 j2), c.2.2.1.trans a5, c.2.2.2.trans a6⟩
  · exact (k0 i hi).1.1.2.trans ((g4 i (by omega)).2.1 hn)
  · exact (k0 i (by omega)).1.1.2.trans ((g4 i (by omega)).2.2.1 hi)
  · have a := g6 i hn (by omega)
    obtain ⟨_, c1, c2, _⟩ := k0 i hi
    exact ⟨c1.trans a.1, c2.trans a.2⟩
  · exact (k0 i hi).2.2.2.trans (g7 i (by omega) hn)
  · obtain ⟨a1, a2⟩ := g8 q hq
    obtain ⟨_, c1, c2, _⟩ := k0 q (by omega)
    rw [c1, c2]
    refine ⟨a1.ext _ _ (fun r h => ?_), a2⟩
    rcases List.mem_append.mp h with h | h
    · exact (k0 r (hr r (List.mem_append_left _ h))).2.2.2
    · rcases List.mem_cons.mp h with h | h
      · rw [h]
        exact k1
      · exact (k0 r (hr r (List.mem_append_right _ h))).2.2.2
/-- the rows of a child stayed, as another came -/
theorem XTA.ag {b e x : Nat} {l m : List EN} {σ s : ST} (h : XTA b e x (rA l) (rA m) σ s) (hS : (l ++ m).Pairwise SEPE) {y : EN} (hy : y ∈ l ++ m) (hb : inA y = true) (hx : x < y.2.1.1) (he : y.2.1.2 ≤ e) : AGA b σ s y.2.1.1 y.2.1.2 := by
  obtain ⟨h1, h2, h3, _⟩ := h
  intro j j1 j2
  refine ⟨h1 j (by omega), (h2 j (by omega) (by omega)).1, (h2 j (by omega) (by omega)).2, fun hj => h3 j (by omega) (fun e9 => ?_)⟩
  rcases lz_in (rA l) (-1) with ⟨_, h9⟩ | ⟨q, h8, h9⟩
  · omega
  · obtain ⟨z, z1, z2, z3⟩ := mem_rA h8
    rcases sep_mem hS hy (List.mem_append_left _ z1) with e | e
    · rw [← e] at z3
      omega
    · have := e.1
      have := inA_lt z2
      omega
theorem XTB.ag {f v : Nat} {l m : List EN} {τ t : ST} (h : XTB f v (rB l) (rB m) τ t) (hS : (l ++ m).Pairwise SEPE) {y : EN} (hy : y ∈ l ++ m) (hn : ∀ z, z ∈ l ++ m → z.2.2.1 < z.2.2.2) (hx : v < y.2.2.1) (he : y.2.2.2 ≤ f) : AGB τ t y.2.2.1 y.2.2.2 := by
  obtain ⟨⟨h1, h1b, _⟩, h2, h3, _⟩ := h
  intro j j1 j2
  refine ⟨⟨⟨(h1 j (by omega)).1, h1b j (by omega) (by omega)⟩, (h1 j (by omega)).2⟩, (h2 j (by omega) (by omega)).1, (h2 j (by omega) (by omega)).2, fun hj => h3 j (by omega) (fun e9 => ?_)⟩
  rcases lz_in (rB l) (-1) with ⟨_, h9⟩ | ⟨q, h8, h9⟩
  · omega
  · obtain ⟨z, z1, z3⟩ := mem_rB h8
    rcases sep_mem hS hy (List.mem_append_left _ z1) with e | e
    · rw [← e] at z3
      omega
    · have := e.2
      have := hn z (List.mem_append_left _ z1)
      omega
/-- one child more: on both sides -/
theorem KDS.add {b e f e' f' x v j : Nat} {σ τ s t : ST} {l m : List EN} {Q R : EN → Prop} (h : KDS b σ τ (x, e) (v, f) (l ++ m) Q) (hA : XTA b e x (rA l) (rA m) σ s) (hB : XTB f v (rB l) (rB m) τ t) (hxe : x < e) (hvf : v < f) (he : e < e') (hf : f < f') (hlen : (l ++ m).length < 1000000) (hl : ∀ y, y ∈ l → y.1 < j) (hm : ∀ y, y ∈ m → j < y.1) (hQ : ∀ y, y ∈ l ++ m → (v < y.2.2.1 ∧ y.2.2.1 < y.2.2.2) → (inA y = true → AGA b σ s y.2.1.1 y.2.1.2) → AGB τ t y.2.2.1 y.2.2.2 → Q y → R y) (hR : R (j, (e, e'), (f, f'))) : KDS b s t (x, e') (v, f') (l ++ (j, (e, e'), (f, f')) :: m) R := by
  obtain ⟨⟨⟨h1, h2⟩, h3, h4⟩, ⟨h5, h5b⟩, ⟨h6, h7⟩, h8⟩ := h
  have hin : inA (j, (e, e'), (f, f')) = true := decide_eq_true he
  obtain ⟨a1, a2⟩ := hA.2.2.2 x rfl
  obtain ⟨b1, b2⟩ := hB.2.2.2 v rfl
  have ap := List.pairwise_append.mp h5
  have eA : rA (l ++ (j, (e, e'), (f, f')) :: m) = rA l ++ e :: rA m := by rw [rA_app, rA_one hin]
  have eB : rB (l ++ (j, (e, e'), (f, f')) :: m) = rB l ++ f :: rB m := by rw [rB_app]; rfl
  have sep : ∀ y, y ∈ l ++ m → SEPE y (j, (e, e'), (f, f')) := fun y hy => by
    obtain ⟨k1, k2, _⟩ := h8 y hy
    exact ⟨.inl k2.2, .inl k1.2.2⟩
  have hmem : ∀ y, y ∈ l ++ (j, (e, e'), (f, f')) :: m → y = (j, (e, e'), (f, f')) ∨ y ∈ l ++ m := fun y hy => by
    rcases List.mem_append.mp hy with hy | hy
    · exact .inr (List.mem_append_left _ hy)
    · rcases List.mem_cons.mp hy with hy | hy
      · exact .inl hy
      · exact .inr (List.mem_append_right _ hy)
  refine ⟨⟨⟨?_, ?_⟩, ?_, ?_⟩, ⟨?_, ?_⟩, ⟨?_, ?_⟩, fun y hy => ?_⟩
  · rw [eA]
    exact a1
  · rw [eA]
    exact a2
  · rw [eB]
    exact b1
  · rw [eB]
    exact b2
  · refine List.pairwise_append.mpr ⟨ap.1, List.pairwise_cons.mpr ⟨fun y hy => (sep y (List.mem_append_right _ hy)).symm, ap.2.1⟩, fun y hy z hz => ?_⟩
    rcases List.mem_cons.mp hz with hz | hz
    · rw [hz]
      exact sep y (List.mem_append_left _ hy)
    · exact ap.2.2 y hy z hz
  · rw [List.map_append, List.map_cons]
    rw [List.map_append] at h5b
    have ap2 := List.pairwise_append.mp h5b
    refine List.pairwise_append.mpr ⟨ap2.1, List.pairwise_cons.mpr ⟨fun i hi => ?_, ap2.2.1⟩, fun i hi k hk => ?_⟩
    · obtain ⟨y, hy, e⟩ := List.mem_map.mp hi
      have := hm y hy
      show j < i
      omega
    · obtain ⟨y, hy, e⟩ := List.mem_map.mp hi
      rcases List.mem_cons.mp hk with hk | hk
      · have := hl y hy
        rw [hk]
        show i < j
        omega
      · exact ap2.2.2 i hi k hk
  · have e3 : (l ++ (j, (e, e'), (f, f')) :: m).length = (l ++ m).length + 1 := by
      simp only [List.length_append, List.length_cons]
      omega
    have l1 := li_1
    rw [e3, hB.1.2.2 v rfl]
    have h6 : (τ.1 23 v).toInt = (l ++ m).length := h6
    rw [il_addE (by omega) (by omega)]
    omega
  · obtain ⟨h7, h7b⟩ := h7
    have h7 : (rA (l ++ m)).length + x < e := h7
    have h7b : x + 1 + spA (l ++ m) = e := h7b
    refine ⟨?_, ?_⟩
    · show (rA (l ++ (j, (e, e'), (f, f')) :: m)).length + x < e'
      rw [eA]
      rw [rA_app] at h7
      simp only [List.length_append, List.length_cons] at h7 ⊢
      omega
    · show x + 1 + spA (l ++ (j, (e, e'), (f, f')) :: m) = e'
      rw [spA_app, spA_one hin]
      rw [spA_app] at h7b
      show x + 1 + (spA l + (e' - e + spA m)) = e'
      omega
  · rcases hmem y hy with e9 | hy
    · rw [e9]
      exact ⟨⟨hvf, hf, Nat.le_refl _⟩, ⟨fun _ => ⟨hxe, Nat.le_refl _⟩, Nat.le_refl _⟩, hR⟩
    · obtain ⟨k1, k2, k3⟩ := h8 y hy
      have k1 : v < y.2.2.1 ∧ y.2.2.1 < y.2.2.2 ∧ y.2.2.2 ≤ f := k1
      have k2 : (inA y = true → x < y.2.1.1 ∧ y.2.1.2 ≤ e) ∧ y.2.1.2 ≤ e := k2
      refine ⟨⟨k1.1, k1.2.1, by show y.2.2.2 ≤ f'; omega⟩, ⟨fun hi => ⟨(k2.1 hi).1, by have := k2.2; show y.2.1.2 ≤ e'; omega⟩, by have := k2.2; show y.2.1.2 ≤ e'; omega⟩, hQ y hy ⟨k1.1, k1.2.1⟩ (fun hi => hA.ag h5 hy hi (k2.1 hi).1 (k2.1 hi).2) (hB.ag h5 hy (fun z hz => (h8 z hz).1.2.1) k1.1 k1.2.2) k3⟩
/-- one child more: the reference's alone -/
theorem KDS.addB {b e f f' x v j : Nat} {σ τ t : ST} {l m : List EN} {Q R : EN → Prop} (h : KDS b σ τ (x, e) (v, f) (l ++ m) Q) (hB : XTB f v (rB l) (rB m) τ t) (hvf : v < f) (hf : f < f') (hlen : (l ++ m).length < 1000000) (hl : ∀ y, y ∈ l → y.1 < j) (hm : ∀ y, y ∈ m → j < y.1) (hQ : ∀ y, y ∈ l ++ m → (v < y.2.2.1 ∧ y.2.2.1 < y.2.2.2) → AGB τ t y.2.2.1 y.2.2.2 → Q y → R y) (hR : R (j, (0, 0), (f, f'))) : KDS b σ t (x, e) (v, f') (l ++ (j, (0, 0), (f, f')) :: m) R := by
  obtain ⟨⟨⟨h1, h2⟩, h3, h4⟩, ⟨h5, h5b⟩, ⟨h6, h7⟩, h8⟩ := h
  have hin : inA (j, (0, 0), (f, f')) = false := rfl
  obtain ⟨b1, b2⟩ := hB.2.2.2 v rfl
  have ap := List.pairwise_append.mp h5
  have eA : rA (l ++ (j, (0, 0), (f, f')) :: m) = rA (l ++ m) := by rw [rA_app, rA_none hin, rA_app]
  have eB : rB (l ++ (j, (0, 0), (f, f')) :: m) = rB l ++ f :: rB m := by rw [rB_app]; rfl
  have sep : ∀ y, y ∈ l ++ m → SEPE y (j, (0, 0), (f, f')) := fun y hy => by
    obtain ⟨k1, k2, _⟩ := h8 y hy
    exact ⟨.inr (Nat.zero_le _), .inl k1.2.2⟩
  have hmem : ∀ y, y ∈ l ++ (j, (0, 0), (f, f')) :: m → y = (j, (0, 0), (f, f')) ∨ y ∈ l ++ m := fun y hy => by
    rcases List.mem_append.mp hy with hy | hy
    · exact .inr (List.mem_append_left _ hy)
    · rcases List.mem_cons.mp hy with hy | hy
      · exact .inl hy
      · exact .inr (List.mem_append_right _ hy)
  refine ⟨⟨⟨?_, ?_⟩, ?_, ?_⟩, ⟨?_, ?_⟩, ⟨?_, ?_⟩, fun y hy => ?_⟩
  · rw [eA]
    exact h1
  · rw [eA]
    exact h2
  · rw [eB]
    exact b1
  · rw [eB]
    exact b2
  · refine List.pairwise_append.mpr ⟨ap.1, List.pairwise_cons.mpr ⟨fun y hy => (sep y (List.mem_append_right _ hy)).symm, ap.2.1⟩, fun y hy z hz => ?_⟩
    rcases List.mem_cons.mp hz with hz | hz
    · rw [hz]
      exact sep y (List.mem_append_left _ hy)
    · exact ap.2.2 y hy z hz
  · rw [List.map_append, List.map_cons]
    rw [List.map_append] at h5b
    have ap2 := List.pairwise_append.mp h5b
    refine List.pairwise_append.mpr ⟨ap2.1, List.pairwise_cons.mpr ⟨fun i hi => ?_, ap2.2.1⟩, fun i hi k hk => ?_⟩
    · obtain ⟨y, hy, e⟩ := List.mem_map.mp hi
      have := hm y hy
      show j < i
      omega
    · obtain ⟨y, hy, e⟩ := List.mem_map.mp hi
      rcases List.mem_cons.mp hk with hk | hk
      · have := hl y hy
        rw [hk]
        show i < j
        omega
      · exact ap2.2.2 i hi k hk
  · have e3 : (l ++ (j, (0, 0), (f, f')) :: m).length = (l ++ m).length + 1 := by
      simp only [List.length_append, List.length_cons]
      omega
    have l1 := li_1
    rw [e3, hB.1.2.2 v rfl]
    have h6 : (τ.1 23 v).toInt = (l ++ m).length := h6
    rw [il_addE (by omega) (by omega)]
    omega
  · obtain ⟨h7, h7b⟩ := h7
    refine ⟨by rw [eA]; exact h7, ?_⟩
    show x + 1 + spA (l ++ (j, (0, 0), (f, f')) :: m) = e
    have h7b : x + 1 + spA (l ++ m) = e := h7b
    rw [spA_app, spA_none hin, ← spA_app]
    exact h7b
  · rcases hmem y hy with e9 | hy
    · rw [e9]
      exact ⟨⟨hvf, hf, Nat.le_refl _⟩, ⟨fun h => (by cases h), Nat.zero_le _⟩, hR⟩
    · obtain ⟨k1, k2, k3⟩ := h8 y hy
      have k1 : v < y.2.2.1 ∧ y.2.2.1 < y.2.2.2 ∧ y.2.2.2 ≤ f := k1
      refine ⟨⟨k1.1, k1.2.1, by show y.2.2.2 ≤ f'; omega⟩, k2, hQ y hy ⟨k1.1, k1.2.1⟩ (hB.ag h5 hy (fun z hz => (h8 z hz).1.2.1) k1.1 k1.2.2) k3⟩
