/-! the class's calls, over its invariant -/
def F0_ (σ τ : ST) : Prop := τ.1 0 = σ.1 0 ∧ τ.1 1 = σ.1 1 ∧ τ.1 4 = σ.1 4 ∧ τ.2.1 3 = σ.2.1 3
theorem F0_.rf {σ : ST} : F0_ σ σ := ⟨rfl, rfl, rfl, rfl⟩
theorem Fr.f0 {σ τ : ST} (h : Fr σ τ) : F0_ σ τ := ⟨h.1, h.2.1, h.2.2.1⟩
theorem F0_.trans {σ τ υ : ST} (h : F0_ σ τ) (k : F0_ τ υ) : F0_ σ υ := ⟨k.1.trans h.1, k.2.1.trans h.2.1, k.2.2.1.trans h.2.2.1, k.2.2.2.trans h.2.2.2⟩
theorem OK.ro2 {α : Type} {o : Option (α × ST)} {σ : ST} {Q : α → Prop} (h : OK o (RO σ Q)) (hI : IA σ) : OK o (RT σ) := h.mono (fun q hq => by
  have e : q.2 = σ := hq.1
  unfold RT
  rw [e]
  exact ⟨hI, rfl, rfl, rfl, rfl⟩)
theorem OK.rw2 {α : Type} {o : Option (α × ST)} {σ : ST} {Q : α → Prop} (h : OK o (RW σ Q)) : OK o (RT σ) := h.mono (fun q hq => ⟨hq.1.1, hq.1.2.f0⟩)
theorem OK.rtret {α : Type} {v : α} {σ s : ST} (h : IA s) (f : F0_ σ s) : OK (some (v, s)) (RT σ) := ⟨_, rfl, h, f⟩
theorem OK.bndT {α β : Type} {o : Option (α × ST)} {f : α × ST → Option β} {s σ : ST} {P : β → Prop} (h : OK o (RT s)) (hF : F0_ σ s) (k : ∀ (v : α) (t : ST), IA t → F0_ σ t → OK (f (v, t)) P) : OK (o.bind f) P := by
  obtain ⟨⟨v, s1⟩, e, h1, h2⟩ := h
  rw [e]; exact k v s1 h1 (hF.trans h2)
theorem OK.bndS0 {β : Type} {o : Option ST} {f : ST → Option β} {s σ : ST} {P : β → Prop} (h : OK o (RS s)) (hF : F0_ σ s) (k : ∀ t : ST, IA t → F0_ σ t → OK (f t) P) : OK (o.bind f) P := by
  obtain ⟨s1, e, h1⟩ := h
  rw [e]; exact k s1 h1.1 (hF.trans h1.2.f0)
theorem k_X10_read (p0 p1 : Int32) (σ : ST) (hI : IA σ) : OK (f_X10_read p0 p1 σ) (RT σ) := by
  unfold f_X10_read
  refine OK.bndR (k_X1_isWritten _ _ hI) (fun v1 h1 => ?_)
  dsimp only
  refine OK.ieq (fun _ => OK.rtret hI F0_.rf) (fun _ => ?_)
  refine OK.bndR (k_X10_isPlan _ _ hI) (fun v2 h2 => ?_)
  dsimp only
  refine OK.ieq (fun _ => OK.rtret hI F0_.rf) (fun _ => ?_)
  refine OK.bndR (k_X1_planOf _ _ hI) (fun v3 h3 => ?_)
  dsimp only
  refine OK.bndS0 (k_X9_use _ _ _ hI) F0_.rf (fun s i f => ?_)
  try dsimp only
  exact OK.bndT (k_X4_run_89_50 _ _ _ i) f (fun v t it ft => OK.rtret it ft)
theorem k_X10_convert (p0 p1 p2 : Int32) (σ : ST) (hI : IA σ) : OK (f_X10_convert p0 p1 p2 σ) (RT σ) := by
  unfold f_X10_convert
  refine OK.bndR (k_X1_isWritten _ _ hI) (fun v1 h1 => ?_)
  dsimp only
  refine OK.ieq (fun _ => OK.rtret hI F0_.rf) (fun _ => ?_)
  refine OK.bndR (k_X10_isPlan _ _ hI) (fun v2 h2 => ?_)
  dsimp only
  refine OK.ieq (fun _ => OK.rtret hI F0_.rf) (fun _ => ?_)
  refine OK.bndR (k_X1_isNumber _ _ hI) (fun v4 h4 => ?_)
  dsimp only
  refine OK.ieq (fun _ => OK.rtret hI F0_.rf) (fun _ => ?_)
  refine OK.bndR (k_X1_planOf _ _ hI) (fun v3 h3 => ?_)
  dsimp only
  refine OK.bndS0 (k_X9_use _ _ _ hI) F0_.rf (fun s i f => ?_)
  try dsimp only
  refine OK.bndT (k_X4_run_89_50 _ _ _ i) f (fun v t it ft => ?_)
  dsimp only
  refine OK.ile (fun _ => ?_) (fun _ => OK.rtret it ft)
  refine OK.bndR (k_X5_rootType_4 _ _ it) (fun v5 h5 => ?_)
  dsimp only
  refine OK.bndS0 (k_X2_pack_50 _ _ it) ft (fun s6 i6 f6 => ?_)
  try dsimp only
  refine OK.ile (fun _ => ?_) (fun _ => OK.rtret i6 f6)
  exact OK.bndS0 (k_X1_store _ _ _ i6) f6 (fun s7 i7 f7 => OK.rtret i7 f7)
theorem k_X10_alike (p0 p1 p2 : Int32) (σ : ST) (hI : IA σ) : OK (f_X10_alike p0 p1 p2 σ) (RT σ) := by
  unfold f_X10_alike
  refine OK.bndR (k_X1_isWritten _ _ hI) (fun v1 h1 => ?_)
  dsimp only
  refine OK.ieq (fun _ => OK.rtret hI F0_.rf) (fun _ => ?_)
  refine OK.bndR (k_X1_isWritten _ _ hI) (fun v2 h2 => ?_)
  dsimp only
  refine OK.ieq (fun _ => OK.rtret hI F0_.rf) (fun _ => ?_)
  refine OK.bndR (k_X10_isPlan _ _ hI) (fun v4 h4 => ?_)
  dsimp only
  refine OK.ieq (fun _ => OK.rtret hI F0_.rf) (fun _ => ?_)
  refine OK.bndT (k_X4_run_92_62 _ _ _ hI) F0_.rf (fun v t it ft => ?_)
  dsimp only
  refine OK.ile (fun _ => ?_) (fun _ => OK.rtret it ft)
  refine OK.bndT (k_X4_run_92_74 _ _ _ it) ft (fun v5 t5 i5 f5 => ?_)
  dsimp only
  refine OK.ile (fun _ => ?_) (fun _ => OK.rtret i5 f5)
  refine OK.bndR (k_X7_isLike_62_74 _ i5) (fun v6 h6 => ?_)
  dsimp only
  exact OK.ieq (fun _ => OK.rtret i5 f5) (fun _ => OK.rtret i5 f5)
