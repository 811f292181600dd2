/-! the reference: words -/
theorem OK.kac {α : Type} {o : Option (α × Nat)} {k : Nat} {P : α × Nat → Prop} (h : OK o (fun z => P (z.1, k + z.2))) : OK (ac k o) P := by
  obtain ⟨z, e, hz⟩ := h
  exact ⟨(z.1, k + z.2), by unfold ac; rw [e]; rfl, hz⟩
/-- an answer that leaves all as it is, and how many cells it took at most -/
def KO {α : Type} (σ : ST) (c : Nat) (Q : α → Prop) (q : (α × ST) × Nat) : Prop := q.1.2 = σ ∧ Q q.1.1 ∧ q.2 ≤ c
theorem OK.kret {α : Type} {σ : ST} {c x : Nat} {Q : α → Prop} {v : α} (h : Q v) (hx : x ≤ c) : OK (some ((v, σ), x)) (KO σ c Q) := ⟨_, rfl, rfl, h, hx⟩
theorem OK.bndK {α β : Type} {o : Option ((α × ST) × Nat)} {f : (α × ST) × Nat → Option (β × Nat)} {s : ST} {c : Nat} {Q : α → Prop} {P : β × Nat → Prop} (h : OK o (KO s c Q)) (k : ∀ (v : α) (x : Nat), Q v → x ≤ c → OK (f ((v, s), x)) P) : OK (o.bind f) P := by
  obtain ⟨⟨⟨v, t⟩, x⟩, e, h1, h2, h3⟩ := h
  have h1 : t = s := h1
  subst h1
  rw [e]; exact k v x h2 h3
theorem OK.kq {α : Type} {o : Option ((α × ST) × Nat)} {s : ST} {c d : Nat} {Q R : α → Prop} (h : OK o (KO s c Q)) (hc : c ≤ d) (k : ∀ v, Q v → R v) : OK o (KO s d R) := h.mono (fun q hq => ⟨hq.1, k _ hq.2.1, Nat.le_trans hq.2.2 hc⟩)
/-- the token is that word -/
def W_ (σ : ST) (V : Int64) : Prop := (σ.1 0 6).toInt = 1 ∧ σ.2.1 0 7 = V
theorem b_isWord (V : Int64) (σ : ST) : OK (f_X11_isWord V σ) (RO σ fun v => v.toInt = 0 ∧ ¬ W_ σ V ∨ v.toInt = 1 ∧ W_ σ V) := by
  unfold f_X11_isWord W_
  have lt_0 := li_0
  have lt_1 := li_1
  refine OK.ieq (fun h => ?_) (fun h => OK.roret (.inl ⟨by omega, fun h9 => by omega⟩))
  refine OK.ite (fun h2 => ?_) (fun h2 => ?_)
  · rw [lg_cmp_eq] at h2
    exact OK.roret (.inr ⟨by omega, by omega, h2⟩)
  · rw [lg_cmp_eq] at h2
    exact OK.roret (.inl ⟨by omega, fun h9 => h2 h9.2⟩)

def v_plan : Int64 := 323717
theorem sp_plan (σ : ST) : f_X11_spelt 112 108 97 110 0 0 σ = some ((v_plan, σ), 1) := by
  have e : spl (spf 112 108 97 110 0 0) 7 0 0 = some v_plan := by decide
  unfold f_X11_spelt
  rw [e]
  rfl
def v_record : Int64 := 261008005
theorem sp_record (σ : ST) : f_X11_spelt 114 101 99 111 114 100 σ = some ((v_record, σ), 1) := by
  have e : spl (spf 114 101 99 111 114 100) 7 0 0 = some v_record := by decide
  unfold f_X11_spelt
  rw [e]
  rfl
def v_was : Int64 := 16813
theorem sp_was (σ : ST) : f_X11_spelt 119 97 115 0 0 0 σ = some ((v_was, σ), 1) := by
  have e : spl (spf 119 97 115 0 0 0) 7 0 0 = some v_was := by decide
  unfold f_X11_spelt
  rw [e]
  rfl
def v_else : Int64 := 107681
theorem sp_else (σ : ST) : f_X11_spelt 101 108 115 101 0 0 σ = some ((v_else, σ), 1) := by
  have e : spl (spf 101 108 115 101 0 0) 7 0 0 = some v_else := by decide
  unfold f_X11_spelt
  rw [e]
  rfl
def v_list : Int64 := 243290
theorem sp_list (σ : ST) : f_X11_spelt 108 105 115 116 0 0 σ = some ((v_list, σ), 1) := by
  have e : spl (spf 108 105 115 116 0 0) 7 0 0 = some v_list := by decide
  unfold f_X11_spelt
  rw [e]
  rfl
def v_either : Int64 := 76927149
theorem sp_either (σ : ST) : f_X11_spelt 101 105 116 104 101 114 σ = some ((v_either, σ), 1) := by
  have e : spl (spf 101 105 116 104 101 114) 7 0 0 = some v_either := by decide
  unfold f_X11_spelt
  rw [e]
  rfl
def v_or : Int64 := 423
theorem sp_or (σ : ST) : f_X11_spelt 111 114 0 0 0 0 σ = some ((v_or, σ), 1) := by
  have e : spl (spf 111 114 0 0 0 0) 7 0 0 = some v_or := by decide
  unfold f_X11_spelt
  rw [e]
  rfl
def v_none : Int64 := 286880
theorem sp_none (σ : ST) : f_X11_spelt 110 111 110 101 0 0 σ = some ((v_none, σ), 1) := by
  have e : spl (spf 110 111 110 101 0 0) 7 0 0 = some v_none := by decide
  unfold f_X11_spelt
  rw [e]
  rfl
def v_flag : Int64 := 126880
theorem sp_flag (σ : ST) : f_X11_spelt 102 108 97 103 0 0 σ = some ((v_flag, σ), 1) := by
  have e : spl (spf 102 108 97 103 0 0) 7 0 0 = some v_flag := by decide
  unfold f_X11_spelt
  rw [e]
  rfl
def v_int : Int64 := 6959
theorem sp_int (σ : ST) : f_X11_spelt 105 110 116 0 0 0 σ = some ((v_int, σ), 1) := by
  have e : spl (spf 105 110 116 0 0 0) 7 0 0 = some v_int := by decide
  unfold f_X11_spelt
  rw [e]
  rfl
def v_long : Int64 := 247516
theorem sp_long (σ : ST) : f_X11_spelt 108 111 110 103 0 0 σ = some ((v_long, σ), 1) := by
  have e : spl (spf 108 111 110 103 0 0) 7 0 0 = some v_long := by decide
  unfold f_X11_spelt
  rw [e]
  rfl
def v_real : Int64 := 357978
theorem sp_real (σ : ST) : f_X11_spelt 114 101 97 108 0 0 σ = some ((v_real, σ), 1) := by
  have e : spl (spf 114 101 97 108 0 0) 7 0 0 = some v_real := by decide
  unfold f_X11_spelt
  rw [e]
  rfl
def v_text : Int64 := 397973
theorem sp_text (σ : ST) : f_X11_spelt 116 101 120 116 0 0 σ = some ((v_text, σ), 1) := by
  have e : spl (spf 116 101 120 116 0 0) 7 0 0 = some v_text := by decide
  unfold f_X11_spelt
  rw [e]
  rfl
def v_yes : Int64 := 18379
theorem sp_yes (σ : ST) : f_X11_spelt 121 101 115 0 0 0 σ = some ((v_yes, σ), 1) := by
  have e : spl (spf 121 101 115 0 0 0) 7 0 0 = some v_yes := by decide
  unfold f_X11_spelt
  rw [e]
  rfl
def v_no : Int64 := 393
theorem sp_no (σ : ST) : f_X11_spelt 110 111 0 0 0 0 σ = some ((v_no, σ), 1) := by
  have e : spl (spf 110 111 0 0 0 0) 7 0 0 = some v_no := by decide
  unfold f_X11_spelt
  rw [e]
  rfl
def KB : List Int64 := [v_plan, v_record, v_was, v_else, v_list, v_either, v_or, v_none, v_flag, v_int, v_long, v_real, v_text, v_yes, v_no]
theorem b_isPlan (σ : ST) : OK (f_X11_isPlan σ) (KO σ 1 fun v => v.toInt = 0 ∧ ¬ W_ σ v_plan ∨ v.toInt = 1 ∧ W_ σ v_plan) := by
  unfold f_X11_isPlan
  rw [sp_plan]
  refine OK.kac (k := 1) ?_
  refine OK.bndR (b_isWord v_plan σ) (fun v hv => ?_)
  dsimp only
  refine OK.grd (b01 (by omega)) ?_
  exact ⟨_, rfl, rfl, hv, Nat.le_refl 1⟩
theorem b_isRecord (σ : ST) : OK (f_X11_isRecord σ) (KO σ 1 fun v => v.toInt = 0 ∧ ¬ W_ σ v_record ∨ v.toInt = 1 ∧ W_ σ v_record) := by
  unfold f_X11_isRecord
  rw [sp_record]
  refine OK.kac (k := 1) ?_
  refine OK.bndR (b_isWord v_record σ) (fun v hv => ?_)
  dsimp only
  refine OK.grd (b01 (by omega)) ?_
  exact ⟨_, rfl, rfl, hv, Nat.le_refl 1⟩
theorem b_isWas (σ : ST) : OK (f_X11_isWas σ) (KO σ 1 fun v => v.toInt = 0 ∧ ¬ W_ σ v_was ∨ v.toInt = 1 ∧ W_ σ v_was) := by
  unfold f_X11_isWas
  rw [sp_was]
  refine OK.kac (k := 1) ?_
  refine OK.bndR (b_isWord v_was σ) (fun v hv => ?_)
  dsimp only
  refine OK.grd (b01 (by omega)) ?_
  exact ⟨_, rfl, rfl, hv, Nat.le_refl 1⟩
theorem b_isElse (σ : ST) : OK (f_X11_isElse σ) (KO σ 1 fun v => v.toInt = 0 ∧ ¬ W_ σ v_else ∨ v.toInt = 1 ∧ W_ σ v_else) := by
  unfold f_X11_isElse
  rw [sp_else]
  refine OK.kac (k := 1) ?_
  refine OK.bndR (b_isWord v_else σ) (fun v hv => ?_)
  dsimp only
  refine OK.grd (b01 (by omega)) ?_
  exact ⟨_, rfl, rfl, hv, Nat.le_refl 1⟩
theorem b_isOr (σ : ST) : OK (f_X11_isOr σ) (KO σ 1 fun v => v.toInt = 0 ∧ ¬ W_ σ v_or ∨ v.toInt = 1 ∧ W_ σ v_or) := by
  unfold f_X11_isOr
  rw [sp_or]
  refine OK.kac (k := 1) ?_
  refine OK.bndR (b_isWord v_or σ) (fun v hv => ?_)
  dsimp only
  refine OK.grd (b01 (by omega)) ?_
  exact ⟨_, rfl, rfl, hv, Nat.le_refl 1⟩
theorem b_isYes (σ : ST) : OK (f_X11_isYes σ) (KO σ 1 fun v => v.toInt = 0 ∧ ¬ W_ σ v_yes ∨ v.toInt = 1 ∧ W_ σ v_yes) := by
  unfold f_X11_isYes
  rw [sp_yes]
  refine OK.kac (k := 1) ?_
  refine OK.bndR (b_isWord v_yes σ) (fun v hv => ?_)
  dsimp only
  refine OK.grd (b01 (by omega)) ?_
  exact ⟨_, rfl, rfl, hv, Nat.le_refl 1⟩
theorem b_isNo (σ : ST) : OK (f_X11_isNo σ) (KO σ 1 fun v => v.toInt = 0 ∧ ¬ W_ σ v_no ∨ v.toInt = 1 ∧ W_ σ v_no) := by
  unfold f_X11_isNo
  rw [sp_no]
  refine OK.kac (k := 1) ?_
  refine OK.bndR (b_isWord v_no σ) (fun v hv => ?_)
  dsimp only
  refine OK.grd (b01 (by omega)) ?_
  exact ⟨_, rfl, rfl, hv, Nat.le_refl 1⟩
def SH (σ : ST) (v : Int32) : Prop := v.toInt = 0 ∧ W_ σ v_none ∨ v.toInt = 1 ∧ W_ σ v_flag ∨ v.toInt = 2 ∧ W_ σ v_int ∨ v.toInt = 3 ∧ W_ σ v_long ∨ v.toInt = 4 ∧ W_ σ v_real ∨ v.toInt = 5 ∧ W_ σ v_text ∨ v.toInt = 6 ∧ W_ σ v_list ∨ v.toInt = 8 ∧ W_ σ v_either ∨ v.toInt = -1 ∧ ¬ W_ σ v_none ∧ ¬ W_ σ v_flag ∧ ¬ W_ σ v_int ∧ ¬ W_ σ v_long ∧ ¬ W_ σ v_real ∧ ¬ W_ σ v_text ∧ ¬ W_ σ v_list ∧ ¬ W_ σ v_either
theorem b_sortHere (σ : ST) : OK (f_X11_sortHere σ) (KO σ 8 (SH σ)) := by
  unfold f_X11_sortHere SH
  have lm := li_m1
  have lt_0 := li_0
  have lt_1 := li_1
  have lt_2 := li_2
  have lt_3 := li_3
  have lt_4 := li_4
  have lt_5 := li_5
  have lt_6 := li_6
  have lt_8 := li_8
  rw [sp_none]
  refine OK.kac (k := 1) ?_
  refine OK.bndR (b_isWord v_none σ) (fun v0 hv0 => ?_)
  dsimp only
  refine OK.ieq (fun h => ?_) (fun h => ⟨_, rfl, rfl, .inl ⟨lt_0, ?_⟩, by dsimp only; omega⟩)
  rotate_left
  · rcases hv0 with hv0 | hv0
    · omega
    · exact hv0.2
  rw [sp_flag]
  refine OK.kac (k := 1) ?_
  refine OK.bndR (b_isWord v_flag σ) (fun v1 hv1 => ?_)
  dsimp only
  refine OK.ieq (fun h => ?_) (fun h => ⟨_, rfl, rfl, .inr (.inl ⟨lt_1, ?_⟩), by dsimp only; omega⟩)
  rotate_left
  · rcases hv1 with hv1 | hv1
    · omega
    · exact hv1.2
  rw [sp_int]
  refine OK.kac (k := 1) ?_
  refine OK.bndR (b_isWord v_int σ) (fun v2 hv2 => ?_)
  dsimp only
  refine OK.ieq (fun h => ?_) (fun h => ⟨_, rfl, rfl, .inr (.inr (.inl ⟨lt_2, ?_⟩)), by dsimp only; omega⟩)
  rotate_left
  · rcases hv2 with hv2 | hv2
    · omega
    · exact hv2.2
  rw [sp_long]
  refine OK.kac (k := 1) ?_
  refine OK.bndR (b_isWord v_long σ) (fun v3 hv3 => ?_)
  dsimp only
  refine OK.ieq (fun h => ?_) (fun h => ⟨_, rfl, rfl, .inr (.inr (.inr (.inl ⟨lt_3, ?_⟩))), by dsimp only; omega⟩)
  rotate_left
  · rcases hv3 with hv3 | hv3
    · omega
    · exact hv3.2
  rw [sp_real]
  refine OK.kac (k := 1) ?_
  refine OK.bndR (b_isWord v_real σ) (fun v4 hv4 => ?_)
  dsimp only
  refine OK.ieq (fun h => ?_) (fun h => ⟨_, rfl, rfl, .inr (.inr (.inr (.inr (.inl ⟨lt_4, ?_⟩)))), by dsimp only; omega⟩)
  rotate_left
  · rcases hv4 with hv4 | hv4
    · omega
    · exact hv4.2
  rw [sp_text]
  refine OK.kac (k := 1) ?_
  refine OK.bndR (b_isWord v_text σ) (fun v5 hv5 => ?_)
  dsimp only
  refine OK.ieq (fun h => ?_) (fun h => ⟨_, rfl, rfl, .inr (.inr (.inr (.inr (.inr (.inl ⟨lt_5, ?_⟩))))), by dsimp only; omega⟩)
  rotate_left
  · rcases hv5 with hv5 | hv5
    · omega
    · exact hv5.2
  rw [sp_list]
  refine OK.kac (k := 1) ?_
  refine OK.bndR (b_isWord v_list σ) (fun v6 hv6 => ?_)
  dsimp only
  refine OK.ieq (fun h => ?_) (fun h => ⟨_, rfl, rfl, .inr (.inr (.inr (.inr (.inr (.inr (.inl ⟨lt_6, ?_⟩)))))), by dsimp only; omega⟩)
  rotate_left
  · rcases hv6 with hv6 | hv6
    · omega
    · exact hv6.2
  rw [sp_either]
  refine OK.kac (k := 1) ?_
  refine OK.bndR (b_isWord v_either σ) (fun v7 hv7 => ?_)
  dsimp only
  refine OK.ieq (fun h => ⟨_, rfl, rfl, .inr (.inr (.inr (.inr (.inr (.inr (.inr (.inr (⟨lm, ?_, ?_, ?_, ?_, ?_, ?_, ?_, ?_⟩)))))))), by dsimp only; omega⟩) (fun h => ⟨_, rfl, rfl, .inr (.inr (.inr (.inr (.inr (.inr (.inr (.inl ⟨lt_8, ?_⟩))))))), by dsimp only; omega⟩)
  · rcases hv0 with hv0 | hv0
    · exact hv0.2
    · omega
  · rcases hv1 with hv1 | hv1
    · exact hv1.2
    · omega
  · rcases hv2 with hv2 | hv2
    · exact hv2.2
    · omega
  · rcases hv3 with hv3 | hv3
    · exact hv3.2
    · omega
  · rcases hv4 with hv4 | hv4
    · exact hv4.2
    · omega
  · rcases hv5 with hv5 | hv5
    · exact hv5.2
    · omega
  · rcases hv6 with hv6 | hv6
    · exact hv6.2
    · omega
  · rcases hv7 with hv7 | hv7
    · exact hv7.2
    · omega
  · rcases hv7 with hv7 | hv7
    · omega
    · exact hv7.2

/-- a name: a word that is none of those that mean something -/
def NM (σ : ST) : Prop := (σ.1 0 6).toInt = 1 ∧ ∀ V, V ∈ KB → ¬ σ.2.1 0 7 = V
theorem NM.no {σ : ST} {V : Int64} (hV : V ∈ KB) (h : W_ σ V) : ¬ NM σ := fun hn => hn.2 V hV h.2
theorem b_isName (σ : ST) : OK (f_X11_isName σ) (KO σ 15 fun v => v.toInt = 0 ∧ ¬ NM σ ∨ v.toInt = 1 ∧ NM σ) := by
  unfold f_X11_isName f_X11_isName_56
  have lt_0 := li_0
  have lt_1 := li_1
  have lm := li_m1
  have y : ∀ (c : Nat), ¬ NM σ → OK (f_X11_isName_61 1 σ) (KO σ c fun v => v.toInt = 0 ∧ ¬ NM σ ∨ v.toInt = 1 ∧ NM σ) := fun c hn => by
    unfold f_X11_isName_61
    refine OK.ieq (fun _ => ?_) (fun _ => OK.kret (.inl ⟨lt_0, hn⟩) (Nat.zero_le _))
    exact OK.ieq (fun h => by omega) (fun _ => OK.kret (.inl ⟨lt_0, hn⟩) (Nat.zero_le _))
  have up : ∀ (x c d : Nat) (o : Option ((Int32 × ST) × Nat)), OK o (KO σ c fun v => v.toInt = 0 ∧ ¬ NM σ ∨ v.toInt = 1 ∧ NM σ) → x + c ≤ d → OK o (fun z => KO σ d (fun v => v.toInt = 0 ∧ ¬ NM σ ∨ v.toInt = 1 ∧ NM σ) (z.1, x + z.2)) := fun x c d o ho hx => ho.mono (fun q hq => ⟨hq.1, hq.2.1, by have := hq.2.2; show x + q.2 ≤ d; omega⟩)
  refine OK.bndK (b_sortHere σ) (fun v x hv hx => ?_)
  refine OK.kac (up x 7 15 _ ?_ (by omega))
  dsimp only
  refine OK.ile (fun h => y 7 ?_) (fun h => ?_)
  · unfold SH at hv
    rcases hv with hv | hv | hv | hv | hv | hv | hv | hv | hv
    · exact NM.no (by decide) hv.2
    · exact NM.no (by decide) hv.2
    · exact NM.no (by decide) hv.2
    · exact NM.no (by decide) hv.2
    · exact NM.no (by decide) hv.2
    · exact NM.no (by decide) hv.2
    · exact NM.no (by decide) hv.2
    · exact NM.no (by decide) hv.2
    · omega
  have hs : (¬ W_ σ v_none ∧ ¬ W_ σ v_flag ∧ ¬ W_ σ v_int ∧ ¬ W_ σ v_long ∧ ¬ W_ σ v_real ∧ ¬ W_ σ v_text ∧ ¬ W_ σ v_list ∧ ¬ W_ σ v_either) := by
    unfold SH at hv
    rcases hv with hv | hv | hv | hv | hv | hv | hv | hv | hv
    · omega
    · omega
    · omega
    · omega
    · omega
    · omega
    · omega
    · omega
    · exact hv.2
  refine OK.bndK (b_isPlan σ) (fun w0 x0 hw0 hx0 => ?_)
  refine OK.kac (up x0 6 7 _ ?_ (by omega))
  dsimp only
  refine OK.ieq (fun h => ?_) (fun h => y 6 (NM.no (V := v_plan) (by decide) ?_))
  rotate_left
  · rcases hw0 with hw0 | hw0
    · omega
    · exact hw0.2
  refine OK.bndK (b_isRecord σ) (fun w1 x1 hw1 hx1 => ?_)
  refine OK.kac (up x1 5 6 _ ?_ (by omega))
  dsimp only
  refine OK.ieq (fun h => ?_) (fun h => y 5 (NM.no (V := v_record) (by decide) ?_))
  rotate_left
  · rcases hw1 with hw1 | hw1
    · omega
    · exact hw1.2
  refine OK.bndK (b_isWas σ) (fun w2 x2 hw2 hx2 => ?_)
  refine OK.kac (up x2 4 5 _ ?_ (by omega))
  dsimp only
  refine OK.ieq (fun h => ?_) (fun h => y 4 (NM.no (V := v_was) (by decide) ?_))
  rotate_left
  · rcases hw2 with hw2 | hw2
    · omega
    · exact hw2.2
  refine OK.bndK (b_isElse σ) (fun w3 x3 hw3 hx3 => ?_)
  refine OK.kac (up x3 3 4 _ ?_ (by omega))
  dsimp only
  refine OK.ieq (fun h => ?_) (fun h => y 3 (NM.no (V := v_else) (by decide) ?_))
  rotate_left
  · rcases hw3 with hw3 | hw3
    · omega
    · exact hw3.2
  refine OK.bndK (b_isOr σ) (fun w4 x4 hw4 hx4 => ?_)
  refine OK.kac (up x4 2 3 _ ?_ (by omega))
  dsimp only
  refine OK.ieq (fun h => ?_) (fun h => y 2 (NM.no (V := v_or) (by decide) ?_))
  rotate_left
  · rcases hw4 with hw4 | hw4
    · omega
    · exact hw4.2
  refine OK.bndK (b_isYes σ) (fun w5 x5 hw5 hx5 => ?_)
  refine OK.kac (up x5 1 2 _ ?_ (by omega))
  dsimp only
  refine OK.ieq (fun h => ?_) (fun h => y 1 (NM.no (V := v_yes) (by decide) ?_))
  rotate_left
  · rcases hw5 with hw5 | hw5
    · omega
    · exact hw5.2
  refine OK.bndK (b_isNo σ) (fun w6 x6 hw6 hx6 => ?_)
  refine OK.kac (up x6 0 1 _ ?_ (by omega))
  dsimp only
  refine OK.ieq (fun h => ?_) (fun h => y 0 (NM.no (V := v_no) (by decide) ?_))
  rotate_left
  · rcases hw6 with hw6 | hw6
    · omega
    · exact hw6.2
  unfold f_X11_isName_61
  refine OK.ieq (fun h6 => ?_) (fun h6 => OK.kret (.inl ⟨lt_0, fun hn => by have := hn.1; omega⟩) (Nat.zero_le _))
  refine OK.ieq (fun _ => ?_) (fun h9 => absurd rfl h9)
  have t1 : (σ.1 0 6).toInt = 1 := by omega
  have ne : ∀ V, ¬ W_ σ V → ¬ σ.2.1 0 7 = V := fun V h9 h8 => h9 ⟨t1, h8⟩
  refine OK.kret (.inr ⟨lt_1, t1, ?_⟩) (Nat.zero_le _)
  have nw : ¬ W_ σ v_plan ∧ ¬ W_ σ v_record ∧ ¬ W_ σ v_was ∧ ¬ W_ σ v_else ∧ ¬ W_ σ v_or ∧ ¬ W_ σ v_yes ∧ ¬ W_ σ v_no := by
    refine ⟨?_, ?_, ?_, ?_, ?_, ?_, ?_⟩
    · rcases hw0 with hw0 | hw0
      · exact hw0.2
      · omega
    · rcases hw1 with hw1 | hw1
      · exact hw1.2
      · omega
    · rcases hw2 with hw2 | hw2
      · exact hw2.2
      · omega
    · rcases hw3 with hw3 | hw3
      · exact hw3.2
      · omega
    · rcases hw4 with hw4 | hw4
      · exact hw4.2
      · omega
    · rcases hw5 with hw5 | hw5
      · exact hw5.2
      · omega
    · rcases hw6 with hw6 | hw6
      · exact hw6.2
      · omega
  intro V hV
  unfold KB at hV
  rcases List.mem_cons.mp hV with rfl | hV
  · exact ne _ (nw.1)
  rcases List.mem_cons.mp hV with rfl | hV
  · exact ne _ (nw.2.1)
  rcases List.mem_cons.mp hV with rfl | hV
  · exact ne _ (nw.2.2.1)
  rcases List.mem_cons.mp hV with rfl | hV
  · exact ne _ (nw.2.2.2.1)
  rcases List.mem_cons.mp hV with rfl | hV
  · exact ne _ (hs.2.2.2.2.2.2.1)
  rcases List.mem_cons.mp hV with rfl | hV
  · exact ne _ (hs.2.2.2.2.2.2.2)
  rcases List.mem_cons.mp hV with rfl | hV
  · exact ne _ (nw.2.2.2.2.1)
  rcases List.mem_cons.mp hV with rfl | hV
  · exact ne _ (hs.1)
  rcases List.mem_cons.mp hV with rfl | hV
  · exact ne _ (hs.2.1)
  rcases List.mem_cons.mp hV with rfl | hV
  · exact ne _ (hs.2.2.1)
  rcases List.mem_cons.mp hV with rfl | hV
  · exact ne _ (hs.2.2.2.1)
  rcases List.mem_cons.mp hV with rfl | hV
  · exact ne _ (hs.2.2.2.2.1)
  rcases List.mem_cons.mp hV with rfl | hV
  · exact ne _ (hs.2.2.2.2.2.1)
  rcases List.mem_cons.mp hV with rfl | hV
  · exact ne _ (nw.2.2.2.2.2.1)
  rcases List.mem_singleton.mp hV with rfl
  exact ne _ (nw.2.2.2.2.2.2)

/-- whether the token fits a type of that sort -/
def FT_ (σ : ST) (s : Int) : Prop := (s = 0 ∧ W_ σ v_none) ∨ (s = 1 ∧ (W_ σ v_yes ∨ W_ σ v_no)) ∨ (s = 2 ∧ (σ.1 0 6).toInt = 2 ∧ (σ.1 0 10).toInt = 0 ∧ -2147483648 ≤ (σ.2.1 0 9).toInt ∧ (σ.2.1 0 9).toInt ≤ 2147483647) ∨ (s = 3 ∧ (σ.1 0 6).toInt = 2 ∧ (σ.1 0 10).toInt = 0) ∨ (s = 4 ∧ (σ.1 0 6).toInt = 2) ∨ (s = 5 ∧ (σ.1 0 6).toInt = 3) ∨ (s = 6 ∧ (σ.1 0 13).toInt = 91) ∨ (s = 7 ∧ (σ.1 0 13).toInt = 123)
def ftc (s : Int) : Nat := if s = 0 then 8 else if s = 1 then 2 else 0
theorem b_fits (p0 : Int32) (σ : ST) (h0 : 0 ≤ p0.toInt ∧ p0.toInt < 800) : OK (f_X11_fits p0 σ) (KO σ (ftc (σ.1 2 p0.toNatClampNeg).toInt) fun v => v.toInt = 0 ∧ ¬ FT_ σ (σ.1 2 p0.toNatClampNeg).toInt ∨ v.toInt = 1 ∧ FT_ σ (σ.1 2 p0.toNatClampNeg).toInt) := by
  unfold f_X11_fits f_X11_fits_75
  have lt_0 := li_0
  have lt_1 := li_1
  have lt_2 := li_2
  have lt_3 := li_3
  have lt_4 := li_4
  have lt_5 := li_5
  have lt_6 := li_6
  have lt_7 := li_7
  have l91 := li_91
  have l123 := li_123
  have lm := li_m1
  refine OK.grd h0 ?_
  generalize σ.1 2 p0.toNatClampNeg = s
  have yes : ∀ c : Nat, FT_ σ s.toInt → OK (some (((1 : Int32), σ), 0)) (KO σ c fun v => v.toInt = 0 ∧ ¬ FT_ σ s.toInt ∨ v.toInt = 1 ∧ FT_ σ s.toInt) := fun c h => OK.kret (.inr ⟨lt_1, h⟩) (Nat.zero_le _)
  have no : ∀ c : Nat, ¬ FT_ σ s.toInt → OK (some (((0 : Int32), σ), 0)) (KO σ c fun v => v.toInt = 0 ∧ ¬ FT_ σ s.toInt ∨ v.toInt = 1 ∧ FT_ σ s.toInt) := fun c h => OK.kret (.inl ⟨lt_0, h⟩) (Nat.zero_le _)
  have shift : ∀ (x c d : Nat) (o : Option ((Int32 × ST) × Nat)), OK o (KO σ c fun v => v.toInt = 0 ∧ ¬ FT_ σ s.toInt ∨ v.toInt = 1 ∧ FT_ σ s.toInt) → x + c ≤ d → OK o (fun z => KO σ d (fun v => v.toInt = 0 ∧ ¬ FT_ σ s.toInt ∨ v.toInt = 1 ∧ FT_ σ s.toInt) (z.1, x + z.2)) := fun x c d o ho hx => ho.mono (fun q hq => ⟨hq.1, hq.2.1, by have := hq.2.2; show x + q.2 ≤ d; omega⟩)
  refine OK.ieq (fun h => ?_) (fun n0 => ?_)
  · have e : s.toInt = 0 := by omega
    have ec : ftc s.toInt = 8 := by unfold ftc; rw [if_pos e]
    rw [ec]
    refine OK.bndK (b_sortHere σ) (fun v x hv hx => ?_)
    refine OK.kac (shift x 0 8 _ ?_ (by omega))
    dsimp only
    unfold SH at hv
    refine OK.ieq (fun h9 => yes 0 (.inl ⟨e, ?_⟩)) (fun h9 => no 0 (fun hf => ?_))
    · rcases hv with hv | hv | hv | hv | hv | hv | hv | hv | hv
      · exact hv.2
      · omega
      · omega
      · omega
      · omega
      · omega
      · omega
      · omega
      · omega
    · have hw : W_ σ v_none := by
        unfold FT_ at hf
        rcases hf with hf | hf | hf | hf | hf | hf | hf | hf
        · exact hf.2
        · omega
        · omega
        · omega
        · omega
        · omega
        · omega
        · omega
      have h7 := hw.2
      rcases hv with hv | hv | hv | hv | hv | hv | hv | hv | hv
      · omega
      · exact absurd (h7.symm.trans hv.2.2) (by decide)
      · exact absurd (h7.symm.trans hv.2.2) (by decide)
      · exact absurd (h7.symm.trans hv.2.2) (by decide)
      · exact absurd (h7.symm.trans hv.2.2) (by decide)
      · exact absurd (h7.symm.trans hv.2.2) (by decide)
      · exact absurd (h7.symm.trans hv.2.2) (by decide)
      · exact absurd (h7.symm.trans hv.2.2) (by decide)
      · exact hv.2.1 hw
  refine OK.ieq (fun h => ?_) (fun n1 => ?_)
  · have e : s.toInt = 1 := by omega
    have ec : ftc s.toInt = 2 := by unfold ftc; rw [if_neg (by omega), if_pos e]
    rw [ec]
    refine OK.bndK (b_isYes σ) (fun v x hv hx => ?_)
    refine OK.kac (shift x 1 2 _ ?_ (by omega))
    dsimp only
    refine OK.ieq (fun h9 => ?_) (fun h9 => yes 1 (.inr (.inl ⟨e, .inl ?_⟩)))
    rotate_left
    · rcases hv with hv | hv
      · omega
      · exact hv.2
    refine OK.bndK (b_isNo σ) (fun v2 x2 hv2 hx2 => ?_)
    refine OK.kac (shift x2 0 1 _ ?_ (by omega))
    dsimp only
    refine OK.ieq (fun h8 => no 0 (fun hf => ?_)) (fun h8 => yes 0 (.inr (.inl ⟨e, .inr ?_⟩)))
    · have hw : W_ σ v_yes ∨ W_ σ v_no := by
        unfold FT_ at hf
        rcases hf with hf | hf | hf | hf | hf | hf | hf | hf
        · omega
        · exact hf.2
        · omega
        · omega
        · omega
        · omega
        · omega
        · omega
      rcases hw with hw | hw
      · rcases hv with hv | hv
        · exact hv.2 hw
        · omega
      · rcases hv2 with hv2 | hv2
        · exact hv2.2 hw
        · omega
    · rcases hv2 with hv2 | hv2
      · omega
      · exact hv2.2
  have F : FT_ σ s.toInt ↔ (s.toInt = 2 ∧ (σ.1 0 6).toInt = 2 ∧ (σ.1 0 10).toInt = 0 ∧ -2147483648 ≤ (σ.2.1 0 9).toInt ∧ (σ.2.1 0 9).toInt ≤ 2147483647) ∨ (s.toInt = 3 ∧ (σ.1 0 6).toInt = 2 ∧ (σ.1 0 10).toInt = 0) ∨ (s.toInt = 4 ∧ (σ.1 0 6).toInt = 2) ∨ (s.toInt = 5 ∧ (σ.1 0 6).toInt = 3) ∨ (s.toInt = 6 ∧ (σ.1 0 13).toInt = 91) ∨ (s.toInt = 7 ∧ (σ.1 0 13).toInt = 123) := by
    unfold FT_
    constructor
    · intro h
      rcases h with h | h | h
      · omega
      · omega
      · exact h
    · intro h
      exact .inr (.inr h)
  refine OK.ieq (fun h => ?_) (fun n2 => ?_)
  · refine OK.ieq (fun h6 => ?_) (fun h6 => no _ (fun hf => by have := F.mp hf; omega))
    refine OK.ieq (fun h10 => ?_) (fun h10 => no _ (fun hf => by have := F.mp hf; omega))
    have l1 : (-2147483648 : Int64).toInt = -2147483648 := by decide
    have l2 : (2147483647 : Int64).toInt = 2147483647 := by decide
    refine OK.bndR (b_within _ _ _ _) (fun w hw => ?_)
    dsimp only
    exact OK.ieq (fun h9 => no _ (fun hf => by have := F.mp hf; omega)) (fun h9 => yes _ (F.mpr (by omega)))
  refine OK.ieq (fun h => ?_) (fun n3 => ?_)
  · refine OK.ieq (fun h6 => ?_) (fun h6 => no _ (fun hf => by have := F.mp hf; omega))
    exact OK.ieq (fun h10 => yes _ (F.mpr (by omega))) (fun h10 => no _ (fun hf => by have := F.mp hf; omega))
  refine OK.ieq (fun h => ?_) (fun n4 => ?_)
  · exact OK.ieq (fun h6 => yes _ (F.mpr (by omega))) (fun h6 => no _ (fun hf => by have := F.mp hf; omega))
  refine OK.ieq (fun h => ?_) (fun n5 => ?_)
  · exact OK.ieq (fun h6 => yes _ (F.mpr (by omega))) (fun h6 => no _ (fun hf => by have := F.mp hf; omega))
  refine OK.ieq (fun h => ?_) (fun n6 => ?_)
  · exact OK.ieq (fun h6 => yes _ (F.mpr (by omega))) (fun h6 => no _ (fun hf => by have := F.mp hf; omega))
  refine OK.ieq (fun h => ?_) (fun n7 => no _ (fun hf => by have := F.mp hf; omega))
  exact OK.ieq (fun h6 => yes _ (F.mpr (by omega))) (fun h6 => no _ (fun hf => by have := F.mp hf; omega))
/-- whether a literal begins -/
def LT_ (σ : ST) : Prop := W_ σ v_none ∨ W_ σ v_yes ∨ W_ σ v_no ∨ (σ.1 0 6).toInt = 2 ∨ (σ.1 0 6).toInt = 3 ∨ (σ.1 0 13).toInt = 91
theorem b_isLiteral (σ : ST) : OK (f_X11_isLiteral σ) (KO σ 10 fun v => v.toInt = 0 ∧ ¬ LT_ σ ∨ v.toInt = 1 ∧ LT_ σ) := by
  unfold f_X11_isLiteral f_X11_isLiteral_46
  have lt_0 := li_0
  have lt_1 := li_1
  have lt_2 := li_2
  have lt_3 := li_3
  have l91 := li_91
  have lm := li_m1
  have yes : ∀ c : Nat, LT_ σ → OK (some (((1 : Int32), σ), 0)) (KO σ c fun v => v.toInt = 0 ∧ ¬ LT_ σ ∨ v.toInt = 1 ∧ LT_ σ) := fun c h => OK.kret (.inr ⟨lt_1, h⟩) (Nat.zero_le _)
  have shift : ∀ (x c d : Nat) (o : Option ((Int32 × ST) × Nat)), OK o (KO σ c fun v => v.toInt = 0 ∧ ¬ LT_ σ ∨ v.toInt = 1 ∧ LT_ σ) → x + c ≤ d → OK o (fun z => KO σ d (fun v => v.toInt = 0 ∧ ¬ LT_ σ ∨ v.toInt = 1 ∧ LT_ σ) (z.1, x + z.2)) := fun x c d o ho hx => ho.mono (fun q hq => ⟨hq.1, hq.2.1, by have := hq.2.2; show x + q.2 ≤ d; omega⟩)
  refine OK.bndK (b_sortHere σ) (fun v x hv hx => ?_)
  refine OK.kac (shift x 2 10 _ ?_ (by omega))
  dsimp only
  unfold SH at hv
  refine OK.ieq (fun h => yes 2 (.inl ?_)) (fun h => ?_)
  · rcases hv with hv | hv | hv | hv | hv | hv | hv | hv | hv
    · exact hv.2
    · omega
    · omega
    · omega
    · omega
    · omega
    · omega
    · omega
    · omega
  have hnn : ¬ W_ σ v_none := fun hw => by
    have h7 := hw.2
    rcases hv with hv | hv | hv | hv | hv | hv | hv | hv | hv
    · omega
    · exact absurd (h7.symm.trans hv.2.2) (by decide)
    · exact absurd (h7.symm.trans hv.2.2) (by decide)
    · exact absurd (h7.symm.trans hv.2.2) (by decide)
    · exact absurd (h7.symm.trans hv.2.2) (by decide)
    · exact absurd (h7.symm.trans hv.2.2) (by decide)
    · exact absurd (h7.symm.trans hv.2.2) (by decide)
    · exact absurd (h7.symm.trans hv.2.2) (by decide)
    · exact hv.2.1 hw
  refine OK.bndK (b_isYes σ) (fun v2 x2 hv2 hx2 => ?_)
  refine OK.kac (shift x2 1 2 _ ?_ (by omega))
  dsimp only
  refine OK.ieq (fun h2 => ?_) (fun h2 => yes 1 (.inr (.inl ?_)))
  rotate_left
  · rcases hv2 with hv2 | hv2
    · omega
    · exact hv2.2
  refine OK.bndK (b_isNo σ) (fun v3 x3 hv3 hx3 => ?_)
  refine OK.kac (shift x3 0 1 _ ?_ (by omega))
  dsimp only
  refine OK.ieq (fun h3 => ?_) (fun h3 => yes 0 (.inr (.inr (.inl ?_))))
  rotate_left
  · rcases hv3 with hv3 | hv3
    · omega
    · exact hv3.2
  refine OK.ieq (fun h6 => yes 0 (.inr (.inr (.inr (.inl (by omega)))))) (fun h6 => ?_)
  refine OK.ieq (fun h63 => yes 0 (.inr (.inr (.inr (.inr (.inl (by omega))))))) (fun h63 => ?_)
  refine OK.ieq (fun h13 => yes 0 (.inr (.inr (.inr (.inr (.inr (by omega))))))) (fun h13 => ?_)
  refine OK.kret (.inl ⟨lt_0, fun hL => ?_⟩) (Nat.zero_le _)
  rcases hL with hL | hL | hL | hL | hL | hL
  · exact hnn hL
  · rcases hv2 with hv2 | hv2
    · exact hv2.2 hL
    · omega
  · rcases hv3 with hv3 | hv3
    · exact hv3.2 hL
    · omega
  · omega
  · omega
  · omega
theorem b_bitsOf (p0 : Int32) (σ : ST) (h0 : 0 ≤ p0.toInt ∧ p0.toInt < 800) : OK (f_X11_bitsOf p0 σ) (KO σ 1 fun _ => True) := by
  unfold f_X11_bitsOf f_X11_bitsOf_31 f_X11_bitsOf_65
  refine OK.grd h0 ?_
  refine OK.ieq (fun _ => ?_) (fun _ => ?_)
  · exact OK.ieq (fun _ => OK.bndR (b_dtl _ σ) (fun v _ => OK.kret trivial (Nat.zero_le _))) (fun _ => OK.bndR (b_dtl _ σ) (fun v _ => OK.kret trivial (Nat.zero_le _)))
  refine OK.ieq (fun _ => ?_) (fun _ => ?_)
  · refine OK.bndK (b_isYes σ) (fun v x hv hx => ?_)
    refine OK.kac ?_
    dsimp only
    exact OK.ieq (fun _ => ⟨_, rfl, rfl, trivial, hx⟩) (fun _ => ⟨_, rfl, rfl, trivial, hx⟩)
  refine OK.ieq (fun _ => OK.kret trivial (Nat.zero_le _)) (fun _ => ?_)
  exact OK.ieq (fun _ => OK.kret trivial (Nat.zero_le _)) (fun _ => OK.kret trivial (Nat.zero_le _))
/-- a mistake told -/
theorem b_wrong (p0 p1 : Int32) (σ : ST) : OK (f_X11_wrong p0 p1 σ) (RC [] [12] σ fun v _ => v.toInt = 0) := by
  unfold f_X11_wrong f_X11_wrong_21
  exact OK.ieq (fun _ => OK.cret (CH.rf.o (by decide)) li_0) (fun _ => OK.cret (CH.rf.o (by decide)) li_0)
theorem b_wrongHere (p0 : Int32) (σ : ST) : OK (f_X11_wrongHere p0 σ) (RC [] [12] σ fun v _ => v.toInt = 0) := by
  unfold f_X11_wrongHere
  refine OK.bndC (b_wrong _ _ σ) (fun v t c hv => ?_)
  dsimp only
  exact OK.grd (b01 (.inl hv)) (OK.cret c hv)
/-- how much of the text is left, the token counted -/
def uT (σ : ST) : Nat := ((σ.1 0 3).toInt - (σ.1 0 5).toInt).toNat + (if (σ.1 0 6).toInt = 0 then 0 else 1)
/-- the text is being read -/
def TX (σ : ST) : Prop := bI (σ.1 0 3) 0 1000 ∧ bI (σ.1 0 5) 0 1001 ∧ ((σ.1 0 6).toInt = 3 → 0 ≤ (σ.1 0 8).toInt ∧ (σ.1 0 8).toInt ≤ 12) ∧ (¬ (σ.1 0 13).toInt = 0 → ¬ (σ.1 0 6).toInt = 0)
theorem run_le {P : Int → Prop} {T : Nat → Int32} {n : Int} {s m : Nat} (hP : ∀ c, P c → 0 ≤ c) (h : RUN P T n s m) (h0 : 0 < m) : ((s + m : Nat) : Int) ≤ n := by
  have hl := hP _ (h.1 (m - 1) (by omega))
  have := (bt_rng (T := T) (n := n) (k := s + (m - 1))).2.2.mp hl
  omega
theorem isL_0 : ∀ c, isL c → 0 ≤ c := fun c h => by unfold isL at h; omega
theorem isD_0 : ∀ c, isD c → 0 ≤ c := fun c h => by unfold isD at h; omega
/-- what a token leaves of the text -/
theorem TB_.left {T : Nat → Int32} {n : Int} {p s : Nat} {t : ST} (hn : 0 ≤ n ∧ n ≤ 1000) (hp : p ≤ 1001) (hs : SK T n p s) (h : TB_ T n s t) : bI (t.1 0 5) 0 1001 ∧ ((t.1 0 6).toInt = 3 → 0 ≤ (t.1 0 8).toInt ∧ (t.1 0 8).toInt ≤ 12) ∧ ((t.1 0 6).toInt = 0 → n ≤ (t.1 0 5).toInt) ∧ (¬ (t.1 0 6).toInt = 0 → (p : Int) + 1 ≤ (t.1 0 5).toInt ∧ (p : Int) < n) := by
  obtain ⟨s1, s2, s3⟩ := hs
  have hsp : s = p ∨ (s : Int) ≤ n := by
    by_cases e : s = p
    · exact .inl e
    · have hb := s2 (s - 1) (by omega) (by omega)
      have := (bt_rng (T := T) (n := n) (k := s - 1)).2.2.mp (by unfold isB at hb; omega)
      exact .inr (by omega)
  have hlt := (bt_rng (T := T) (n := n) (k := s)).2.2
  obtain ⟨h4, h | h | h | h | h⟩ := h
  · have : ¬ (s : Int) < n := fun h9 => by have := hlt.mpr h9; omega
    exact ⟨⟨by omega, by omega⟩, fun h9 => by omega, fun _ => by omega, fun h9 => by omega⟩
  · obtain ⟨hL, h13, m, hR, t5, t8, t7, t6⟩ := h
    have hs0 := hlt.mp (isL_0 _ hL)
    have hm : 0 < m := by
      by_cases e : m = 0
      · rw [e] at hR
        exact absurd hL hR.2
      · omega
    have := run_le isL_0 hR hm
    exact ⟨⟨by omega, by omega⟩, fun h9 => by omega, fun h9 => by omega, fun h9 => by omega⟩
  · obtain ⟨hd, hN⟩ := h
    have hs0 : (s : Int) < n := hlt.mp (by
      rcases hd with hd | hd
      · exact isD_0 _ hd
      · omega)
    have key : ∀ (i m : Nat) (g : Prop), NB T n i m g t → (i = s ∨ i = s + 1) → isD (bt T n i) → bI (t.1 0 5) 0 1001 ∧ ((t.1 0 6).toInt = 3 → 0 ≤ (t.1 0 8).toInt ∧ (t.1 0 8).toInt ≤ 12) ∧ ((t.1 0 6).toInt = 0 → n ≤ (t.1 0 5).toInt) ∧ (¬ (t.1 0 6).toInt = 0 → (p : Int) + 1 ≤ (t.1 0 5).toInt ∧ (p : Int) < n) := fun i m g hNB hi hdi => by
      obtain ⟨hR, n13, n9, hh⟩ := hNB
      have hm : 0 < m := by
        by_cases e : m = 0
        · rw [e] at hR
          exact absurd hdi hR.2
        · omega
      have h1 := run_le isD_0 hR hm
      rcases hh with ⟨a1, a2, a3, a4, a5⟩ | ⟨a1, a2, a3, a4⟩
      · have h2 := (bt_rng (T := T) (n := n) (k := i + m + 1)).2.2.mp (isD_0 _ a2)
        exact ⟨⟨by omega, by omega⟩, fun h9 => by omega, fun h9 => by omega, fun h9 => by omega⟩
      · exact ⟨⟨by omega, by omega⟩, fun h9 => by omega, fun h9 => by omega, fun h9 => by omega⟩
    rcases hN with ⟨h45, m, hm⟩ | ⟨h45, m, hm⟩
    · refine key (s + 1) m _ hm (.inr rfl) ?_
      rcases hd with hd | hd
      · unfold isD at hd; omega
      · exact hd.2
    · refine key s m _ hm (.inl rfl) ?_
      rcases hd with hd | hd
      · exact hd
      · exact absurd hd.1 h45
  · obtain ⟨h34, h13, m, hR, t5, t8, t6⟩ := h
    have hs0 := hlt.mp (by omega)
    have h1 : ((s + 1 + m : Nat) : Int) ≤ n := by
      by_cases e : m = 0
      · omega
      · exact run_le isL_0 hR (by omega)
    exact ⟨⟨by omega, by omega⟩, fun h9 => by omega, fun h9 => by omega, fun h9 => by omega⟩
  · obtain ⟨h0, t5, t6⟩ := h
    have hs0 := hlt.mp h0.1
    exact ⟨⟨by omega, by omega⟩, fun h9 => by omega, fun h9 => by omega, fun h9 => by omega⟩
theorem TB_.sgn {T : Nat → Int32} {n : Int} {s : Nat} {t : ST} (h : TB_ T n s t) : ¬ (t.1 0 13).toInt = 0 → ¬ (t.1 0 6).toInt = 0 := by
  intro h13
  obtain ⟨h4, h | h | h | h | h⟩ := h
  · omega
  · omega
  · rcases h.2 with ⟨_, m, hm⟩ | ⟨_, m, hm⟩
    · have := hm.2.1; omega
    · have := hm.2.1; omega
  · omega
  · omega
theorem b_goT (σ : ST) (h : TX σ) : OK (f_X11_go σ) (RZ [] GI σ fun t => TX t ∧ uT t ≤ ((σ.1 0 3).toInt - (σ.1 0 5).toInt).toNat) := by
  obtain ⟨⟨n1, n2⟩, ⟨p1, p2⟩, _, _⟩ := h
  have np := nN_ p1
  refine (b_go σ (σ.1 0 5).toNatClampNeg ⟨n1, n2⟩ np.symm (by omega)).mono (fun t ht => ?_)
  obtain ⟨c, s, hs, hT⟩ := ht
  obtain ⟨a1, a2, a3, a4⟩ := hT.left ⟨n1, n2⟩ (by omega) hs
  have e3 : t.1 0 3 = σ.1 0 3 := c.2.1 3 (by decide)
  refine ⟨c, ⟨by rw [e3]; exact ⟨n1, n2⟩, a1, a2, hT.sgn⟩, ?_⟩
  unfold uT
  rw [e3]
  have a11 := a1.1
  split
  · rename_i h9
    have := a3 h9
    omega
  · rename_i h9
    have := a4 h9
    omega
theorem b_mark (p0 : Int32) (σ : ST) (h : TX σ) : OK (f_X11_mark p0 σ) (RC [] [4, 5, 6, 8, 10, 12, 13] σ fun v t => TX t ∧ (v.toInt = 0 ∧ uT t ≤ uT σ ∨ v.toInt = 1 ∧ (σ.1 0 13).toInt = p0.toInt ∧ uT t ≤ ((σ.1 0 3).toInt - (σ.1 0 5).toInt).toNat)) := by
  unfold f_X11_mark
  have lt_1 := li_1
  refine OK.ieq (fun h13 => ?_) (fun h13 => ?_)
  · refine OK.bndZ (b_goT σ h) (fun t c ht => ?_)
    exact OK.cret (c.mono (by decide) (by decide)) ⟨ht.1, .inr ⟨lt_1, h13, ht.2⟩⟩
  · refine OK.bndC (b_wrongHere _ σ) (fun v t c hv => ?_)
    dsimp only
    refine OK.grd (b01 (.inl hv)) ?_
    have e3 : t.1 0 3 = σ.1 0 3 := c.2.1 3 (by decide)
    have e5 : t.1 0 5 = σ.1 0 5 := c.2.1 5 (by decide)
    have e6 : t.1 0 6 = σ.1 0 6 := c.2.1 6 (by decide)
    have e8 : t.1 0 8 = σ.1 0 8 := c.2.1 8 (by decide)
    refine OK.cret (c.mono (by decide) (by decide)) ⟨?_, .inl ⟨hv, ?_⟩⟩
    · unfold TX
      rw [e3, e5, e6, e8, c.2.1 13 (by decide)]; exact h
    · unfold uT
      rw [e3, e5, e6]
      exact Nat.le_refl _
