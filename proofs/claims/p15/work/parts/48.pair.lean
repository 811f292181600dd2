/-! both read one text: the token goes on, the sort that a type begins with, the sorts taken -/
/-- the reference's other long numbers stay -/
def K6 (L : Nat → Nat → Int64) (s : ST) : Prop := ∀ c, c ≠ 0 → s.2.1 c = L c
theorem K6.i {L : Nat → Nat → Int64} {s : ST} {c i : Nat} {v : Int32} (h : K6 L s) : K6 L (stI s c i v) := h
theorem K6.d {L : Nat → Nat → Int64} {s : ST} {c i : Nat} {v : UInt64} (h : K6 L s) : K6 L (stD s c i v) := h
theorem K6.l {L : Nat → Nat → Int64} {s : ST} {i : Nat} {v : Int64} (h : K6 L s) : K6 L (stL s 0 i v) := fun c hc => by rw [stL_ne hc]; exact h c hc
def PZ (L : Nat → Nat → Int64) (o : Option ST) : Prop := ∀ q, o = some q → K6 L q
def PW {α : Type} (L : Nat → Nat → Int64) (o : Option (α × ST)) : Prop := ∀ q, o = some q → K6 L q.2
theorem PZ.none {L : Nat → Nat → Int64} : PZ L none := fun _ h => by cases h
theorem PW.none {α : Type} {L : Nat → Nat → Int64} : PW (α := α) L none := fun _ h => by cases h
theorem PZ.ret {L : Nat → Nat → Int64} {s : ST} (h : K6 L s) : PZ L (some s) := fun q e => by cases e; exact h
theorem PW.ret {α : Type} {L : Nat → Nat → Int64} {s : ST} {v : α} (h : K6 L s) : PW L (some (v, s)) := fun q e => by cases e; exact h
theorem PZ.ite {L : Nat → Nat → Int64} {c : Prop} {i : Decidable c} {x y : Option ST} (h1 : PZ L x) (h2 : PZ L y) : PZ L (@_root_.ite (Option ST) c i x y) := by
  by_cases h : c
  · rw [if_pos h]; exact h1
  · rw [if_neg h]; exact h2
theorem PW.ite {α : Type} {L : Nat → Nat → Int64} {c : Prop} {i : Decidable c} {x y : Option (α × ST)} (h1 : PW L x) (h2 : PW L y) : PW L (@_root_.ite (Option (α × ST)) c i x y) := by
  by_cases h : c
  · rw [if_pos h]; exact h1
  · rw [if_neg h]; exact h2
theorem PZ.bnd {L : Nat → Nat → Int64} {o : Option ST} {f : ST → Option ST} (h : PZ L o) (k : ∀ q, K6 L q → PZ L (f q)) : PZ L (o.bind f) := by
  cases o with
  | none => exact PZ.none
  | some q => exact k q (h q rfl)
theorem PZ.bndW {α : Type} {L : Nat → Nat → Int64} {o : Option (α × ST)} {f : α × ST → Option ST} (h : PW L o) (k : ∀ q, K6 L q.2 → PZ L (f q)) : PZ L (o.bind f) := by
  cases o with
  | none => exact PZ.none
  | some q => exact k q (h q rfl)
theorem PW.bndW {α β : Type} {L : Nat → Nat → Int64} {o : Option (α × ST)} {f : α × ST → Option (β × ST)} (h : PW L o) (k : ∀ q, K6 L q.2 → PW L (f q)) : PW L (o.bind f) := by
  cases o with
  | none => exact PW.none
  | some q => exact k q (h q rfl)
theorem k6_byteAt {L : Nat → Nat → Int64} (p0 : Int32) (σ : ST) (h : K6 L σ) : PW L (f_X11_byteAt p0 σ) := by
  unfold f_X11_byteAt
  exact PW.ite (PW.ret h) (PW.ite (PW.ret h) PW.none)
theorem k6_within {L : Nat → Nat → Int64} (p0 p1 p2 : Int64) (σ : ST) (h : K6 L σ) : PW L (f_X11_within p0 p1 p2 σ) := by
  unfold f_X11_within
  exact PW.ite (PW.ret h) (PW.ite (PW.ret h) (PW.ret h))
theorem k6_isDigit {L : Nat → Nat → Int64} (p0 : Int32) (σ : ST) (h : K6 L σ) : PW L (f_X11_isDigit p0 σ) := by
  unfold f_X11_isDigit
  exact PW.bndW (k6_within _ _ _ σ h) (fun q hq => PW.ite (PW.ret hq) PW.none)
theorem k6_isLetter {L : Nat → Nat → Int64} (p0 : Int32) (σ : ST) (h : K6 L σ) : PW L (f_X11_isLetter p0 σ) := by
  unfold f_X11_isLetter
  exact PW.bndW (k6_within _ _ _ σ h) (fun q hq => PW.ite (PW.ret hq) PW.none)
theorem k6_isSign {L : Nat → Nat → Int64} (p0 : Int32) (σ : ST) (h : K6 L σ) : PW L (f_X11_isSign p0 σ) := by
  unfold f_X11_isSign f_X11_isSign_36
  exact PW.ite (PW.ret h) (PW.ite (PW.ret h) (PW.ite (PW.ret h) (PW.ite (PW.ret h) (PW.ite (PW.ret h) (PW.ite (PW.ret h) (PW.ret h))))))
theorem k6_n262 {L : Nat → Nat → Int64} (x1 x3 : Int32) (σ : ST) (h : K6 L σ) : PZ L (f_X11_number_262 x1 x3 σ) := by
  unfold f_X11_number_262 f_X11_number_279 f_X11_number_292
  exact PZ.ite (PZ.ite (PZ.ret h.l.i) (PZ.ret h.l.i)) (PZ.ite (PZ.ret h.l.i) (PZ.ret h.l.i))
theorem k6_n225 {L : Nat → Nat → Int64} (x1 x3 : Int32) (y0 : UInt64) (σ : ST) (h : K6 L σ) : PZ L (f_X11_number_225 x1 x3 y0 σ) := by
  unfold f_X11_number_225 f_X11_number_260 f_X11_number_261
  exact PZ.ite (k6_n262 _ _ _ h) (PZ.bndW (k6_byteAt _ _ h) (fun q hq => PZ.bndW (k6_isDigit _ _ hq) (fun w hw => PZ.ite (k6_n262 _ _ _ hw) (k6_n262 _ _ _ hw))))
theorem k6_n170 {L : Nat → Nat → Int64} (x1 x3 y0 : Int32) (σ : ST) (h : K6 L σ) : PZ L (f_X11_number_170 x1 x3 y0 σ) := by
  unfold f_X11_number_170
  refine PZ.ite (PZ.ite (k6_n262 _ _ _ h) (PZ.bndW (k6_byteAt _ _ h) (fun q hq => PZ.ite (PZ.ite (PZ.bnd (PZ.ret hq.d) (fun z hz => PZ.ite (k6_n225 _ _ _ _ hz) (k6_n225 _ _ _ _ hz))) PZ.none) PZ.none))) PZ.none
theorem k6_n134 {L : Nat → Nat → Int64} (x1 y0 : Int32) (σ : ST) (h : K6 L σ) : PZ L (f_X11_number_134 x1 y0 σ) := by
  unfold f_X11_number_134 f_X11_number_169
  exact PZ.bndW (k6_byteAt _ _ h) (fun q hq => PZ.ite (PZ.bndW (k6_byteAt _ _ hq) (fun w hw => PZ.bndW (k6_isDigit _ _ hw) (fun v hv => PZ.ite (k6_n170 _ _ _ _ hv) (k6_n170 _ _ _ _ hv)))) (k6_n170 _ _ _ _ hq))
theorem k6_n47 {L : Nat → Nat → Int64} : ∀ (n : Nat) (x1 x2 : Int32) (σ : ST), K6 L σ → PZ L (f_X11_number_47 n x1 x2 σ) := by
  intro n
  induction n with
  | zero => intro x1 x2 σ h; exact PZ.none
  | succ n ih =>
    intro x1 x2 σ h
    rw [f_X11_number_47]
    unfold f_X11_number_102
    exact PZ.bndW (k6_byteAt _ _ h) (fun q hq => PZ.bndW (k6_isDigit _ _ hq) (fun w hw => PZ.ite (PZ.ite (k6_n134 _ _ _ hw) (k6_n134 _ _ _ hw)) (PZ.ite (ih _ _ _ hw.l.i) (PZ.bndW (k6_byteAt _ _ hw) (fun v hv => ih _ _ _ hv.l.i)))))
theorem k6_number {L : Nat → Nat → Int64} (σ : ST) (h : K6 L σ) : PZ L (f_X11_number σ) := by
  unfold f_X11_number f_X11_number_18 f_X11_number_33
  exact PZ.bndW (k6_byteAt _ _ h) (fun q hq => PZ.ite (PZ.ite (k6_n47 _ _ _ _ (K6.l (K6.i hq))) (k6_n47 _ _ _ _ (K6.l (K6.i hq)))) (PZ.ite (k6_n47 _ _ _ _ (K6.l (K6.i hq))) (k6_n47 _ _ _ _ (K6.l (K6.i hq)))))
theorem k6_word_10 {L : Nat → Nat → Int64} : ∀ (n : Nat) (x1 : Int32) (σ : ST), K6 L σ → PZ L (f_X11_word_10 n x1 σ) := by
  intro n
  induction n with
  | zero => intro x1 σ h; exact PZ.none
  | succ n ih =>
    intro x1 σ h
    rw [f_X11_word_10]
    unfold f_X11_word_62
    exact PZ.bndW (k6_byteAt _ _ h) (fun q hq => PZ.bndW (k6_isLetter _ _ hq) (fun w hw => PZ.ite (PZ.ret hw) (PZ.ite (PZ.bnd (PZ.ret hw.l.i.i) (fun z hz => ih _ _ hz)) (PZ.bndW (k6_byteAt _ _ hw) (fun v hv => PZ.bnd (PZ.ret hv.l.i.i) (fun z hz => ih _ _ hz))))))
theorem k6_word {L : Nat → Nat → Int64} (p0 : Int32) (σ : ST) (h : K6 L σ) : PZ L (f_X11_word p0 σ) := by
  unfold f_X11_word
  exact k6_word_10 _ _ _ h.l.i
theorem k6_quoted {L : Nat → Nat → Int64} (σ : ST) (h : K6 L σ) : PZ L (f_X11_quoted σ) := by
  unfold f_X11_quoted f_X11_quoted_42 f_X11_quoted_43 f_X11_quoted_64
  have z : ∀ (y0 : Int32) (s : ST), K6 L s → PZ L (if y0 = 0 then some (stI (stI s 0 5 (s.1 0 5 + 1)) 0 6 5) else some (stI (stI s 0 5 (s.1 0 5 + 1)) 0 6 3)) := fun y0 s hs => PZ.ite (PZ.ret hs.i.i) (PZ.ret hs.i.i)
  exact PZ.bnd (k6_word _ _ h.i) (fun q hq => PZ.ite (z 0 q hq) (PZ.bndW (k6_byteAt _ _ hq) (fun w hw => PZ.ite (z 1 _ hw) (z 0 _ hw))))
theorem k6_go_143 {L : Nat → Nat → Int64} (x1 : Int32) (σ : ST) (h : K6 L σ) : PZ L (f_X11_go_143 x1 σ) := by
  unfold f_X11_go_143 f_X11_go_169 f_X11_go_185
  exact PZ.ite (PZ.bnd (k6_quoted _ h) (fun q hq => PZ.ret hq)) (PZ.bndW (k6_isSign _ _ h) (fun q hq => PZ.ite (PZ.ite (PZ.ret hq.i.i.i) (PZ.ret hq.i.i.i)) (PZ.ite (PZ.ret hq.i.i.i) (PZ.ret hq.i.i.i))))
theorem k6_go_0 {L : Nat → Nat → Int64} : ∀ (n : Nat) (σ : ST), K6 L σ → PZ L (f_X11_go_0 n σ) := by
  intro n
  induction n with
  | zero => intro σ h; exact PZ.none
  | succ n ih =>
    intro σ h
    rw [f_X11_go_0]
    unfold f_X11_go_26 f_X11_go_136 f_X11_go_101
    refine PZ.bndW (k6_byteAt _ _ h) (fun q hq => PZ.ite (ih _ hq.i) (PZ.bndW (k6_byteAt _ _ hq) (fun q3 h3 => PZ.ite (ih _ h3.i) (PZ.bndW (k6_byteAt _ _ h3.i) (fun q5 h5 => PZ.ite ?_ ?_)))))
    · refine PZ.bndW (k6_isLetter _ _ h5.i) (fun q7 h7 => PZ.ite ?_ ?_)
      · refine PZ.bndW (k6_isDigit _ _ h7) (fun q9 h9 => PZ.ite (PZ.ite ?_ (k6_go_143 _ _ h9)) (PZ.bnd (k6_number _ h9) (fun z hz => PZ.ret hz)))
        exact PZ.bndW (k6_byteAt _ _ h9) (fun q11 h11 => PZ.bndW (k6_isDigit _ _ h11) (fun q13 h13 => PZ.ite (k6_go_143 _ _ h13) (PZ.bnd (k6_number _ h13) (fun z hz => PZ.ret hz))))
      · exact PZ.bnd (k6_word _ _ h7) (fun z hz => PZ.ite (PZ.ret hz.i) (PZ.ret hz.i))
    · exact PZ.ret h5.i.i
theorem k6_go (σ : ST) : PZ σ.2.1 (f_X11_go σ) := by
  unfold f_X11_go
  exact k6_go_0 _ _ (fun _ _ => rfl)
/-- a word's token -/
theorem TB_.word {T : Nat → Int32} {n : Int} {s : Nat} {t : ST} (h : TB_ T n s t) (h1 : (t.1 0 6).toInt = 1) : isL (bt T n s) ∧ ∃ m, RUN isL T n s m ∧ (t.1 0 5).toInt = s + m ∧ (1 ≤ m ∧ m ≤ 8) ∧ t.2.1 0 7 = w27 T s m := by
  obtain ⟨h4, h | h | h | h | h⟩ := h
  · omega
  · obtain ⟨hL, h13, m, hR, h5, h8, h7, h6⟩ := h
    have hm : m ≤ 8 := by omega
    have e8 : min m 8 = m := by omega
    rw [e8] at h7
    refine ⟨hL, m, hR, h5, ⟨?_, hm⟩, h7⟩
    by_cases e : m = 0
    · have h9 := hR.2
      rw [e] at h9
      exact absurd hL h9
    · omega
  · rcases h.2 with ⟨_, m, hm⟩ | ⟨_, m, hm⟩
    · have := hm.2.2.2; omega
    · have := hm.2.2.2; omega
  · obtain ⟨_, _, m, _, _, _, h6⟩ := h
    omega
  · omega
/-- how long a word is that means something -/
theorem TB_.len {T : Nat → Int32} {n : Int} {s k : Nat} {t : ST} (h : TB_ T n s t) (h1 : (t.1 0 6).toInt = 1) (hk : k < 15) (h7 : t.2.1 0 7 = kwV k) : (t.1 0 5).toInt = (t.1 0 4).toInt + (kwM k : Int) := by
  have h4 := h.1
  obtain ⟨hL, m, hR, h5, hm, hw⟩ := h.word h1
  have e1 := w27_n m hm.2 hR.1
  have e2 := kw_B k hk
  rw [← hw, h7] at e1
  obtain ⟨a, _⟩ := n27_inj m (kwM k) (gT T s) (kwG k) (gT_L hR.1).1 (kw_G k hk).2 (by omega)
  omega
/-- both are at one token of one text -/
def LX (σ τ : ST) : Prop := (σ.1 1 = τ.1 1 ∧ σ.1 2 2 = τ.1 0 3 ∧ (∀ i, bI (τ.1 1 i) (-128) 127) ∧ σ.2.1 3 = kw0) ∧ bI (τ.1 0 3) 0 1000 ∧ TK σ τ ∧ ∃ p s : Nat, p ≤ 1001 ∧ SK (τ.1 1) (τ.1 0 3).toInt p s ∧ TB_ (τ.1 1) (τ.1 0 3).toInt s τ
theorem LX.tx {σ τ : ST} (h : LX σ τ) : TX τ := by
  obtain ⟨_, hn, _, p, s, hp, hs, hT⟩ := h
  obtain ⟨a1, a2, a3, a4⟩ := hT.left hn hp hs
  exact ⟨hn, a1, a2, hT.sgn⟩
theorem LX.tb {σ τ : ST} (h : LX σ τ) : ∃ s : Nat, (τ.1 0 4).toInt = s ∧ TB_ (τ.1 1) (τ.1 0 3).toInt s τ := by
  obtain ⟨_, hn, _, p, s, hp, hs, hT⟩ := h
  exact ⟨s, hT.1, hT⟩
/-- both go on -/
theorem ab_go (σ τ : ST) (h : LX σ τ) (hg : σ.1 2 3 = τ.1 0 5) : OK (f_X6_advance σ) (fun a => OK (f_X11_go τ) (fun b => CA σ a ∧ CH [] GI τ b ∧ (∀ c, c ≠ 0 → b.2.1 c = τ.2.1 c) ∧ LX a b ∧ (τ.1 0 5).toInt ≤ (b.1 0 4).toInt ∧ ((τ.1 0 6).toInt = 1 → (b.1 0 6).toInt = 1 → (τ.1 0 5).toInt < (b.1 0 4).toInt) ∧ uT b ≤ ((τ.1 0 3).toInt - (τ.1 0 5).toInt).toNat)) := by
  have htx := h.tx
  obtain ⟨⟨hT, hn, h8, hk⟩, hn2, hTK, p0, s0, hp0, hs0, hT0⟩ := h
  obtain ⟨_, ⟨p1, p2⟩, _, _⟩ := htx
  have np := nN_ p1
  have h8' : ∀ i, bI (σ.1 1 i) (-128) 127 := by rw [hT]; exact h8
  have hn3 : bI (σ.1 2 2) 0 1000 := by rw [hn]; exact hn2
  refine (a_advance σ (τ.1 0 5).toNatClampNeg h8' hn3 (by rw [hg]; exact np.symm) (by omega)).mono (fun a ha => ?_)
  obtain ⟨ca, s, hs, hA⟩ := ha
  rw [hT, hn] at hs hA
  obtain ⟨b, eb, cb, u, hu, hB⟩ := b_go τ (τ.1 0 5).toNatClampNeg hn2 np.symm (by omega)
  refine ⟨b, eb, ca, cb, fun c hc => k6_go τ b eb c hc, ?_, ?_, ?_, ?_⟩
  · have e := hs.uniq hu
    subst e
    have b1 : b.1 1 = τ.1 1 := cb.1 1 (by decide) (by decide)
    have b3 : b.1 0 3 = τ.1 0 3 := cb.2.1 3 (by decide)
    have a3 : a.2.1 3 = kw0 := (ca.2.2.1 3 (by decide)).trans hk
    refine ⟨⟨?_, ?_, by rw [b1]; exact h8, a3⟩, by rw [b3]; exact hn2, TK.mk h8 a3 b1 (by rw [b3]) hA hB, (τ.1 0 5).toNatClampNeg, s, by omega, by rw [b1, b3]; exact hs, by rw [b1, b3]; exact hB⟩
    · rw [ca.1 1 (by decide), hT, b1]
    · rw [ca.2.1, hn, b3]
  · have := hB.1
    have := hu.1
    omega
  · intro w1 w2
    have e4 := hB.1
    have e5 := hu.1
    obtain ⟨_, m, hR, h5, _, _⟩ := hT0.word w1
    obtain ⟨hL, _⟩ := hB.word w2
    by_cases e : u = s0 + m
    · rw [e] at hL
      exact absurd hL hR.2
    · omega
  · obtain ⟨a1, a2, a3, a4⟩ := hB.left hn2 (by omega) hu
    have e3 : b.1 0 3 = τ.1 0 3 := cb.2.1 3 (by decide)
    unfold uT
    rw [e3]
    have a11 := a1.1
    split
    · rename_i h9
      have := a3 h9
      omega
    · rename_i h9
      have := a4 h9
      omega
/-- the sort that a type begins with here -/
def sk (k : Nat) : Int := if k = 4 then 6 else if k = 5 then 8 else if 7 ≤ k ∧ k ≤ 12 then (k : Int) - 7 else -1
def SV (σ : ST) : Int := if (σ.1 2 4).toInt = 3 then 7 else if (σ.1 2 4).toInt = 2 then sk (σ.1 2 6).toNatClampNeg else -1
theorem sk_4 : sk 4 = 6 := by decide
theorem sk_5 : sk 5 = 8 := by decide
theorem sk_s {k : Nat} (h : 7 ≤ k ∧ k ≤ 12) : sk k = (k : Int) - 7 := by
  unfold sk
  rw [if_neg (by omega), if_neg (by omega), if_pos h]
theorem sk_n {k : Nat} (h : ¬ k = 4 ∧ ¬ k = 5 ∧ ¬ (7 ≤ k ∧ k ≤ 12)) : sk k = -1 := by
  unfold sk
  rw [if_neg h.1, if_neg h.2.1, if_neg h.2.2]
theorem sv_3 {σ : ST} (h : (σ.1 2 4).toInt = 3) : SV σ = 7 := by
  unfold SV
  rw [if_pos h]
theorem sv_2 {σ : ST} {k : Nat} (h : (σ.1 2 4).toInt = 2) (e : (σ.1 2 6).toInt = k) : SV σ = sk k := by
  unfold SV
  rw [if_neg (by omega), if_pos h, nC e]
theorem sv_n {σ : ST} (h3 : ¬ (σ.1 2 4).toInt = 3) (h2 : ¬ (σ.1 2 4).toInt = 2) : SV σ = -1 := by
  unfold SV
  rw [if_neg h3, if_neg h2]
theorem a_sortBegun (σ τ : ST) (h : TK σ τ) : OK (f_X6_sortBegun σ) (RO σ fun v => v.toInt = SV σ) := by
  unfold f_X6_sortBegun
  have lm := li_m1
  have l2 := li_2
  have l3 := li_3
  have l4 := li_4
  have l5 := li_5
  have l6 := li_6
  have l7 := li_7
  have l8 := li_8
  have l12 := li_12
  refine OK.ieq (fun h3 => OK.roret (by rw [sv_3 (by omega)]; exact l7)) (fun h3 => ?_)
  refine OK.ieq (fun h2 => ?_) (fun h2 => OK.roret (by rw [sv_n (by omega) (by omega)]; exact lm))
  have hk : ∃ k : Nat, k < 15 ∧ (σ.1 2 6).toInt = k := by
    obtain ⟨_, h | h | h | h | h | h⟩ := h
    · omega
    · omega
    · rcases h.2.2.2.2 with ⟨_, k, a, b, _⟩ | ⟨a, _⟩
      · exact ⟨k, a, b⟩
      · omega
    · omega
    · omega
    · omega
  obtain ⟨k, hk, ek⟩ := hk
  rw [sv_2 (by omega) ek]
  refine OK.ieq (fun h => OK.roret ?_) (fun h => ?_)
  · have e : k = 4 := by omega
    rw [e, sk_4]; exact l6
  refine OK.ieq (fun h => OK.roret ?_) (fun h => ?_)
  · have e : k = 5 := by omega
    rw [e, sk_5]; exact l8
  refine OK.ilt (fun h => OK.roret (by rw [sk_n (by omega)]; exact lm)) (fun h => ?_)
  refine OK.ilt (fun h => OK.roret (by rw [sk_n (by omega)]; exact lm)) (fun h => ?_)
  have e := il_subE (x := σ.1 2 6) (y := 7) (by omega) (by omega)
  exact OK.roret (by rw [sk_s (by omega)]; omega)
theorem sh_kw {τ : ST} {k : Nat} {v : Int32} (h1 : (τ.1 0 6).toInt = 1) (hk : k < 15) (h7 : τ.2.1 0 7 = kwV k) (h : SH τ v) : v.toInt = sk k := by
  have w : ∀ j, j < 15 → W_ τ (kwV j) → k = j := fun j hj hw => kw_ne k hk j hj (by rw [← h7]; exact hw.2)
  have y : ∀ j, j < 15 → ¬ W_ τ (kwV j) → ¬ k = j := fun j hj hw e => hw ⟨h1, by rw [h7, e]⟩
  unfold SH at h
  rcases h with h | h | h | h | h | h | h | h | h
  · rw [w 7 (by omega) h.2]; exact h.1
  · rw [w 8 (by omega) h.2]; exact h.1
  · rw [w 9 (by omega) h.2]; exact h.1
  · rw [w 10 (by omega) h.2]; exact h.1
  · rw [w 11 (by omega) h.2]; exact h.1
  · rw [w 12 (by omega) h.2]; exact h.1
  · rw [w 4 (by omega) h.2]; exact h.1
  · rw [w 5 (by omega) h.2]; exact h.1
  · obtain ⟨hv, n0, n1, n2, n3, n4, n5, n6, n8⟩ := h
    have a0 := y 7 (by omega) n0
    have a1 := y 8 (by omega) n1
    have a2 := y 9 (by omega) n2
    have a3 := y 10 (by omega) n3
    have a4 := y 11 (by omega) n4
    have a5 := y 12 (by omega) n5
    have a6 := y 4 (by omega) n6
    have a8 := y 5 (by omega) n8
    unfold sk
    rw [if_neg (by omega), if_neg (by omega), if_neg (by omega)]
    exact hv
theorem sh_no {τ : ST} {v : Int32} (h1 : ∀ j, j < 15 → ¬ W_ τ (kwV j)) (h : SH τ v) : v.toInt = -1 := by
  unfold SH at h
  rcases h with h | h | h | h | h | h | h | h | h
  · exact absurd h.2 (h1 7 (by omega))
  · exact absurd h.2 (h1 8 (by omega))
  · exact absurd h.2 (h1 9 (by omega))
  · exact absurd h.2 (h1 10 (by omega))
  · exact absurd h.2 (h1 11 (by omega))
  · exact absurd h.2 (h1 12 (by omega))
  · exact absurd h.2 (h1 4 (by omega))
  · exact absurd h.2 (h1 5 (by omega))
  · exact h.1
/-- the reference's word is the class's -/
theorem TK.kw {σ τ : ST} (h : TK σ τ) {k : Nat} (hk : k < 15) : W_ τ (kwV k) ↔ (σ.1 2 4).toInt = 2 ∧ (σ.1 2 6).toInt = k := by
  obtain ⟨_, h | h | h | h | h | h⟩ := h
  · exact ⟨fun w => by have := w.1; omega, fun w => by omega⟩
  · exact ⟨fun w => by have := w.1; omega, fun w => by omega⟩
  · obtain ⟨h6, _, _, _, h⟩ := h
    rcases h with ⟨a, j, hj, b, c⟩ | ⟨a, c⟩
    · refine ⟨fun w => ⟨a, ?_⟩, fun w => ⟨h6, ?_⟩⟩
      · have := kw_ne j hj k hk (by rw [← c]; exact w.2)
        omega
      · have e : j = k := by omega
        rw [c, e]
    · exact ⟨fun w => absurd c (NM.no (kwV_mem k hk) w), fun w => by omega⟩
  · exact ⟨fun w => by have := w.1; omega, fun w => by omega⟩
  · exact ⟨fun w => by have := w.1; omega, fun w => by omega⟩
  · exact ⟨fun w => by have := w.1; omega, fun w => by omega⟩
theorem TK.nm {σ τ : ST} (h : TK σ τ) : NM τ ↔ (σ.1 2 4).toInt = 3 := by
  obtain ⟨_, h | h | h | h | h | h⟩ := h
  · exact ⟨fun w => by have := w.1; omega, fun w => by omega⟩
  · exact ⟨fun w => by have := w.1; omega, fun w => by omega⟩
  · obtain ⟨h6, _, _, _, h⟩ := h
    rcases h with ⟨a, j, hj, b, c⟩ | ⟨a, c⟩
    · exact ⟨fun w => absurd c (w.2 _ (kwV_mem j hj)), fun w => by omega⟩
    · exact ⟨fun _ => a, fun _ => c⟩
  · exact ⟨fun w => by have := w.1; omega, fun w => by omega⟩
  · exact ⟨fun w => by have := w.1; omega, fun w => by omega⟩
  · exact ⟨fun w => by have := w.1; omega, fun w => by omega⟩
/-- the class asks for a word -/
theorem a_isKeyword (p0 : Int32) (σ τ : ST) (h : TK σ τ) {k : Nat} (hk : k < 15) (e : p0.toInt = k) : OK (f_X6_isKeyword p0 σ) (RO σ fun v => v.toInt = 0 ∧ ¬ W_ τ (kwV k) ∨ v.toInt = 1 ∧ W_ τ (kwV k)) := by
  unfold f_X6_isKeyword
  have l0 := li_0
  have l1 := li_1
  have l2 := li_2
  rw [h.kw hk]
  refine OK.ieq (fun h2 => OK.ieq (fun h6 => OK.roret (.inr ⟨l1, by omega, by omega⟩)) (fun h6 => OK.roret (.inl ⟨l0, fun h9 => by omega⟩))) (fun h2 => OK.roret (.inl ⟨l0, fun h9 => by omega⟩))
/-- the reference asks for a name, then for a sort -/
theorem sv_sh {σ τ : ST} (h : TK σ τ) {v : Int32} (hn : ¬ NM τ) (hv : SH τ v) : v.toInt = SV σ := by
  have h3 : ¬ (σ.1 2 4).toInt = 3 := fun e => hn (h.nm.mpr e)
  unfold SV
  rw [if_neg h3]
  by_cases h2 : (σ.1 2 4).toInt = 2
  · rw [if_pos h2]
    have h' := h
    obtain ⟨_, h | h | h | h | h | h⟩ := h
    · omega
    · omega
    · obtain ⟨h6, _, _, _, h⟩ := h
      rcases h with ⟨a, j, hj, b, c⟩ | ⟨a, c⟩
      · rw [nC b]
        exact sh_kw h6 hj c hv
      · omega
    · omega
    · omega
    · omega
  · rw [if_neg h2]
    exact sh_no (fun j hj w => h2 ((h.kw hj).mp w).1) hv
theorem sv_nm {σ τ : ST} (h : TK σ τ) (hn : NM τ) : SV σ = 7 := by
  unfold SV
  rw [if_pos (h.nm.mp hn)]
/-- the sorts taken, as bits -/
def pc (w : Nat) : Nat := (List.range 9).countP (fun i => w.testBit i)
def s00 : ST := (fun _ _ => 0, fun _ _ => 0, fun _ _ => 0, fun _ => 0)
theorem mk_cnt : ∀ w : Nat, w < 512 → (f_J6_bitCount_0f7a4 (Int32.ofNat w) s00).map (fun q => q.1.toInt) = some (pc w : Int) := by decide +kernel
theorem mk_c2 (p : Int32) (σ : ST) : f_J6_bitCount_0f7a4 p σ = (f_J6_bitCount_0f7a4 p s00).map (fun q => (q.1, σ)) := rfl
theorem a_bitCount (w : Nat) (σ : ST) (hw : w < 512) : OK (f_J6_bitCount_0f7a4 (Int32.ofNat w) σ) (RO σ fun v => v.toInt = (pc w : Int)) := by
  have h := mk_cnt w hw
  rw [mk_c2]
  cases e : f_J6_bitCount_0f7a4 (Int32.ofNat w) s00 with
  | none => rw [e] at h; cases h
  | some q =>
    rw [e] at h
    have h : some q.1.toInt = some (pc w : Int) := h
    exact ⟨_, rfl, rfl, Option.some.inj h⟩
theorem mk_bit : ∀ w : Nat, w < 512 → ∀ s : Nat, s < 9 → (((Int32.ofNat w) >>> ((Int32.ofNat s) &&& 31)) &&& 1).toInt = (if w.testBit s then 1 else 0) := by decide +kernel
theorem mk_or : ∀ w : Nat, w < 512 → ∀ s : Nat, s < 9 → w.testBit s = false → ((Int32.ofNat w) ||| (1 <<< ((Int32.ofNat s) &&& 31))) = Int32.ofNat (w + 2 ^ s) ∧ w + 2 ^ s < 512 ∧ pc (w + 2 ^ s) = pc w + 1 ∧ ∀ j : Nat, j < 9 → (w + 2 ^ s).testBit j = (w.testBit j || j == s) := by decide +kernel
