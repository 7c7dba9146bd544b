/-! ===== what holds between the class's memory and the reference's ===== -/
/-- one order, step s of the reference, item i of the class; c cells -/
def SI (c : Nat) (ω : Nat → Nat → Int32) (σ : Nat → Int32) (s i : Nat) : Prop :=
  (σ (2 + 9 * s) = 0 ∧ ω 1 i = 13 ∧ ∃ v, v ≤ 4 ∧ ω 2 i = nI v ∧ σ (3 + 9 * s) = nI v) ∨
  (σ (2 + 9 * s) = 1 ∧ ω 1 i = 17 ∧ ∃ v, 1 ≤ v ∧ v ≤ 24 ∧ ω 2 i = nI v ∧ σ (3 + 9 * s) = nI v) ∨
  (σ (2 + 9 * s) = 2 ∧ ω 1 i = 18 ∧ ∃ k, k < c ∧ ω 3 i = nI k ∧ σ (3 + 9 * s) = nI k) ∨
  (σ (2 + 9 * s) = 3 ∧ ω 1 i = 19 ∧ ∃ k, k < c ∧ ω 3 i = nI k ∧ σ (3 + 9 * s) = nI k) ∨
  (σ (2 + 9 * s) = 4 ∧ ω 1 i = 20) ∨
  (σ (2 + 9 * s) = 7 ∧ ω 1 i = 27)
def SB (c : Nat) (ω : Nat → Nat → Int32) (σ : Nat → Int32) (s i : Nat) : Prop :=
  (σ (2 + 9 * s) = 6 ∧ ω 1 i = 25 ∧ ∃ v, 1 ≤ v ∧ v ≤ 99 ∧ ω 2 i = nI v ∧ σ (3 + 9 * s) = nI v) ∨
  (σ (2 + 9 * s) = 5 ∧ σ (7 + 9 * s) = 0 ∧ ω 1 i = 22 ∧ ω 2 i = σ (8 + 9 * s) ∧ ω 4 i = σ (9 + 9 * s)) ∨
  (σ (2 + 9 * s) = 5 ∧ σ (7 + 9 * s) = 1 ∧ ω 1 i = 23 ∧ ω 2 i = σ (8 + 9 * s) ∧ ω 4 i = σ (9 + 9 * s) ∧ ∃ k, k < c ∧ ω 3 i = nI k ∧ σ (3 + 9 * s) = nI k) ∨
  (σ (2 + 9 * s) = 5 ∧ σ (7 + 9 * s) = 2 ∧ ω 1 i = 24)
/-- steps s .. t are items i .. j -/
def SQ (c : Nat) (ω : Nat → Nat → Int32) (σ : Nat → Int32) : Nat → Nat → Nat → Nat → Nat → Nat → Prop
  | 0, _, s, t, i, j => s = t ∧ i = j
  | d + 1, h, s, t, i, j => (s = t ∧ i = j) ∨ (s < t ∧ i < j ∧ ∃ s' i', s < s' ∧ s' ≤ t ∧ i < i' ∧ i' ≤ j ∧ σ (10 + 9 * s) = nI s' ∧ SQ c ω σ d h s' t i' j ∧ ((SI c ω σ s i ∧ s' = s + 1 ∧ i' = i + 1) ∨ (SB c ω σ s i ∧ 1 ≤ h ∧ ∃ e, i < e ∧ i' = e + 1 ∧ ω 1 e = 26 ∧ ω 5 e = nI i ∧ ω 5 i = nI e ∧ SQ c ω σ d (h - 1) (s + 1) s' (i + 1) e)))
def NRel (c : Nat) (ω : Nat → Nat → Int32) (σ : Nat → Int32) : Prop := (ω 0 0 = 0 ∧ σ 0 = 0) ∨ (ω 0 0 = 1 ∧ σ 0 = 1 ∧ ∃ S it d, S ≤ 30 ∧ it ≤ 60 ∧ σ 1 = nI S ∧ ω 0 2 = nI it ∧ SQ c ω σ d 3 0 S 0 it)
abbrev PG (μ : Mm) (b N m : Nat) (β : Nat → Nat) (nm : Nat → Int64) (ω : Nat → Nat → Int32) (σ : Nat → Int32) : Prop := (BX μ b β) ∧ (∀ k, k < 128 → mA μ 146 (400 * m + k) = nI (β k)) ∧ (WF β) ∧ (β 5 ≤ 9999) ∧ (∀ a, a < β 0 → mL μ (b + 7) a = nm a) ∧ (∀ a, a < β 0 → mL μ 149 (5 * m + a) = nm a) ∧ (∀ k, k < 3 → mI μ N k = ω 0 k) ∧ (∀ j, 1 ≤ j → j ≤ 5 → ∀ k, k < 60 → mA μ (N + j) k = ω j k) ∧ (∀ k, k < 272 → mA μ 146 (400 * m + (128 + k)) = σ k) ∧ (NRel (cl β) ω σ)
theorem PG.bx {μ : Mm} {b N m : Nat} {β : Nat → Nat} {nm : Nat → Int64} {ω : Nat → Nat → Int32} {σ : Nat → Int32} (h : PG μ b N m β nm ω σ) : BX μ b β := h.1
theorem PG.cb {μ : Mm} {b N m : Nat} {β : Nat → Nat} {nm : Nat → Int64} {ω : Nat → Nat → Int32} {σ : Nat → Int32} (h : PG μ b N m β nm ω σ) : ∀ k, k < 128 → mA μ 146 (400 * m + k) = nI (β k) := h.2.1
theorem PG.wf {μ : Mm} {b N m : Nat} {β : Nat → Nat} {nm : Nat → Int64} {ω : Nat → Nat → Int32} {σ : Nat → Int32} (h : PG μ b N m β nm ω σ) : WF β := h.2.2.1
theorem PG.hr {μ : Mm} {b N m : Nat} {β : Nat → Nat} {nm : Nat → Int64} {ω : Nat → Nat → Int32} {σ : Nat → Int32} (h : PG μ b N m β nm ω σ) : β 5 ≤ 9999 := h.2.2.2.1
theorem PG.nx {μ : Mm} {b N m : Nat} {β : Nat → Nat} {nm : Nat → Int64} {ω : Nat → Nat → Int32} {σ : Nat → Int32} (h : PG μ b N m β nm ω σ) : ∀ a, a < β 0 → mL μ (b + 7) a = nm a := h.2.2.2.2.1
theorem PG.nn {μ : Mm} {b N m : Nat} {β : Nat → Nat} {nm : Nat → Int64} {ω : Nat → Nat → Int32} {σ : Nat → Int32} (h : PG μ b N m β nm ω σ) : ∀ a, a < β 0 → mL μ 149 (5 * m + a) = nm a := h.2.2.2.2.2.1
theorem PG.w0 {μ : Mm} {b N m : Nat} {β : Nat → Nat} {nm : Nat → Int64} {ω : Nat → Nat → Int32} {σ : Nat → Int32} (h : PG μ b N m β nm ω σ) : ∀ k, k < 3 → mI μ N k = ω 0 k := h.2.2.2.2.2.2.1
theorem PG.wj {μ : Mm} {b N m : Nat} {β : Nat → Nat} {nm : Nat → Int64} {ω : Nat → Nat → Int32} {σ : Nat → Int32} (h : PG μ b N m β nm ω σ) : ∀ j, 1 ≤ j → j ≤ 5 → ∀ k, k < 60 → mA μ (N + j) k = ω j k := h.2.2.2.2.2.2.2.1
theorem PG.ws {μ : Mm} {b N m : Nat} {β : Nat → Nat} {nm : Nat → Int64} {ω : Nat → Nat → Int32} {σ : Nat → Int32} (h : PG μ b N m β nm ω σ) : ∀ k, k < 272 → mA μ 146 (400 * m + (128 + k)) = σ k := h.2.2.2.2.2.2.2.2.1
theorem PG.nr {μ : Mm} {b N m : Nat} {β : Nat → Nat} {nm : Nat → Int64} {ω : Nat → Nat → Int32} {σ : Nat → Int32} (h : PG μ b N m β nm ω σ) : NRel (cl β) ω σ := h.2.2.2.2.2.2.2.2.2
theorem PG.ag {μ ν : Mm} {b N m : Nat} {β : Nat → Nat} {nm : Nat → Int64} {ω : Nat → Nat → Int32} {σ : Nat → Int32} {P : Nat → Nat → Prop} (h : PG μ b N m β nm ω σ) (e : Ag P μ ν) (h1 : ∀ i, i ≤ 10 → ∀ k, ¬ P (b + i) k) (h2 : ∀ k, k < 400 → ¬ P 146 (400 * m + k)) (h3 : ∀ j, j ≤ 5 → ∀ k, k < 60 → ¬ P (N + j) k) (h4 : ∀ a, a < 5 → ¬ P 149 (5 * m + a)) : PG ν b N m β nm ω σ := by
  obtain ⟨q1, q2, q3, q4, q5, q6, q7, q8, q9, q10⟩ := h
  have ha := q3.1.1
  refine ⟨q1.ag e h1, ?_, q3, q4, ?_, ?_, ?_, ?_, ?_, q10⟩
  · intro k hk; rw [e.a (h2 k (by omega))]; exact q2 k hk
  · intro a ha2; rw [e.l (h1 7 (by omega) a)]; exact q5 a ha2
  · intro a ha2; rw [e.l (h4 a (by omega))]; exact q6 a ha2
  · intro k hk; rw [e.i (a := N) (h3 0 (by omega) k (by omega))]; exact q7 k hk
  · intro j hj hj2 k hk; rw [e.a (h3 j hj2 k hk)]; exact q8 j hj hj2 k hk
  · intro k hk; rw [e.a (h2 (128 + k) (by omega))]; exact q9 k hk
def RefP (μ : Mm) : Prop := (mR μ 0 = 15 ∧ mR μ 1 = 27) ∨ (mR μ 0 = 27 ∧ mR μ 1 = 15)
def RefN (μ : Mm) : Prop := (mR μ 2 = 39 ∧ mR μ 3 = 45) ∨ (mR μ 2 = 45 ∧ mR μ 3 = 39)
def RefT (μ : Mm) : Prop := (∀ i, 4 ≤ i → i < 8 → 133 ≤ mR μ i ∧ mR μ i ≤ 136) ∧ (∀ i j, 4 ≤ i → i < j → j < 8 → mR μ i ≠ mR μ j)
/-- a tray -/
def Try (μ : Mm) (t : Nat) : Prop := mA μ 7 t = mA μ 143 t ∧ mA μ 8 t = mA μ 142 t ∧ (mA μ 7 t = -1 ∨ ∃ n, n ≤ 60 ∧ mA μ 7 t = nI n ∧ ∀ k, k < n → mL μ (3 + t) k = mL μ 144 (60 * t + k))
def isB (x : Int32) : Prop := x = x.toInt8.toInt32
def Tpe (μ : Mm) (n : Nat) : Prop := n ≤ 900 ∧ mI μ 9 1 = nI n ∧ mI μ 141 8 = nI n ∧ ∀ k, k < n → mB μ 10 k = mB μ 145 k ∧ isB (mB μ 10 k)
/-- the set words as numbers -/
def swN (i : Nat) : Nat := [763013, 20528, 495763, 1178064340, 4360500, 119705908, 12343, 2318906547, 398548, 19176724, 1130181, 2273783, 24170600, 643248, 688, 147182, 643129, 147269, 431556, 20583468, 1497, 762030, 24722887, 4496692, 186542, 409072, 5572, 643568].getD i 0
def swT (i : Nat) : Int64 := lN (swN i)
abbrev R (μ : Mm) : Prop := (RefP μ) ∧ (RefN μ) ∧ (RefT μ) ∧ (mI μ 0 0 = mI μ 141 0) ∧ (mJ μ 0 1 = mJ μ 141 2) ∧ (mJ μ 0 2 = mJ μ 141 3) ∧ (∀ t, t < 4 → Try μ t) ∧ (∃ n, Tpe μ n) ∧ (mI μ 9 2 = mI μ 141 10) ∧ (mI μ 9 3 = mI μ 141 11) ∧ (∀ i, i < 28 → mL μ 11 i = swT i) ∧ (∃ β nm ω σ, PG μ (mR μ 0) (mR μ 2) 0 β nm ω σ) ∧ (∃ m, m ≤ 3 ∧ mI μ 0 3 = nI m ∧ mI μ 141 24 = nI m ∧ ∀ i, i < m → ∃ β nm ω σ, PG μ (53 + 18 * i) (65 + 18 * i) (i + 1) β nm ω σ) ∧ (mI μ 137 0 = mI μ 141 40 ∧ ∀ j, j < 5 → mI μ 137 (2 + j) = mA μ 156 j)
theorem R.rp {μ : Mm} (h : R μ) : RefP μ := h.1
theorem R.rn {μ : Mm} (h : R μ) : RefN μ := h.2.1
theorem R.rt {μ : Mm} (h : R μ) : RefT μ := h.2.2.1
theorem R.st {μ : Mm} (h : R μ) : mI μ 0 0 = mI μ 141 0 := h.2.2.2.1
theorem R.top {μ : Mm} (h : R μ) : mJ μ 0 1 = mJ μ 141 2 := h.2.2.2.2.1
theorem R.bot {μ : Mm} (h : R μ) : mJ μ 0 2 = mJ μ 141 3 := h.2.2.2.2.2.1
theorem R.tr {μ : Mm} (h : R μ) : ∀ t, t < 4 → Try μ t := h.2.2.2.2.2.2.1
theorem R.tp {μ : Mm} (h : R μ) : ∃ n, Tpe μ n := h.2.2.2.2.2.2.2.1
theorem R.fk {μ : Mm} (h : R μ) : mI μ 9 2 = mI μ 141 10 := h.2.2.2.2.2.2.2.2.1
theorem R.fa {μ : Mm} (h : R μ) : mI μ 9 3 = mI μ 141 11 := h.2.2.2.2.2.2.2.2.2.1
theorem R.sw {μ : Mm} (h : R μ) : ∀ i, i < 28 → mL μ 11 i = swT i := h.2.2.2.2.2.2.2.2.2.2.1
theorem R.pg {μ : Mm} (h : R μ) : ∃ β nm ω σ, PG μ (mR μ 0) (mR μ 2) 0 β nm ω σ := h.2.2.2.2.2.2.2.2.2.2.2.1
theorem R.mk {μ : Mm} (h : R μ) : ∃ m, m ≤ 3 ∧ mI μ 0 3 = nI m ∧ mI μ 141 24 = nI m ∧ ∀ i, i < m → ∃ β nm ω σ, PG μ (53 + 18 * i) (65 + 18 * i) (i + 1) β nm ω σ := h.2.2.2.2.2.2.2.2.2.2.2.2.1
theorem R.lv {μ : Mm} (h : R μ) : mI μ 137 0 = mI μ 141 40 ∧ ∀ j, j < 5 → mI μ 137 (2 + j) = mA μ 156 j := h.2.2.2.2.2.2.2.2.2.2.2.2.2
/-- places that nothing tells of -/
def SC (μ : Mm) (a k : Nat) : Prop := (mR μ 1 ≤ a ∧ a < mR μ 1 + 12) ∨ a = mR μ 0 + 11 ∨ (mR μ 3 ≤ a ∧ a < mR μ 3 + 6) ∨ (a = 9 ∧ 4 ≤ k) ∨ (12 ≤ a ∧ a < 15) ∨ (107 ≤ a ∧ a < 137) ∨ (a = 137 ∧ 7 ≤ k) ∨ (a = 137 ∧ k = 1) ∨ (138 ≤ a ∧ a < 141) ∨ (a = 141 ∧ (k = 1 ∨ k = 9 ∨ (12 ≤ k ∧ k < 20) ∨ (25 ≤ k ∧ k < 40) ∨ 41 ≤ k)) ∨ (a = 146 ∧ 1600 ≤ k) ∨ a = 147 ∨ a = 148 ∨ (a = 149 ∧ 20 ≤ k) ∨ (150 ≤ a ∧ a < 156)
/-- .. and the two statuses -/
def S1 (μ : Mm) (a k : Nat) : Prop := SC μ a k ∨ (a = 0 ∧ k = 0) ∨ (a = 141 ∧ k = 0)
theorem R.go {μ ν : Mm} (h : R μ) (e : Ag (S1 μ) μ ν) (hs : mI ν 0 0 = mI ν 141 0) : R ν := by
  obtain ⟨rp, rn, rt, st, top, bot, tr, tp, fk, fa, sw, pg, mk, lv⟩ := h
  have er := e.2
  have hp : ∀ a k, ¬ S1 μ a k ↔ ¬ S1 μ a k := fun _ _ => Iff.rfl
  refine ⟨?_, ?_, ?_, hs, ?_, ?_, ?_, ?_, ?_, ?_, ?_, ?_, ?_, ?_⟩
  · unfold RefP at *; rw [er]; exact rp
  · unfold RefN at *; rw [er]; exact rn
  · unfold RefT at *; rw [er]; exact rt
  · rw [e.j (by unfold S1 SC; unfold RefP RefN at *; omega), e.j (by unfold S1 SC; unfold RefP RefN at *; omega)]; exact top
  · rw [e.j (by unfold S1 SC; unfold RefP RefN at *; omega), e.j (by unfold S1 SC; unfold RefP RefN at *; omega)]; exact bot
  · intro t ht
    obtain ⟨q1, q2, q3⟩ := tr t ht
    have a7 : mA ν 7 t = mA μ 7 t := e.a (by unfold S1 SC; unfold RefP RefN at *; omega)
    have a8 : mA ν 8 t = mA μ 8 t := e.a (by unfold S1 SC; unfold RefP RefN at *; omega)
    have a143 : mA ν 143 t = mA μ 143 t := e.a (by unfold S1 SC; unfold RefP RefN at *; omega)
    have a142 : mA ν 142 t = mA μ 142 t := e.a (by unfold S1 SC; unfold RefP RefN at *; omega)
    refine ⟨by rw [a7, a143]; exact q1, by rw [a8, a142]; exact q2, ?_⟩
    rw [a7]
    rcases q3 with q3 | ⟨n, h1, h2, h3⟩
    · exact Or.inl q3
    · refine Or.inr ⟨n, h1, h2, fun k hk => ?_⟩
      rw [e.l (by unfold S1 SC; unfold RefP RefN at *; omega), e.l (by unfold S1 SC; unfold RefP RefN at *; omega)]
      exact h3 k hk
  · obtain ⟨n, q1, q2, q3, q4⟩ := tp
    refine ⟨n, q1, ?_, ?_, fun k hk => ?_⟩
    · rw [e.i (by unfold S1 SC; unfold RefP RefN at *; omega)]; exact q2
    · rw [e.i (by unfold S1 SC; unfold RefP RefN at *; omega)]; exact q3
    · rw [e.b (by unfold S1 SC; unfold RefP RefN at *; omega), e.b (by unfold S1 SC; unfold RefP RefN at *; omega)]
      exact q4 k hk
  · rw [e.i (by unfold S1 SC; unfold RefP RefN at *; omega), e.i (by unfold S1 SC; unfold RefP RefN at *; omega)]; exact fk
  · rw [e.i (by unfold S1 SC; unfold RefP RefN at *; omega), e.i (by unfold S1 SC; unfold RefP RefN at *; omega)]; exact fa
  · intro i hi; rw [e.l (by unfold S1 SC; unfold RefP RefN at *; omega)]; exact sw i hi
  · obtain ⟨β, nm, ω, σ, q⟩ := pg
    rw [er]
    refine ⟨β, nm, ω, σ, q.ag e ?_ ?_ ?_ ?_⟩
    · intro i hi k; unfold S1 SC; unfold RefP RefN at *; omega
    · intro k hk; unfold S1 SC; unfold RefP RefN at *; omega
    · intro i hi k hk; unfold S1 SC; unfold RefP RefN at *; omega
    · intro k hk; unfold S1 SC; unfold RefP RefN at *; omega
  · obtain ⟨m, q1, q2, q3, q4⟩ := mk
    refine ⟨m, q1, ?_, ?_, fun i hi => ?_⟩
    · rw [e.i (by unfold S1 SC; unfold RefP RefN at *; omega)]; exact q2
    · rw [e.i (by unfold S1 SC; unfold RefP RefN at *; omega)]; exact q3
    · obtain ⟨β, nm, ω, σ, q⟩ := q4 i hi
      refine ⟨β, nm, ω, σ, q.ag e ?_ ?_ ?_ ?_⟩
      · intro j hj k; unfold S1 SC; unfold RefP RefN at *; omega
      · intro k hk; unfold S1 SC; unfold RefP RefN at *; omega
      · intro j hj k hk; unfold S1 SC; unfold RefP RefN at *; omega
      · intro k hk; unfold S1 SC; unfold RefP RefN at *; omega
  · refine ⟨?_, fun j hj => ?_⟩
    · rw [e.i (by unfold S1 SC; unfold RefP RefN at *; omega), e.i (by unfold S1 SC; unfold RefP RefN at *; omega)]; exact lv.1
    · rw [e.i (by unfold S1 SC; unfold RefP RefN at *; omega), e.a (by unfold S1 SC; unfold RefP RefN at *; omega)]; exact lv.2 j hj
/-- places of the book that is there -/
def S2 (μ : Mm) (a k : Nat) : Prop := S1 μ a k ∨ (mR μ 0 ≤ a ∧ a < mR μ 0 + 7) ∨ (mR μ 0 + 8 ≤ a ∧ a < mR μ 0 + 12) ∨ (a = 146 ∧ k < 128)
/-- the book has become another one -/
theorem R.bk {μ ν : Mm} (h : R μ) {β nm ω σ} (hg : PG μ (mR μ 0) (mR μ 2) 0 β nm ω σ) (e : Ag (S2 μ) μ ν) (hs : mI ν 0 0 = mI ν 141 0) {β' : Nat → Nat} (hb : BX ν (mR μ 0) β') (hc : CB ν β') (hw : WF β') (h5 : β' 5 ≤ 9999) (h0 : β' 0 = β 0) (h2 : β' 2 = β 2) : R ν := by
  obtain ⟨rp, rn, rt, st, top, bot, tr, tp, fk, fa, sw, pg, mk, lv⟩ := h
  have er := e.2
  refine ⟨?_, ?_, ?_, hs, ?_, ?_, ?_, ?_, ?_, ?_, ?_, ?_, ?_, ?_⟩
  · unfold RefP at *; rw [er]; exact rp
  · unfold RefN at *; rw [er]; exact rn
  · unfold RefT at *; rw [er]; exact rt
  · rw [e.j (by unfold S2 S1 SC; unfold RefP RefN at *; omega), e.j (by unfold S2 S1 SC; unfold RefP RefN at *; omega)]; exact top
  · rw [e.j (by unfold S2 S1 SC; unfold RefP RefN at *; omega), e.j (by unfold S2 S1 SC; unfold RefP RefN at *; omega)]; exact bot
  · intro t ht
    obtain ⟨q1, q2, q3⟩ := tr t ht
    have a7 : mA ν 7 t = mA μ 7 t := e.a (by unfold S2 S1 SC; unfold RefP RefN at *; omega)
    have a8 : mA ν 8 t = mA μ 8 t := e.a (by unfold S2 S1 SC; unfold RefP RefN at *; omega)
    have a143 : mA ν 143 t = mA μ 143 t := e.a (by unfold S2 S1 SC; unfold RefP RefN at *; omega)
    have a142 : mA ν 142 t = mA μ 142 t := e.a (by unfold S2 S1 SC; unfold RefP RefN at *; omega)
    refine ⟨by rw [a7, a143]; exact q1, by rw [a8, a142]; exact q2, ?_⟩
    rw [a7]
    rcases q3 with q3 | ⟨n, h1, h2, h3⟩
    · exact Or.inl q3
    · refine Or.inr ⟨n, h1, h2, fun k hk => ?_⟩
      rw [e.l (by unfold S2 S1 SC; unfold RefP RefN at *; omega), e.l (by unfold S2 S1 SC; unfold RefP RefN at *; omega)]
      exact h3 k hk
  · obtain ⟨n, q1, q2, q3, q4⟩ := tp
    refine ⟨n, q1, ?_, ?_, fun k hk => ?_⟩
    · rw [e.i (by unfold S2 S1 SC; unfold RefP RefN at *; omega)]; exact q2
    · rw [e.i (by unfold S2 S1 SC; unfold RefP RefN at *; omega)]; exact q3
    · rw [e.b (by unfold S2 S1 SC; unfold RefP RefN at *; omega), e.b (by unfold S2 S1 SC; unfold RefP RefN at *; omega)]
      exact q4 k hk
  · rw [e.i (by unfold S2 S1 SC; unfold RefP RefN at *; omega), e.i (by unfold S2 S1 SC; unfold RefP RefN at *; omega)]; exact fk
  · rw [e.i (by unfold S2 S1 SC; unfold RefP RefN at *; omega), e.i (by unfold S2 S1 SC; unfold RefP RefN at *; omega)]; exact fa
  · intro i hi; rw [e.l (by unfold S2 S1 SC; unfold RefP RefN at *; omega)]; exact sw i hi
  · rw [er]
    obtain ⟨q1, q2, q3, q4, q5, q6, q7, q8, q9, q10⟩ := hg
    have hcl : cl β' = cl β := by unfold cl; rw [h0, h2]
    have hb5 := q3.1.1
    refine ⟨β', nm, ω, σ, hb, ?_, hw, h5, ?_, ?_, ?_, ?_, ?_, by rw [hcl]; exact q10⟩
    · intro k hk; rw [show 400 * 0 + k = k by omega]; exact hc k hk
    · intro a ha; rw [e.l (by unfold S2 S1 SC; unfold RefP RefN at *; omega)]; exact q5 a (by omega)
    · intro a ha; rw [e.l (by unfold S2 S1 SC; unfold RefP RefN at *; omega)]; exact q6 a (by omega)
    · intro k hk; rw [e.i (by unfold S2 S1 SC; unfold RefP RefN at *; omega)]; exact q7 k hk
    · intro j hj hj2 k hk; rw [e.a (by unfold S2 S1 SC; unfold RefP RefN at *; omega)]; exact q8 j hj hj2 k hk
    · intro k hk; rw [e.a (by unfold S2 S1 SC; unfold RefP RefN at *; omega)]; exact q9 k hk
  · obtain ⟨m, q1, q2, q3, q4⟩ := mk
    refine ⟨m, q1, ?_, ?_, fun i hi => ?_⟩
    · rw [e.i (by unfold S2 S1 SC; unfold RefP RefN at *; omega)]; exact q2
    · rw [e.i (by unfold S2 S1 SC; unfold RefP RefN at *; omega)]; exact q3
    · obtain ⟨β, nm, ω, σ, q⟩ := q4 i hi
      refine ⟨β, nm, ω, σ, q.ag e ?_ ?_ ?_ ?_⟩
      · intro j hj k; unfold S2 S1 SC; unfold RefP RefN at *; omega
      · intro k hk; unfold S2 S1 SC; unfold RefP RefN at *; omega
      · intro j hj k hk; unfold S2 S1 SC; unfold RefP RefN at *; omega
      · intro k hk; unfold S2 S1 SC; unfold RefP RefN at *; omega
  · refine ⟨?_, fun j hj => ?_⟩
    · rw [e.i (by unfold S2 S1 SC; unfold RefP RefN at *; omega), e.i (by unfold S2 S1 SC; unfold RefP RefN at *; omega)]; exact lv.1
    · rw [e.i (by unfold S2 S1 SC; unfold RefP RefN at *; omega), e.a (by unfold S2 S1 SC; unfold RefP RefN at *; omega)]; exact lv.2 j hj
