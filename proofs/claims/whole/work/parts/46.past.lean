/-! ===== what stood there: counting ===== -/
theorem bf {b : Bool} (h : ¬ b = true) : b = false := by cases b; rfl; exact absurd rfl h
theorem cnt_or {p q : Nat → Bool} : ∀ {m i : Nat}, (∀ j, i ≤ j → j < i + m → ¬ (p j = true ∧ q j = true)) → cntF (fun j => p j || q j) i m = cntF p i m + cntF q i m
  | 0, i, _ => rfl
  | m + 1, i, h => by
    rw [cntF_s, cntF_s, cntF_s, cnt_or (fun j h1 h2 => h j (by omega) (by omega))]
    have := h i (by omega) (by omega)
    by_cases hp : p i = true
    · have hq : q i = false := bf (fun z => this ⟨hp, z⟩)
      rw [hp, hq]
      simp only [Bool.true_or, if_true, Bool.false_eq_true, if_false]
      omega
    · rw [bf hp]
      simp only [Bool.false_or, Bool.false_eq_true, if_false]
      rw [Nat.zero_add]
      exact Nat.add_left_comm _ _ _
theorem cnt_no {p : Nat → Bool} : ∀ {m i : Nat}, (∀ j, i ≤ j → j < i + m → p j = false) → cntF p i m = 0
  | 0, i, _ => rfl
  | m + 1, i, h => by
    rw [cntF_s, h i (by omega) (by omega), cnt_no (fun j h1 h2 => h j (by omega) (by omega))]
    rfl
theorem fnd_nn {p : Nat → Bool} : ∀ {m i : Nat}, (∀ j, i ≤ j → j < i + m → p j = false) → fndF p i m = none
  | 0, i, _ => rfl
  | m + 1, i, h => by
    rw [fndF_s, h i (by omega) (by omega), fnd_nn (fun j h1 h2 => h j (by omega) (by omega))]
    rfl
theorem cnt0_iff {p : Nat → Bool} : ∀ {m i : Nat}, cntF p i m = 0 ↔ fndF p i m = none
  | 0, i => ⟨fun _ => rfl, fun _ => rfl⟩
  | m + 1, i => by
    rw [cntF_s, fndF_s]
    by_cases hp : p i = true
    · rw [if_pos hp, if_pos hp]
      exact ⟨fun z => by omega, fun z => by cases z⟩
    · rw [if_neg hp, if_neg hp, Nat.zero_add]
      exact cnt0_iff
theorem fnd_eq {p : Nat → Bool} {i m l : Nat} (h1 : i ≤ l) (h2 : l < i + m) (hp : p l = true) (hn : ∀ j, i ≤ j → j < l → p j = false) : fndF p i m = some l := by
  cases h : fndF p i m with
  | none => rw [fndF_none h l h1 h2] at hp; cases hp
  | some k =>
    obtain ⟨k1, k2, k3⟩ := fndF_some h
    have k4 := fndF_first h
    congr 1
    rcases Nat.lt_trichotomy k l with q | q | q
    · rw [hn k k1 q] at k3; cases k3
    · exact q
    · rw [k4 l h1 q] at hp; cases hp
def omn : Option Nat → Option Nat → Option Nat
  | none, y => y
  | some a, none => some a
  | some a, some b => some (min a b)
theorem omn_none {x : Option Nat} : omn x none = x := by cases x <;> rfl
theorem fnd_or {p q : Nat → Bool} : ∀ {m i : Nat}, fndF (fun j => p j || q j) i m = omn (fndF p i m) (fndF q i m)
  | 0, i => rfl
  | m + 1, i => by
    rw [fndF_s, fndF_s, fndF_s]
    by_cases hp : p i = true
    · rw [if_pos (show (p i || q i) = true by rw [hp]; rfl), if_pos hp]
      by_cases hq : q i = true
      · rw [if_pos hq]; show some i = some (min i i); rw [Nat.min_self]
      · rw [if_neg hq]
        cases h : fndF q (i + 1) m with
        | none => rfl
        | some l =>
          have := (fndF_some h).1
          show some i = some (min i l)
          rw [Nat.min_eq_left (by omega)]
    · by_cases hq : q i = true
      · rw [if_pos (show (p i || q i) = true by rw [hq]; simp), if_neg hp, if_pos hq]
        cases h : fndF p (i + 1) m with
        | none => rfl
        | some l =>
          have := (fndF_some h).1
          show some i = some (min l i)
          rw [Nat.min_eq_right (by omega)]
      · rw [if_neg (show ¬ (p i || q i) = true by rw [bf hp, bf hq]; decide), if_neg hp, if_neg hq]
        exact fnd_or
theorem cnt_one {x : Nat} {c : Bool} : ∀ {m i : Nat}, cntF (fun j => decide (j = x) && c) i m = if i ≤ x ∧ x < i + m ∧ c = true then 1 else 0
  | 0, i => by rw [if_neg (by omega)]; rfl
  | m + 1, i => by
    rw [cntF_s, cnt_one]
    by_cases e : i = x
    · rw [if_neg (show ¬ (i + 1 ≤ x ∧ x < i + 1 + m ∧ c = true) by omega), decide_eq_true e, Bool.true_and, Nat.add_zero]
      by_cases hc : c = true
      · rw [if_pos hc, if_pos ⟨by omega, by omega, hc⟩]
      · rw [if_neg hc, if_neg (fun z => hc z.2.2)]
    · rw [decide_eq_false e, Bool.false_and, if_neg (by decide), Nat.zero_add]
      by_cases q : i ≤ x ∧ x < i + (m + 1) ∧ c = true
      · rw [if_pos q, if_pos ⟨by omega, by omega, q.2.2⟩]
      · rw [if_neg q, if_neg (fun z => q ⟨by omega, by omega, z.2.2⟩)]
theorem cnt_add {p : Nat → Bool} {i a : Nat} : ∀ {b : Nat}, cntF p i (a + b) = cntF p i a + cntF p (i + a) b
  | 0 => rfl
  | b + 1 => by
    rw [show a + (b + 1) = (a + b) + 1 by omega, cntF_n, cnt_add, cntF_n, show i + (a + b) = i + a + b by omega, Nat.add_assoc]
theorem cnt10 {P : Nat → Bool} {r : Nat} (hr : r < 10) : ∀ {m : Nat}, cntF (fun e => decide (e % 10 = r) && P (e / 10)) 0 (10 * m) = cntF P 0 m
  | 0 => rfl
  | m + 1 => by
    rw [show 10 * (m + 1) = 10 * m + 10 by omega, cnt_add, cnt10 hr, Nat.zero_add, cntF_n (p := P), Nat.zero_add]
    congr 1
    rw [cntF_cong (q := fun j => decide (j = 10 * m + r) && P m) (fun j h1 h2 => ?_), cnt_one]
    · by_cases hp : P m = true
      · rw [if_pos ⟨by omega, by omega, hp⟩, if_pos hp]
      · rw [if_neg (fun z => hp z.2.2), if_neg hp]
    · have hj : j / 10 = m := by omega
      rw [hj]
      congr 1
      apply decide_eq_decide.mpr
      omega
theorem fnd10 {P : Nat → Bool} {r m : Nat} (hr : r < 10) : fndF (fun e => decide (e % 10 = r) && P (e / 10)) 0 (10 * m) = (fndF P 0 m).map (fun e => 10 * e + r) := by
  cases h : fndF P 0 m with
  | none =>
    refine fnd_nn (fun j _ h2 => ?_)
    rw [fndF_none h (j / 10) (by omega) (by omega), Bool.and_false]
  | some l =>
    obtain ⟨h1, h2, h3⟩ := fndF_some h
    have h4 := fndF_first h
    show fndF _ 0 (10 * m) = some (10 * l + r)
    refine fnd_eq (by omega) (by omega) ?_ (fun j _ hj => ?_)
    · rw [decide_eq_true (by omega), show (10 * l + r) / 10 = l by omega, h3]; rfl
    · by_cases e : j % 10 = r
      · rw [h4 (j / 10) (by omega) (by omega), Bool.and_false]
      · rw [decide_eq_false e, Bool.false_and]
/-! rows of an account -/
def ovr (β : Nat → Nat) (a : Nat) (g : Nat → Nat) : Nat → Nat := fun j => if 13 + β 2 * a ≤ j ∧ j < 13 + β 2 * a + β 2 then g (j - (13 + β 2 * a)) else β j
def chk (β : Nat → Nat) (a : Nat) (g : Nat → Nat) (i : Nat) : Bool := decide (becomes β (dgs (ovr β a g)) (β 2 * a + i) = β (13 + (β 2 * a + i)))
section PAST
variable {β : Nat → Nat} {a : Nat}
theorem ovr_in {g : Nat → Nat} {i : Nat} (hi : i < β 2) : ovr β a g (13 + (β 2 * a + i)) = g i := by
  unfold ovr
  rw [if_pos (by omega)]
  congr 1
  omega
theorem ovr_out {g : Nat → Nat} {j : Nat} (h : ¬ (13 + β 2 * a ≤ j ∧ j < 13 + β 2 * a + β 2)) : ovr β a g j = β j := by
  unfold ovr
  rw [if_neg h]
theorem bec_loc (w : WF β) {d d' : Nat → Nat} {k : Nat} (h0 : d k = d' k) (hl : k % β 2 ≠ 0 → d (k - 1) = d' (k - 1)) (hr : k % β 2 ≠ β 2 - 1 → d (k + 1) = d' (k + 1)) (hu : β 2 ≤ k → d (k - β 2) = d' (k - β 2)) (hd : k + β 2 < cl β → d (k + β 2) = d' (k + β 2)) : becomes β d k = becomes β d' k := by
  have hb : ∀ l, brs β d l k = brs β d' l k := by
    intro l
    unfold brs
    rw [h0]
    cases hb : bes β k (β (108 + l)) with
    | none => rfl
    | some j =>
      have : d j = d' j := by
        unfold bes at hb
        split at hb
        · split at hb
          · cases hb
          · rename_i q; cases hb; exact hl q
        · split at hb
          · split at hb
            · cases hb
            · rename_i q; cases hb; exact hr q
          · split at hb
            · split at hb
              · cases hb
              · rename_i q; cases hb; exact hu (by omega)
            · split at hb
              · rename_i q; cases hb; exact hd q
              · cases hb
      simp only [this]
  unfold becomes lawOf
  rw [fndF_cong (q := fun l => brs β d' l k) (fun l _ _ => hb l)]
  cases fndF (fun l => brs β d' l k) 0 (β 1) with
  | none => exact h0
  | some l => rfl
theorem pl_lt (ha : a < β 0) {i : Nat} (hi : i < β 2) : β 2 * a + i < cl β := by rw [Nat.mul_comm]; exact cl_row ha hi
theorem row_chk (w : WF β) (ha : a < β 0) {ρ g : Nat → Nat} {i : Nat} (hi : i < β 2) (h0 : ρ (β 2 * a + i) = g i) (hl : 0 < i → ρ (β 2 * a + i - 1) = g (i - 1)) (hr : i + 1 < β 2 → ρ (β 2 * a + i + 1) = g (i + 1)) (ho : ∀ k, k < cl β → ¬ (β 2 * a ≤ k ∧ k < β 2 * a + β 2) → ρ k = β (13 + k)) : decide (becomes β ρ (β 2 * a + i) = β (13 + (β 2 * a + i))) = chk β a g i := by
  have hk := pl_lt ha hi
  have hm : (β 2 * a + i) % β 2 = i := by rw [Nat.mul_add_mod]; exact Nat.mod_eq_of_lt hi
  unfold chk
  rw [bec_loc w (d' := dgs (ovr β a g))]
  · rw [h0]; exact (ovr_in hi).symm
  · intro q
    rw [hm] at q
    rw [hl (by omega)]
    show _ = ovr β a g (13 + (β 2 * a + i - 1))
    rw [show β 2 * a + i - 1 = β 2 * a + (i - 1) by omega, ovr_in (by omega)]
  · intro q
    rw [hm] at q
    rw [hr (by omega)]
    show _ = ovr β a g (13 + (β 2 * a + i + 1))
    rw [show β 2 * a + i + 1 = β 2 * a + (i + 1) by omega, ovr_in (by omega)]
  · intro q
    rw [ho _ (by omega) (by omega)]
    show _ = ovr β a g (13 + (β 2 * a + i - β 2))
    rw [ovr_out (by omega)]
  · intro q
    rw [ho _ q (by omega)]
    show _ = ovr β a g (13 + (β 2 * a + i + β 2))
    rw [ovr_out (by omega)]
theorem chk_loc (w : WF β) (ha : a < β 0) {g g' : Nat → Nat} {i : Nat} (hi : i < β 2) (h0 : g i = g' i) (hl : 0 < i → g (i - 1) = g' (i - 1)) (hr : i + 1 < β 2 → g (i + 1) = g' (i + 1)) : chk β a g i = chk β a g' i := by
  refine row_chk w ha (ρ := dgs (ovr β a g)) hi ?_ (fun q => ?_) (fun q => ?_) (fun k hk q => ?_)
  · rw [← h0]; exact ovr_in hi
  · rw [← hl q]
    show ovr β a g (13 + (β 2 * a + i - 1)) = _
    rw [show β 2 * a + i - 1 = β 2 * a + (i - 1) by omega, ovr_in (by omega)]
  · rw [← hr q]
    show ovr β a g (13 + (β 2 * a + i + 1)) = _
    rw [show β 2 * a + i + 1 = β 2 * a + (i + 1) by omega, ovr_in (by omega)]
  · show ovr β a g (13 + k) = _
    exact ovr_out (by omega)
/-- digits of a number of n figures -/
def dgC (n e : Nat) (i : Nat) : Nat := e / 10 ^ (n - 1 - i) % 10
def prO (m e : Nat) : Nat := if m = 0 then 100 + e else e % 100
def gq (m p r : Nat) : Nat → Nat := fun i => if i + 1 = m then p / 10 else if i = m then p % 10 else r
def chq (β : Nat → Nat) (a m p r : Nat) : Bool := chk β a (gq m p r) m
def gdE (β : Nat → Nat) (a : Nat) : Nat → Nat → Bool
  | 0, _ => true
  | m + 1, e => gdE β a m (e / 10) && chq β a m (prO m (e / 10)) (e % 10)
theorem gdE_s {m e : Nat} : gdE β a (m + 1) e = (gdE β a m (e / 10) && chq β a m (prO m (e / 10)) (e % 10)) := rfl
def pstE (β : Nat → Nat) (a e : Nat) : Bool := gdE β a (β 2 - 1) e && chq β a (β 2 - 1) (prO (β 2 - 1) e) 0
def pst (β : Nat → Nat) (a c : Nat) : Bool := (fndF (fun i => !chk β a (dgC (β 2) c) i) 0 (β 2)).isNone
theorem prO_10 {m e : Nat} : prO m e % 10 = e % 10 := by unfold prO; split <;> omega
theorem prO_s {m e : Nat} : prO (m + 1) e = e % 100 := by unfold prO; rw [if_neg (by omega)]
theorem prO_d {m e : Nat} (h : 0 < m) : prO m e / 10 = e / 10 % 10 := by unfold prO; rw [if_neg (by omega)]; omega
theorem dgC_s {m e j : Nat} (hj : j ≤ m) : dgC (m + 2) e j = dgC (m + 1) (e / 10) j := by
  unfold dgC
  rw [show m + 2 - 1 - j = (m + 1 - 1 - j) + 1 by omega, Nat.pow_succ, Nat.mul_comm, Nat.div_div_eq_div_mul]
theorem dgC_0 {m e : Nat} : dgC (m + 1) e m = e % 10 := by unfold dgC; rw [show m + 1 - 1 - m = 0 by omega, Nat.pow_zero, Nat.div_one]
theorem dgC_1 {m e : Nat} (h : 0 < m) : dgC (m + 1) e (m - 1) = e / 10 % 10 := by unfold dgC; rw [show m + 1 - 1 - (m - 1) = 1 by omega, Nat.pow_one]
/-- what the last place but one of a beginning asks -/
theorem chk_q (w : WF β) (ha : a < β 0) {m e r : Nat} {g : Nat → Nat} (hm : m < β 2) (h0 : g m = e % 10) (h1 : 0 < m → g (m - 1) = e / 10 % 10) (h2 : m + 1 < β 2 → g (m + 1) = r) : chk β a g m = chq β a m (prO m e) r := by
  refine chk_loc w ha hm ?_ (fun q => ?_) (fun q => ?_)
  · unfold gq; rw [if_neg (by omega), if_pos rfl, prO_10, h0]
  · unfold gq; rw [if_pos (by omega), prO_d q, h1 q]
  · unfold gq; rw [if_neg (by omega), if_neg (by omega), h2 q]
theorem gdE_iff (w : WF β) (ha : a < β 0) : ∀ {m e : Nat}, m < β 2 → (gdE β a m e = true ↔ ∀ i, i < m → chk β a (dgC (m + 1) e) i = true)
  | 0, e, _ => ⟨fun _ i hi => by omega, fun _ => rfl⟩
  | m + 1, e, hm => by
    have hq : chk β a (dgC (m + 2) e) m = chq β a m (prO m (e / 10)) (e % 10) := chk_q w ha (by omega) (by rw [dgC_s (by omega), dgC_0]) (fun q => by rw [dgC_s (by omega), dgC_1 q]) (fun q => dgC_0)
    have hi : ∀ i, i < m → chk β a (dgC (m + 2) e) i = chk β a (dgC (m + 1) (e / 10)) i := fun i hi => chk_loc w ha (by omega) (dgC_s (by omega)) (fun q => dgC_s (by omega)) (fun q => dgC_s (by omega))
    rw [gdE_s, Bool.and_eq_true, gdE_iff w ha (by omega), ← hq]
    constructor
    · rintro ⟨h1, h2⟩ i hi2
      by_cases e2 : i = m
      · rw [e2]; exact h2
      · rw [hi i (by omega)]; exact h1 i (by omega)
    · intro h
      exact ⟨fun i hi2 => by rw [← hi i hi2]; exact h i (by omega), h m (by omega)⟩
theorem pst_iff {c : Nat} : pst β a c = true ↔ ∀ i, i < β 2 → chk β a (dgC (β 2) c) i = true := by
  unfold pst
  cases h : fndF (fun i => !chk β a (dgC (β 2) c) i) 0 (β 2) with
  | none =>
    refine ⟨fun _ i hi => ?_, fun _ => rfl⟩
    have := fndF_none h i (by omega) (by omega)
    simpa using this
  | some l =>
    obtain ⟨h1, h2, h3⟩ := fndF_some h
    refine ⟨fun q => (by cases q), fun q => ?_⟩
    have q2 := q l (by omega)
    rw [q2] at h3
    cases h3
theorem pst_E (w : WF β) (ha : a < β 0) {c : Nat} : pst β a c = pstE β a c := by
  obtain ⟨m, hm⟩ : ∃ m, β 2 = m + 1 := ⟨β 2 - 1, by have := w.1.2.1; omega⟩
  apply Bool.eq_iff_iff.mpr
  rw [pst_iff]
  unfold pstE
  rw [show β 2 - 1 = m by omega, Bool.and_eq_true, gdE_iff w ha (by omega), ← chk_q w ha (g := dgC (m + 1) c) (by omega) dgC_0 (fun q => dgC_1 q) (fun q => by omega), hm]
  constructor
  · intro h
    exact ⟨fun i hi => h i (by omega), h m (by omega)⟩
  · rintro ⟨h1, h2⟩ i hi
    by_cases e : i = m
    · rw [e]; exact h2
    · exact h1 i (by omega)
/-! tables -/
def cT (β : Nat → Nat) (a m p : Nat) : Nat := cntF (fun e => gdE β a m e && decide (prO m e = p)) 0 (10 ^ (m + 1))
def lT (β : Nat → Nat) (a m p : Nat) : Option Nat := fndF (fun e => gdE β a m e && decide (prO m e = p)) 0 (10 ^ (m + 1))
def kyE (m e : Nat) : Nat := prO m (e / 10) * 10 + e % 10
def nP (β : Nat → Nat) (a m t n e : Nat) : Bool := (gdE β a (m + 1) e && decide (prO (m + 1) e = n)) && decide (kyE m e < t)
def nC (β : Nat → Nat) (a m t n : Nat) : Nat := cntF (nP β a m t n) 0 (10 ^ (m + 2))
def nL (β : Nat → Nat) (a m t n : Nat) : Option Nat := fndF (nP β a m t n) 0 (10 ^ (m + 2))
def cc (β : Nat → Nat) (a m t n : Nat) : Bool := chq β a m (t / 10) (t % 10) && decide (n = t / 10 % 10 * 10 + t % 10)
theorem c0_iff {m p : Nat} : cT β a m p = 0 ↔ lT β a m p = none := cnt0_iff
theorem n0_iff {m t n : Nat} : nC β a m t n = 0 ↔ nL β a m t n = none := cnt0_iff
theorem nP_s {m t n e : Nat} : nP β a m (t + 1) n e = (nP β a m t n e || (decide (e % 10 = t % 10) && ((gdE β a m (e / 10) && decide (prO m (e / 10) = t / 10)) && cc β a m t n))) := by
  have p1 := prO_10 (m := m) (e := e / 10)
  apply Bool.eq_iff_iff.mpr
  unfold nP cc
  rw [gdE_s]
  simp only [Bool.and_eq_true, Bool.or_eq_true, decide_eq_true_eq, prO_s]
  unfold kyE
  constructor
  · rintro ⟨⟨⟨h1, h2⟩, h3⟩, h4⟩
    by_cases q : prO m (e / 10) * 10 + e % 10 < t
    · exact Or.inl ⟨⟨⟨h1, h2⟩, h3⟩, q⟩
    · have e1 : prO m (e / 10) = t / 10 := by omega
      have e2 : e % 10 = t % 10 := by omega
      rw [e1, e2] at h2
      exact Or.inr ⟨e2, ⟨h1, e1⟩, h2, by omega⟩
  · rintro (⟨h1, h2⟩ | ⟨e2, ⟨h1, e1⟩, h2, h3⟩)
    · exact ⟨h1, by omega⟩
    · rw [← e1, ← e2] at h2
      exact ⟨⟨⟨h1, h2⟩, by omega⟩, by omega⟩
theorem nP_x {m t n e : Nat} : ¬ (nP β a m t n e = true ∧ (decide (e % 10 = t % 10) && ((gdE β a m (e / 10) && decide (prO m (e / 10) = t / 10)) && cc β a m t n)) = true) := by
  unfold nP kyE
  simp only [Bool.and_eq_true, decide_eq_true_eq]
  rintro ⟨⟨-, h1⟩, h2, ⟨-, h3⟩, -⟩
  omega
theorem nC_s {m t n : Nat} : nC β a m (t + 1) n = nC β a m t n + (if cc β a m t n = true then cT β a m (t / 10) else 0) := by
  unfold nC
  rw [cntF_cong (fun j _ _ => nP_s), cnt_or (fun j _ _ => nP_x)]
  congr 1
  by_cases hc : cc β a m t n = true
  · rw [if_pos hc, cntF_cong (q := fun e => decide (e % 10 = t % 10) && (fun e => gdE β a m e && decide (prO m e = t / 10)) (e / 10)) (fun j _ _ => by rw [hc, Bool.and_true]), show 10 ^ (m + 2) = 10 * 10 ^ (m + 1) by rw [Nat.pow_succ 10 (m + 1), Nat.mul_comm], cnt10 (P := fun e => gdE β a m e && decide (prO m e = t / 10)) (Nat.mod_lt _ (by omega))]
    rfl
  · rw [if_neg hc]
    exact cnt_no (fun j _ _ => by rw [bf hc, Bool.and_false, Bool.and_false])
theorem nL_s {m t n : Nat} : nL β a m (t + 1) n = if cc β a m t n = true then omn (nL β a m t n) ((lT β a m (t / 10)).map (fun e => 10 * e + t % 10)) else nL β a m t n := by
  unfold nL
  rw [fndF_cong (fun j _ _ => nP_s), fnd_or]
  by_cases hc : cc β a m t n = true
  · rw [if_pos hc, fndF_cong (p := fun e => decide (e % 10 = t % 10) && ((gdE β a m (e / 10) && decide (prO m (e / 10) = t / 10)) && cc β a m t n)) (q := fun e => decide (e % 10 = t % 10) && (fun e => gdE β a m e && decide (prO m e = t / 10)) (e / 10)) (fun j _ _ => by rw [hc, Bool.and_true]), show 10 ^ (m + 2) = 10 * 10 ^ (m + 1) by rw [Nat.pow_succ 10 (m + 1), Nat.mul_comm], fnd10 (P := fun e => gdE β a m e && decide (prO m e = t / 10)) (Nat.mod_lt _ (by omega))]
    rfl
  · rw [if_neg hc, fnd_nn (p := fun e => decide (e % 10 = t % 10) && ((gdE β a m (e / 10) && decide (prO m (e / 10) = t / 10)) && cc β a m t n)) (fun j _ _ => by rw [bf hc, Bool.and_false, Bool.and_false]), omn_none]
theorem nC_0 {m n : Nat} : nC β a m 0 n = 0 := cnt_no (fun j _ _ => by unfold nP; rw [decide_eq_false (show ¬ kyE m j < 0 by omega), Bool.and_false])
theorem nL_0 {m n : Nat} : nL β a m 0 n = none := fnd_nn (fun j _ _ => by unfold nP; rw [decide_eq_false (show ¬ kyE m j < 0 by omega), Bool.and_false])
theorem ky_lt {m e : Nat} (h : e < 10 ^ (m + 2)) : kyE m e < 1100 := by
  unfold kyE prO
  split
  · rename_i q
    subst q
    have : e < 100 := h
    omega
  · omega
theorem nC_all {m n : Nat} : nC β a m 1100 n = cT β a (m + 1) n := cntF_cong (fun j _ hj => by unfold nP; rw [decide_eq_true (ky_lt (by omega)), Bool.and_true])
theorem nL_all {m n : Nat} : nL β a m 1100 n = lT β a (m + 1) n := fndF_cong (fun j _ hj => by unfold nP; rw [decide_eq_true (ky_lt (by omega)), Bool.and_true])
theorem n_skip {m p n : Nat} (h : cT β a m p = 0) : ∀ j, j ≤ 10 → nC β a m (10 * p + j) n = nC β a m (10 * p) n ∧ nL β a m (10 * p + j) n = nL β a m (10 * p) n
  | 0, _ => ⟨rfl, rfl⟩
  | j + 1, hj => by
    obtain ⟨h1, h2⟩ := n_skip h j (by omega)
    have e1 : (10 * p + j) / 10 = p := by omega
    constructor
    · rw [← Nat.add_assoc, nC_s, h1, e1, h]; split <;> rfl
    · rw [← Nat.add_assoc, nL_s, h2, e1, c0_iff.mp h]
      split
      · exact omn_none
      · rfl
theorem p10 {m : Nat} (h : m ≤ 5) : 10 ^ m ≤ 100000 := Nat.pow_le_pow_right (n := 10) (by omega) h
theorem cT_le {m p : Nat} (h : m ≤ 4) : cT β a m p ≤ 100000 := Nat.le_trans cntF_le (p10 (by omega))
theorem nC_le {m t n : Nat} (h : m ≤ 3) : nC β a m t n ≤ 100000 := Nat.le_trans cntF_le (p10 (by omega))
theorem lT_lt {m p l : Nat} (h : m ≤ 4) (hl : lT β a m p = some l) : l < 100000 := by have := (fndF_some hl).2.1; have := p10 (m := m + 1) (by omega); omega
theorem nL_lt {m t n l : Nat} (h : m ≤ 3) (hl : nL β a m t n = some l) : l < 100000 := by have := (fndF_some hl).2.1; have := p10 (m := m + 2) (by omega); omega
theorem cT_pair {m p : Nat} (h : cT β a m p ≠ 0) : (m = 0 → 100 ≤ p) ∧ (0 < m → p < 100) := by
  cases hl : lT β a m p with
  | none => exact absurd (c0_iff.mpr hl) h
  | some l =>
    have := (fndF_some hl).2.2
    rw [Bool.and_eq_true] at this
    have h2 := of_decide_eq_true this.2
    unfold prO at h2
    constructor
    · intro z; rw [if_pos z] at h2; omega
    · intro z; rw [if_neg (by omega)] at h2; omega
theorem cT_0 {p : Nat} (hp : p < 110) : cT β a 0 p = if 100 ≤ p then 1 else 0 := by
  unfold cT
  rw [cntF_cong (q := fun e => decide (e = p - 100) && decide (100 ≤ p)) (fun j _ _ => ?_), cnt_one]
  · by_cases e : 100 ≤ p
    · rw [if_pos e, if_pos ⟨by omega, by show p - 100 < 0 + 10; omega, decide_eq_true e⟩]
    · rw [if_neg e, if_neg (fun z => e (of_decide_eq_true z.2.2))]
  · show (true && decide (100 + j = p)) = _
    rw [Bool.true_and]
    apply Bool.eq_iff_iff.mpr
    simp only [Bool.and_eq_true, decide_eq_true_eq]
    omega
theorem lT_0 {p : Nat} (hp : p < 110) : lT β a 0 p = if 100 ≤ p then some (p - 100) else none := by
  unfold lT
  by_cases e : 100 ≤ p
  · rw [if_pos e]
    refine fnd_eq (by omega) (by show p - 100 < 0 + 10; omega) ?_ (fun j _ hj => ?_)
    · show (true && decide (100 + (p - 100) = p)) = true
      rw [Bool.true_and]; exact decide_eq_true (by omega)
    · show (true && decide (100 + j = p)) = false
      rw [Bool.true_and]; exact decide_eq_false (by omega)
  · rw [if_neg e]
    refine fnd_nn (fun j _ _ => ?_)
    show (true && decide (100 + j = p)) = false
    rw [Bool.true_and]; exact decide_eq_false (by omega)
/-- the last place -/
def fP (β : Nat → Nat) (a m t e : Nat) : Bool := (gdE β a m e && chq β a m (prO m e) 0) && decide (prO m e < t)
def fC (β : Nat → Nat) (a m t : Nat) : Nat := cntF (fP β a m t) 0 (10 ^ (m + 1))
def fL (β : Nat → Nat) (a m t : Nat) : Option Nat := fndF (fP β a m t) 0 (10 ^ (m + 1))
theorem f0_iff {m t : Nat} : fC β a m t = 0 ↔ fL β a m t = none := cnt0_iff
theorem fP_s {m t e : Nat} : fP β a m (t + 1) e = (fP β a m t e || ((gdE β a m e && decide (prO m e = t)) && chq β a m t 0)) := by
  apply Bool.eq_iff_iff.mpr
  unfold fP
  simp only [Bool.and_eq_true, Bool.or_eq_true, decide_eq_true_eq]
  constructor
  · rintro ⟨⟨h1, h2⟩, h3⟩
    by_cases q : prO m e < t
    · exact Or.inl ⟨⟨h1, h2⟩, q⟩
    · have e1 : prO m e = t := by omega
      rw [e1] at h2
      exact Or.inr ⟨⟨h1, e1⟩, h2⟩
  · rintro (⟨h1, h2⟩ | ⟨⟨h1, e1⟩, h2⟩)
    · exact ⟨h1, by omega⟩
    · rw [← e1] at h2
      exact ⟨⟨h1, h2⟩, by omega⟩
theorem fC_s {m t : Nat} : fC β a m (t + 1) = fC β a m t + (if chq β a m t 0 = true then cT β a m t else 0) := by
  unfold fC
  rw [cntF_cong (fun j _ _ => fP_s), cnt_or (fun j _ _ => ?_)]
  · congr 1
    by_cases hc : chq β a m t 0 = true
    · rw [if_pos hc]
      exact cntF_cong (fun j _ _ => by rw [hc, Bool.and_true])
    · rw [if_neg hc]
      exact cnt_no (fun j _ _ => by rw [bf hc, Bool.and_false])
  · unfold fP
    simp only [Bool.and_eq_true, decide_eq_true_eq]
    rintro ⟨⟨-, h1⟩, ⟨-, h3⟩, -⟩
    omega
theorem fL_s {m t : Nat} : fL β a m (t + 1) = if chq β a m t 0 = true then omn (fL β a m t) (lT β a m t) else fL β a m t := by
  unfold fL
  rw [fndF_cong (fun j _ _ => fP_s), fnd_or]
  by_cases hc : chq β a m t 0 = true
  · rw [if_pos hc]
    congr 1
    exact fndF_cong (fun j _ _ => by rw [hc, Bool.and_true])
  · rw [if_neg hc, fnd_nn (p := fun e => (gdE β a m e && decide (prO m e = t)) && chq β a m t 0) (fun j _ _ => by rw [bf hc, Bool.and_false]), omn_none]
theorem fC_0 {m : Nat} : fC β a m 0 = 0 := cnt_no (fun j _ _ => by unfold fP; rw [decide_eq_false (show ¬ prO m j < 0 by omega), Bool.and_false])
theorem fL_0 {m : Nat} : fL β a m 0 = none := fnd_nn (fun j _ _ => by unfold fP; rw [decide_eq_false (show ¬ prO m j < 0 by omega), Bool.and_false])
theorem fP_all {m e : Nat} (h : e < 10 ^ (m + 1)) : fP β a m 110 e = (gdE β a m e && chq β a m (prO m e) 0) := by
  unfold fP
  rw [decide_eq_true, Bool.and_true]
  unfold prO
  split
  · rename_i q
    subst q
    have : e < 10 := h
    omega
  · omega
theorem fC_all (w : WF β) (ha : a < β 0) : fC β a (β 2 - 1) 110 = cntF (pst β a) 0 (10 ^ β 2) := by
  have := w.1.2.1
  unfold fC
  rw [show β 2 - 1 + 1 = β 2 by omega]
  exact cntF_cong (fun j _ hj => by rw [fP_all (by rw [show β 2 - 1 + 1 = β 2 by omega]; omega), pst_E w ha]; rfl)
theorem fL_all (w : WF β) (ha : a < β 0) : fL β a (β 2 - 1) 110 = fndF (pst β a) 0 (10 ^ β 2) := by
  have := w.1.2.1
  unfold fL
  rw [show β 2 - 1 + 1 = β 2 by omega]
  exact fndF_cong (fun j _ hj => by rw [fP_all (by rw [show β 2 - 1 + 1 = β 2 by omega]; omega), pst_E w ha]; rfl)
theorem fC_le {m t : Nat} (h : m ≤ 4) : fC β a m t ≤ 100000 := Nat.le_trans cntF_le (p10 (by omega))
theorem fL_lt {m t l : Nat} (h : m ≤ 4) (hl : fL β a m t = some l) : l < 100000 := by have := (fndF_some hl).2.1; have := p10 (m := m + 1) (by omega); omega
end PAST
