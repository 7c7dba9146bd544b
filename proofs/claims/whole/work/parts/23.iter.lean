/-! ===== loops: a run of N turns ===== -/
theorem iter1 {α ρ : Type} {L : Nat → α → Option ρ} {K : Option ρ} {F N : Nat} (s : Nat → α) (hF : N < F) (hs : ∀ i, i < N → ∀ n, L (n + 1) (s i) = L n (s (i + 1))) (he : ∀ n, L (n + 1) (s N) = K) : L F (s 0) = K := by
  have key : ∀ m i, i + m = N → ∀ n, L (n + 1 + m) (s i) = K := by
    intro m
    induction m with
    | zero => intro i hi n; rw [show i = N by omega]; exact he n
    | succ m ih => intro i hi n; rw [show n + 1 + (m + 1) = (n + 1 + m) + 1 by omega, hs i (by omega)]; exact ih (i + 1) (by omega) n
  have := key N 0 (by omega) (F - N - 1)
  rw [show F - N - 1 + 1 + N = F by omega] at this
  exact this
theorem iter2 {α β ρ : Type} {L : Nat → α → β → Option ρ} {K : Option ρ} {F N : Nat} (s : Nat → α) (t : Nat → β) (hF : N < F) (hs : ∀ i, i < N → ∀ n, L (n + 1) (s i) (t i) = L n (s (i + 1)) (t (i + 1))) (he : ∀ n, L (n + 1) (s N) (t N) = K) : L F (s 0) (t 0) = K :=
  iter1 (L := fun n (p : α × β) => L n p.1 p.2) (fun i => (s i, t i)) hF hs he
theorem iter3 {α β γ ρ : Type} {L : Nat → α → β → γ → Option ρ} {K : Option ρ} {F N : Nat} (s : Nat → α) (t : Nat → β) (u : Nat → γ) (hF : N < F) (hs : ∀ i, i < N → ∀ n, L (n + 1) (s i) (t i) (u i) = L n (s (i + 1)) (t (i + 1)) (u (i + 1))) (he : ∀ n, L (n + 1) (s N) (t N) (u N) = K) : L F (s 0) (t 0) (u 0) = K :=
  iter1 (L := fun n (p : α × β × γ) => L n p.1 p.2.1 p.2.2) (fun i => (s i, t i, u i)) hF hs he
/-- the same with an invariant: N turns are made, or the loop is left with an answer that holds Q -/
theorem iterI {α ρ : Type} {L : Nat → α → Option ρ} (I : Nat → α → Prop) {F N : Nat} (hF : N < F) (hs : ∀ i a, i < N → I i a → ∃ a', I (i + 1) a' ∧ ∀ n, L (n + 1) a = L n a') {a : α} (h0 : I 0 a) : ∃ a' n, I N a' ∧ L F a = L (n + 1) a' := by
  have key : ∀ m i a, i + m = N → I i a → ∃ a', I N a' ∧ ∀ n, L (n + m) a = L n a' := by
    intro m
    induction m with
    | zero => intro i a hi h; rw [show i = N by omega] at h; exact ⟨a, h, fun n => rfl⟩
    | succ m ih =>
      intro i a hi h
      obtain ⟨a1, h1, e1⟩ := hs i a (by omega) h
      obtain ⟨a2, h2, e2⟩ := ih (i + 1) a1 (by omega) h1
      exact ⟨a2, h2, fun n => by rw [show n + (m + 1) = (n + m) + 1 by omega, e1, e2]⟩
  obtain ⟨a', h1, e1⟩ := key N 0 a (by omega) h0
  refine ⟨a', F - N - 1, h1, ?_⟩
  rw [← e1, show F - N - 1 + 1 + N = F by omega]
theorem iterI2 {α β ρ : Type} {L : Nat → α → β → Option ρ} (I : Nat → α → β → Prop) {F N : Nat} (hF : N < F) (hs : ∀ i a b, i < N → I i a b → ∃ a' b', I (i + 1) a' b' ∧ ∀ n, L (n + 1) a b = L n a' b') {a : α} {b : β} (h0 : I 0 a b) : ∃ a' b' n, I N a' b' ∧ L F a b = L (n + 1) a' b' := by
  obtain ⟨p, n, h, e⟩ := iterI (L := fun n (p : α × β) => L n p.1 p.2) (fun i p => I i p.1 p.2) hF (fun i p hi h => by obtain ⟨a', b', h1, h2⟩ := hs i p.1 p.2 hi h; exact ⟨(a', b'), h1, h2⟩) (a := (a, b)) h0
  exact ⟨p.1, p.2, n, h, e⟩
theorem iterI3 {α β γ ρ : Type} {L : Nat → α → β → γ → Option ρ} (I : Nat → α → β → γ → Prop) {F N : Nat} (hF : N < F) (hs : ∀ i a b c, i < N → I i a b c → ∃ a' b' c', I (i + 1) a' b' c' ∧ ∀ n, L (n + 1) a b c = L n a' b' c') {a : α} {b : β} {c : γ} (h0 : I 0 a b c) : ∃ a' b' c' n, I N a' b' c' ∧ L F a b c = L (n + 1) a' b' c' := by
  obtain ⟨p, n, h, e⟩ := iterI (L := fun n (p : α × β × γ) => L n p.1 p.2.1 p.2.2) (fun i p => I i p.1 p.2.1 p.2.2) hF (fun i p hi h => by obtain ⟨a', b', c', h1, h2⟩ := hs i p.1 p.2.1 p.2.2 hi h; exact ⟨(a', b', c'), h1, h2⟩) (a := (a, b, c)) h0
  exact ⟨p.1, p.2.1, p.2.2, n, h, e⟩
theorem foldF_n {α : Type} {f : Nat → α → α} : ∀ {m i : Nat} {x : α}, foldF f i (m + 1) x = f (i + m) (foldF f i m x)
  | 0, i, x => rfl
  | m + 1, i, x => by rw [foldF_s, foldF_n, foldF_s, show i + 1 + m = i + (m + 1) by omega]
theorem cntF_n {p : Nat → Bool} : ∀ {m i : Nat}, cntF p i (m + 1) = cntF p i m + (if p (i + m) = true then 1 else 0)
  | 0, i => by rw [cntF_s]; exact Nat.add_comm _ _
  | m + 1, i => by rw [cntF_s, cntF_n, cntF_s, show i + 1 + m = i + (m + 1) by omega]; omega
theorem putA_n {a : Nat} {f : Nat → Int32} {i m : Nat} {μ : Mm} : putA μ a f i (m + 1) = sA (putA μ a f i m) a (i + m) (f (i + m)) := foldF_n
theorem fndF_none {p : Nat → Bool} : ∀ {m i : Nat}, fndF p i m = none → ∀ j, i ≤ j → j < i + m → p j = false
  | 0, i, _, j, h1, h2 => by omega
  | m + 1, i, h, j, h1, h2 => by
    rw [fndF_s] at h
    by_cases hp : p i = true
    · rw [if_pos hp] at h; cases h
    · rw [if_neg hp] at h
      by_cases e : j = i
      · subst e; cases q : p j; rfl; exact absurd q hp
      · exact fndF_none h j (by omega) (by omega)
theorem fndF_first {p : Nat → Bool} : ∀ {m i l : Nat}, fndF p i m = some l → ∀ j, i ≤ j → j < l → p j = false
  | 0, i, l, h, _, _, _ => by cases h
  | m + 1, i, l, h, j, h1, h2 => by
    rw [fndF_s] at h
    by_cases hp : p i = true
    · rw [if_pos hp] at h; cases h; omega
    · rw [if_neg hp] at h
      by_cases e : j = i
      · subst e; cases q : p j; rfl; exact absurd q hp
      · exact fndF_first h j (by omega) (by omega)
/-- a loop that seeks the first place -/
theorem seek1 {ρ : Type} {L : Nat → Int32 → Option ρ} {K : Option ρ} {G : Nat → Option ρ} {F N : Nat} (p : Nat → Bool) (j : Nat) (hF : N < F) (hs : ∀ i, i < N → ∀ n, L (n + 1) (nI (j + i)) = if p (j + i) = true then G (j + i) else L n (nI (j + i + 1))) (he : ∀ n, L (n + 1) (nI (j + N)) = K) : L F (nI j) = (match fndF p j N with | none => K | some l => G l) := by
  cases h : fndF p j N with
  | none =>
    exact iter1 (fun i => nI (j + i)) hF (fun i hi n => by rw [hs i hi, if_neg (by rw [fndF_none h (j + i) (by omega) (by omega)]; decide)]; rfl) he
  | some l =>
    obtain ⟨h1, h2, h3⟩ := fndF_some h
    have h4 := fndF_first h
    exact iter1 (N := l - j) (fun i => nI (j + i)) (by omega) (fun i hi n => by rw [hs i (by omega), if_neg (by rw [h4 (j + i) (by omega) (by omega)]; decide)]; rfl) (fun n => by rw [hs (l - j) (by omega), show j + (l - j) = l by omega, if_pos h3])
