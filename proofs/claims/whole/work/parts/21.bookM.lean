/-! ===== a book as numbers (the reference's own layout), and the reference's reads of it ===== -/
def updN (f : Nat → Nat) (k x : Nat) : Nat → Nat := fun j => if j = k then x else f j
/-- how many of m places from i on -/
def cntF (p : Nat → Bool) : Nat → Nat → Nat
  | _, 0 => 0
  | i, m + 1 => (if p i = true then 1 else 0) + cntF p (i + 1) m
/-- the first of m places from i on -/
def fndF (p : Nat → Bool) : Nat → Nat → Option Nat
  | _, 0 => none
  | i, m + 1 => if p i = true then some i else fndF p (i + 1) m
/-- through m places from i on -/
def foldF {α : Type} (f : Nat → α → α) : Nat → Nat → α → α
  | _, 0, x => x
  | i, m + 1, x => foldF f (i + 1) m (f i x)
theorem foldF_s {α : Type} (f : Nat → α → α) (i m : Nat) (x : α) : foldF f i (m + 1) x = foldF f (i + 1) m (f i x) := rfl
theorem cntF_s (p : Nat → Bool) (i m : Nat) : cntF p i (m + 1) = (if p i = true then 1 else 0) + cntF p (i + 1) m := rfl
theorem fndF_s (p : Nat → Bool) (i m : Nat) : fndF p i (m + 1) = if p i = true then some i else fndF p (i + 1) m := rfl
theorem fndF_some {p : Nat → Bool} : ∀ {m i l : Nat}, fndF p i m = some l → i ≤ l ∧ l < i + m ∧ p l = true
  | 0, i, l, h => by cases h
  | m + 1, i, l, h => by
    unfold fndF at h
    by_cases hp : p i = true
    · rw [if_pos hp] at h
      cases h
      exact ⟨Nat.le_refl _, by omega, hp⟩
    · rw [if_neg hp] at h
      obtain ⟨h1, h2, h3⟩ := fndF_some h
      exact ⟨by omega, by omega, h3⟩
theorem cntF_le {p : Nat → Bool} : ∀ {m i : Nat}, cntF p i m ≤ m
  | 0, i => Nat.le_refl _
  | m + 1, i => by
    have := cntF_le (p := p) (m := m) (i := i + 1)
    unfold cntF
    split <;> omega
theorem cntF_cong {p q : Nat → Bool} : ∀ {m i : Nat}, (∀ j, i ≤ j → j < i + m → p j = q j) → cntF p i m = cntF q i m
  | 0, i, _ => rfl
  | m + 1, i, h => by
    unfold cntF
    rw [h i (Nat.le_refl _) (by omega), cntF_cong (fun j h1 h2 => h j (by omega) (by omega))]
theorem fndF_cong {p q : Nat → Bool} : ∀ {m i : Nat}, (∀ j, i ≤ j → j < i + m → p j = q j) → fndF p i m = fndF q i m
  | 0, i, _ => rfl
  | m + 1, i, h => by
    unfold fndF
    rw [h i (Nat.le_refl _) (by omega), fndF_cong (fun j h1 h2 => h j (by omega) (by omega))]
theorem foldF_cong {α : Type} {f g : Nat → α → α} : ∀ {m i : Nat} {x : α}, (∀ j y, i ≤ j → j < i + m → f j y = g j y) → foldF f i m x = foldF g i m x
  | 0, i, x, _ => rfl
  | m + 1, i, x, h => by
    unfold foldF
    rw [h i x (Nat.le_refl _) (by omega), foldF_cong (fun j y h1 h2 => h j y (by omega) (by omega))]
/-- cells -/
def cl (β : Nat → Nat) : Nat := β 0 * β 2
def WF (β : Nat → Nat) : Prop := (β 0 ≤ 5 ∧ 1 ≤ β 2 ∧ β 2 ≤ 5 ∧ β 1 ≤ 10 ∧ 1 ≤ β 3 ∧ β 3 ≤ 9 ∧ β 4 ≤ 16 ∧ β 5 ≤ 20000 ∧ (β 7 < cl β ∨ (β 0 = 0 ∧ β 7 = 0))) ∧ (∀ a, a < 5 → β (8 + a) ≤ 1) ∧ (∀ k, k < 25 → β (13 + k) ≤ 9 ∧ β (38 + k) ≤ 9 ∧ β (63 + k) ≤ 9) ∧ (∀ l, l < 10 → β (88 + l) ≤ 9 ∧ β (98 + l) ≤ 9 ∧ β (108 + l) ≤ 4 ∧ β (118 + l) ≤ 9)
theorem WF.cl_le {β : Nat → Nat} (w : WF β) : cl β ≤ 25 := by
  obtain ⟨⟨h0, h1, h2, -⟩, -⟩ := w
  unfold cl
  calc β 0 * β 2 ≤ 5 * 5 := Nat.mul_le_mul h0 h2
    _ = 25 := rfl
/-- the reference's block 0 holds the book -/
def CB (μ : Mm) (β : Nat → Nat) : Prop := ∀ k, k < 128 → mA μ 146 k = nI (β k)
theorem CB.rd {μ : Mm} {β : Nat → Nat} (h : CB μ β) {k : Nat} (hk : k < 128) : rdA μ 146 2000 (nI k) = some (nI (β k)) := by
  rw [rdA_n (by omega) (by omega), h k hk]
theorem CB.wr {μ : Mm} {β : Nat → Nat} (h : CB μ β) {k : Nat} (hk : k < 128) (x : Nat) : CB (sA μ 146 k (nI x)) (updN β k x) := by
  intro j hj
  rw [mA_sA, if_pos rfl]
  unfold updN
  by_cases e : j = k
  · rw [if_pos e, if_pos e]
  · rw [if_neg e, if_neg e]; exact h j hj
theorem CB.rdL {μ : Mm} {β : Nat → Nat} (h : CB μ β) (k : Nat) {v : Int32} (hv : v = nI k) (hk : k < 128) : rdA μ 146 2000 v = some (nI (β k)) := by rw [hv]; exact h.rd hk
theorem CB.rl {μ : Mm} {β : Nat → Nat} (h : CB μ β) (k : Nat) (hk : k < 128) : rdA μ 146 2000 (OfNat.ofNat k : Int32) = some (nI (β k)) := by rw [fa_lit]; exact h.rd hk
theorem CB.at {μ ν : Mm} {β : Nat → Nat} (h : CB μ β) (e : mA ν 146 = mA μ 146) : CB ν β := fun k hk => by rw [e]; exact h k hk
section BM
variable {μ : Mm} {β : Nat → Nat} {F : Nat}
theorem M_cells (h : CB μ β) : f_X12_cells μ = some (nI (cl β)) := by
  unfold f_X12_cells
  rw [h.rl 0 (by omega), h.rl 2 (by omega)]
  show some (nI (β 0) * nI (β 2)) = _
  rw [pk_mul]
  rfl
theorem M_isCellAt (h : CB μ β) (w : WF β) (v : Int32) : f_X12_isCellAt v μ = some (inN v (cl β)) := by
  unfold f_X12_isCellAt
  rw [M_cells h]
  have := w.cl_le
  show (f_X12_isIn v.toInt64 0 ((nI (cl β) - 1).toInt64) μ).bind _ = _
  rw [isIn_n v (by omega)]
  rfl
theorem M_isAccountAt (h : CB μ β) (w : WF β) (v : Int32) : f_X12_isAccountAt v μ = some (inN v (β 0)) := by
  unfold f_X12_isAccountAt
  rw [h.rl 0 (by omega)]
  have := w.1.1
  show (f_X12_isIn v.toInt64 0 ((nI (β 0) - 1).toInt64) μ).bind _ = _
  rw [isIn_n v (by omega)]
  rfl
theorem M_isLawAt (h : CB μ β) (w : WF β) (v : Int32) : f_X12_isLawAt v μ = some (inN v (β 1)) := by
  unfold f_X12_isLawAt
  rw [h.rl 1 (by omega)]
  have := w.1.2.2.2.1
  show (f_X12_isIn v.toInt64 0 ((nI (β 1) - 1).toInt64) μ).bind _ = _
  rw [isIn_n v (by omega)]
  rfl
def wrg (β : Nat → Nat) (k : Nat) : Bool := decide (β (13 + k) ≠ β (38 + k))
theorem lit (n : Nat) (k : Nat) : (OfNat.ofNat n : Int32) + nI k = nI (n + k) := by rw [fa_lit, nI_add]
theorem M_isWrong (h : CB μ β) (w : WF β) {k : Nat} (hk : k < 25) : f_X12_isWrong (nI k) μ = some (wrg β k) := by
  unfold f_X12_isWrong
  rw [h.rdL (13 + k) (lit 13 k) (by omega)]
  show (rdA μ 146 2000 (38 + nI k)).bind _ = _
  rw [h.rdL (38 + k) (lit 38 k) (by omega)]
  show (if nI (β (13 + k)) = nI (β (38 + k)) then some false else some true) = _
  obtain ⟨b1, b2, -⟩ := w.2.2.1 k hk
  unfold wrg
  by_cases e : β (13 + k) = β (38 + k)
  · rw [if_pos (by rw [e]), e]; simp
  · rw [if_neg (fun q => e ((nIeq (by omega) (by omega)).mp q))]; simp [e]
theorem has_eq (s : Int32) (v : Int32) : f_X12_has s v μ = some (decide ((s >>> (v &&& 31)) &&& 1 = 1)) := by
  unfold f_X12_has
  split <;> simp [*]
/-- a set's k-th bit -/
def bit (s : Int32) (k : Nat) : Bool := decide ((s >>> (nI k &&& 31)) &&& 1 = 1)
theorem M_wrongOf_L (h : CB μ β) (w : WF β) (s : Int32) (kk : Int32 → Option Int32) : ∀ (m i n : Nat) (v : Int32), i + m = cl β → m < n → L_X12_wrongOf_4 F s kk μ n v (nI i) = kk (v + nI (cntF (fun k => bit s k && wrg β k) i m)) := by
  have hc := w.cl_le
  intro m
  induction m with
  | zero =>
    intro i n v hi hn
    obtain ⟨n, rfl⟩ : ∃ q, n = q + 1 := ⟨n - 1, by omega⟩
    rw [L_X12_wrongOf_4_s, M_cells h]
    show (if nI (cl β) ≤ nI i then kk v else _) = _
    rw [if_pos ((nIle (by omega) (by omega)).mpr (by omega))]
    show kk v = kk (v + nI 0)
    rw [nI_0, Int32.add_zero]
  | succ m ih =>
    intro i n v hi hn
    obtain ⟨n, rfl⟩ : ∃ q, n = q + 1 := ⟨n - 1, by omega⟩
    rw [L_X12_wrongOf_4_s, M_cells h]
    show (if nI (cl β) ≤ nI i then kk v else _) = _
    rw [if_neg (fun q => by have := (nIle (by omega) (by omega)).mp q; omega), has_eq]
    show (if bit s i = true then _ else _) = _
    rw [nI_1]
    unfold cntF
    by_cases hb : bit s i = true
    · rw [if_pos hb, M_isWrong h w (by omega)]
      show L_X12_wrongOf_4 F s kk μ n (v + if wrg β i = true then 1 else 0) (nI (i + 1)) = _
      rw [ih (i + 1) n _ (by omega) (by omega), hb, Bool.true_and]
      congr 1
      by_cases hw : wrg β i = true
      · rw [if_pos hw, if_pos hw, Int32.add_assoc, ← nI_add]; rfl
      · rw [if_neg hw, if_neg hw, Nat.zero_add, Int32.add_zero]
    · rw [if_neg hb, ih (i + 1) n _ (by omega) (by omega)]
      have hb2 : bit s i = false := by cases hh : bit s i; rfl; exact absurd hh hb
      rw [hb2, Bool.false_and, if_neg (by decide), Nat.zero_add, Int32.add_zero]
def wrongs (β : Nat → Nat) (s : Int32) : Nat := cntF (fun k => bit s k && wrg β k) 0 (cl β)
theorem M_wrongOf (h : CB μ β) (w : WF β) (hF : 2000000 ≤ F) (s : Int32) : f_X12_wrongOf F s μ = some (nI (wrongs β s)) := by
  unfold f_X12_wrongOf
  have hc := w.cl_le
  have := M_wrongOf_L (F := F) h w s (fun u => some u) (cl β) 0 F 0 (by omega) (by omega)
  rw [nI_0] at this
  rw [this, Int32.zero_add]
  rfl
theorem bit_all : ∀ k, k < 25 → bit (-1) k = true := by decide +kernel
def wrongAll (β : Nat → Nat) : Nat := cntF (wrg β) 0 (cl β)
theorem M_allWrong (h : CB μ β) (w : WF β) (hF : 2000000 ≤ F) : f_X12_allWrong F μ = some (nI (wrongAll β)) := by
  unfold f_X12_allWrong
  rw [M_wrongOf h w hF]
  show some (nI (wrongs β (-1))) = _
  unfold wrongs wrongAll
  rw [cntF_cong (q := wrg β) (fun j _ hj => by rw [bit_all j (by have := w.cl_le; omega), Bool.true_and])]
theorem M_tappedSet_L (h : CB μ β) (w : WF β) (kk : Int32 → Option Int32) : ∀ (m i n : Nat) (v : Int32), i + m = cl β → m < n → L_X12_tappedSet_4 F kk μ n v (nI i) = kk (foldF (fun k x => x ||| (if β (63 + k) = 0 then (0 : Int32) else (1 : Int32) <<< (nI k &&& 31))) i m v) := by
  have hc := w.cl_le
  intro m
  induction m with
  | zero =>
    intro i n v hi hn
    obtain ⟨n, rfl⟩ : ∃ q, n = q + 1 := ⟨n - 1, by omega⟩
    rw [L_X12_tappedSet_4_s, M_cells h]
    show (if nI (cl β) ≤ nI i then kk v else _) = _
    rw [if_pos ((nIle (by omega) (by omega)).mpr (by omega))]
    rfl
  | succ m ih =>
    intro i n v hi hn
    obtain ⟨n, rfl⟩ : ∃ q, n = q + 1 := ⟨n - 1, by omega⟩
    rw [L_X12_tappedSet_4_s, M_cells h]
    show (if nI (cl β) ≤ nI i then kk v else _) = _
    rw [if_neg (fun q => by have := (nIle (by omega) (by omega)).mp q; omega), h.rdL (63 + i) (lit 63 i) (by omega)]
    show L_X12_tappedSet_4 F kk μ n (v ||| if nI (β (63 + i)) ≤ 0 then (0 : Int32) else (1 : Int32) <<< (nI i &&& 31)) (nI i + 1) = _
    rw [nI_1, ih (i + 1) n _ (by omega) (by omega), foldF_s]
    have hb := (w.2.2.1 i (by omega)).2.2
    congr 2
    rw [show (0 : Int32) = nI 0 from rfl]
    by_cases e : β (63 + i) = 0
    · rw [if_pos ((nIle (by omega) (by omega)).mpr (by omega)), if_pos e]
    · rw [if_neg (fun q => by have := (nIle (by omega) (by omega)).mp q; omega), if_neg e]
def tapSet (β : Nat → Nat) : Int32 := foldF (fun k x => x ||| (if β (63 + k) = 0 then (0 : Int32) else (1 : Int32) <<< (nI k &&& 31))) 0 (cl β) 0
theorem M_tappedSet (h : CB μ β) (w : WF β) (hF : 2000000 ≤ F) : f_X12_tappedSet F μ = some (tapSet β) := by
  unfold f_X12_tappedSet
  have hc := w.cl_le
  have := M_tappedSet_L (F := F) h w (fun u => some u) (cl β) 0 F 0 (by omega) (by omega)
  rw [nI_0] at this
  rw [this]
  rfl
/-- an account's digits as a number; the row begins at place r of the block -/
def sumN (β : Nat → Nat) (r a : Nat) : Nat := foldF (fun p x => 10 * x + β (r + (β 2 * a + p))) 0 (β 2) 0
theorem M_sumOf_L (h : CB μ β) (w : WF β) {r a : Nat} (ha : a < 5) (hr : r = 13 ∨ r = 38) (kk : Int32 → Option Int32) : ∀ (m i n x : Nat), i + m = β 2 → m < n → L_X12_sumOf_5 F (nI r) (nI a) kk μ n (nI x) (nI i) = kk (nI (foldF (fun p x => 10 * x + β (r + (β 2 * a + p))) i m x)) := by
  have hw := w.1.2.2.1
  intro m
  induction m with
  | zero =>
    intro i n x hi hn
    obtain ⟨n, rfl⟩ : ∃ q, n = q + 1 := ⟨n - 1, by omega⟩
    rw [L_X12_sumOf_5_s, h.rl 2 (by omega)]
    show (if nI (β 2) ≤ nI i then kk (nI x) else _) = _
    rw [if_pos ((nIle (by omega) (by omega)).mpr (by omega))]
    rfl
  | succ m ih =>
    intro i n x hi hn
    obtain ⟨n, rfl⟩ : ∃ q, n = q + 1 := ⟨n - 1, by omega⟩
    have hp : β 2 * a ≤ 5 * 4 := Nat.mul_le_mul hw (by omega)
    rw [L_X12_sumOf_5_s, h.rl 2 (by omega)]
    show (if nI (β 2) ≤ nI i then kk (nI x) else _) = _
    rw [if_neg (fun q => by have := (nIle (by omega) (by omega)).mp q; omega)]
    show (rdA μ 146 2000 (nI r + nI (β 2) * nI a + nI i)).bind _ = _
    rw [h.rdL (r + (β 2 * a + i)) (by rw [pk_mul, nI_add, nI_add, Nat.add_assoc]) (by omega)]
    show L_X12_sumOf_5 F (nI r) (nI a) kk μ n (10 * nI x + nI (β (r + (β 2 * a + i)))) (nI i + 1) = _
    rw [nI_1, show (10 : Int32) = nI 10 from rfl, pk_mul, nI_add, ih (i + 1) n _ (by omega) (by omega)]
    rfl
theorem M_sumOf (h : CB μ β) (w : WF β) (hF : 2000000 ≤ F) {r a : Nat} (ha : a < 5) (hr : r = 13 ∨ r = 38) : f_X12_sumOf F (nI r) (nI a) μ = some (nI (sumN β r a)) := by
  unfold f_X12_sumOf
  have hw := w.1.2.2.1
  have := M_sumOf_L (F := F) h w ha hr (fun u => some u) (β 2) 0 F 0 (by omega) (by omega)
  rw [nI_0] at this
  exact this
/-- debits less credits -/
def bal (β : Nat → Nat) : Int32 := foldF (fun a x => x + (if β (8 + a) = 0 then nI (sumN β 13 a) else -nI (sumN β 13 a))) 0 (β 0) 0
theorem M_balanced_L (h : CB μ β) (w : WF β) (hF : 2000000 ≤ F) (kk : Int32 → Option Int32) : ∀ (m i n : Nat) (x : Int32), i + m = β 0 → m < n → L_X12_balanced_4 F kk μ n x (nI i) = kk (foldF (fun a x => x + (if β (8 + a) = 0 then nI (sumN β 13 a) else -nI (sumN β 13 a))) i m x) := by
  have hw := w.1.1
  intro m
  induction m with
  | zero =>
    intro i n x hi hn
    obtain ⟨n, rfl⟩ : ∃ q, n = q + 1 := ⟨n - 1, by omega⟩
    rw [L_X12_balanced_4_s, h.rl 0 (by omega)]
    show (if nI (β 0) ≤ nI i then kk x else _) = _
    rw [if_pos ((nIle (by omega) (by omega)).mpr (by omega))]
    rfl
  | succ m ih =>
    intro i n x hi hn
    obtain ⟨n, rfl⟩ : ∃ q, n = q + 1 := ⟨n - 1, by omega⟩
    rw [L_X12_balanced_4_s, h.rl 0 (by omega)]
    show (if nI (β 0) ≤ nI i then kk x else _) = _
    rw [if_neg (fun q => by have := (nIle (by omega) (by omega)).mp q; omega), h.rdL (8 + i) (lit 8 i) (by omega)]
    show (if nI (β (8 + i)) = 0 then (f_X12_sumOf F 13 (nI i) μ).bind _ else (f_X12_sumOf F 13 (nI i) μ).bind _) = _
    rw [show (13 : Int32) = nI 13 from rfl, M_sumOf h w hF (by omega) (Or.inl rfl)]
    have hb := w.2.1 i (by omega)
    rw [foldF_s]
    by_cases e : β (8 + i) = 0
    · rw [if_pos (by rw [e]; rfl), if_pos e]
      show L_X12_balanced_4 F kk μ n (x + nI (sumN β 13 i)) (nI i + 1) = _
      rw [nI_1, ih (i + 1) n _ (by omega) (by omega)]
    · rw [if_neg (fun q => e ((eqL (n := 0) (by omega) (by decide)).mp q)), if_neg e]
      show L_X12_balanced_4 F kk μ n (x + -nI (sumN β 13 i)) (nI i + 1) = _
      rw [nI_1, ih (i + 1) n _ (by omega) (by omega)]
theorem M_balanced (h : CB μ β) (w : WF β) (hF : 2000000 ≤ F) : f_X12_balanced F μ = some (bal β) := by
  unfold f_X12_balanced
  have hw := w.1.1
  have := M_balanced_L (F := F) h w hF (fun u => some u) (β 0) 0 F 0 (by omega) (by omega)
  rw [nI_0] at this
  exact this
theorem M_isEven (h : CB μ β) (w : WF β) (hF : 2000000 ≤ F) : f_X12_isEven F μ = some (decide (bal β = 0)) := by
  unfold f_X12_isEven
  rw [M_balanced h w hF]
  show (if bal β = 0 then some true else some false) = _
  by_cases e : bal β = 0 <;> simp [e]
/-- the cell beside (1 left, 2 right, 3 above, else below) -/
def bes (β : Nat → Nat) (k p : Nat) : Option Nat := if p = 1 then (if k % β 2 = 0 then none else some (k - 1)) else if p = 2 then (if k % β 2 = β 2 - 1 then none else some (k + 1)) else if p = 3 then (if k < β 2 then none else some (k - β 2)) else (if k + β 2 < cl β then some (k + β 2) else none)
def oI (o : Option Nat) : Int32 := match o with
  | none => -1
  | some k => nI k
theorem inN_neg {a b : Nat} (h : a < b) (hb : b < 1000) (n : Nat) : inN (nI a - nI b) n = false := by
  have : (nI a - nI b).toInt = (a : Int) - b := pk_sub_toInt (by omega) (by omega)
  unfold inN
  rw [this]
  simp
  omega
theorem rem_n {a d : Nat} (ha : a < 2147483648) (h0 : 0 < d) (hd : d < 2147483648) : nI a - nI a / nI d * nI d = nI (a % d) := pk_rem (by omega) h0 (by omega)
theorem M_besideOf (h : CB μ β) (w : WF β) {k p : Nat} (hk : k < cl β) (hp : p ≤ 4) : f_X12_besideOf (nI k) (nI p) μ = some (oI (bes β k p)) := by
  have hc := w.cl_le
  obtain ⟨⟨-, w1, w2, -⟩, -⟩ := id w
  have hm : k % β 2 < β 2 := Nat.mod_lt _ (by omega)
  unfold f_X12_besideOf jn bes
  rw [h.rl 2 (by omega)]
  simp (disch := omega) only [Option.bind_some, eqL, rem_n, subL, addL, nIsub, nIeq, nI_add, M_isCellAt h w]
  rw [if_neg (by omega)]
  by_cases h1 : p = 1
  · simp only [h1, if_true]
    by_cases e : k % β 2 = 0
    · simp only [e, if_true]; rfl
    · have hk0 : 0 < k := Nat.pos_of_ne_zero (fun z => e (by rw [z]; exact Nat.zero_mod _))
      rw [if_neg e, if_neg e, subL (by omega)]; rfl
  · rw [if_neg h1, if_neg h1]
    by_cases h2 : p = 2
    · rw [if_pos h2, if_pos h2]
      by_cases e : k % β 2 = β 2 - 1
      · rw [if_pos e, if_pos e]; rfl
      · rw [if_neg e, if_neg e]; rfl
    · rw [if_neg h2, if_neg h2]
      by_cases h3 : p = 3
      · rw [if_pos h3, if_pos h3]
        by_cases e : k < β 2
        · rw [if_pos e, inN_neg e (by omega)]; rfl
        · rw [if_neg e, nIsub (by omega), inN_k (by omega) (by omega)]; rfl
      · rw [if_neg h3, if_neg h3]
        by_cases e : k + β 2 < cl β
        · rw [if_pos e, inN_k (by omega) (by omega)]; rfl
        · rw [if_neg e]
          have : inN (nI (k + β 2)) (cl β) = false := by
            unfold inN
            rw [nI_ti (by omega)]
            simp
            omega
          rw [this]; rfl
theorem bes_lt (w : WF β) {k p j : Nat} (hk : k < cl β) (h : bes β k p = some j) : j < cl β := by
  obtain ⟨⟨w0, w1, w2, -⟩, -⟩ := id w
  unfold bes at h
  split at h
  · split at h
    · cases h
    · cases h; omega
  · split at h
    · split at h
      · cases h
      · rename_i q
        cases h
        have hm : k % β 2 < β 2 := Nat.mod_lt _ (by omega)
        have hd := Nat.div_add_mod k (β 2)
        have hq : k / β 2 < β 0 := Nat.div_lt_of_lt_mul (by unfold cl at hk; rw [Nat.mul_comm]; exact hk)
        have hx : β 2 * (k / β 2) + β 2 ≤ β 2 * β 0 := by
          have := Nat.mul_le_mul_left (β 2) hq
          rw [Nat.mul_succ] at this
          exact this
        unfold cl
        rw [Nat.mul_comm (β 0)]
        omega
    · split at h
      · split at h
        · cases h
        · cases h; omega
      · split at h
        · cases h; assumption
        · cases h
end BM
