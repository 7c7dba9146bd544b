/-! ===== the reference: laws, drift, an hour ===== -/
/-- does law l bear on cell k, the digits being d -/
def brs (β : Nat → Nat) (d : Nat → Nat) (l k : Nat) : Bool := decide (β (88 + l) = d k) && (decide (β (108 + l) = 0) || (match bes β k (β (108 + l)) with
  | none => false
  | some j => decide (d j = β (118 + l))))
def lawOf (β : Nat → Nat) (d : Nat → Nat) (k : Nat) : Option Nat := fndF (fun l => brs β d l k) 0 (β 1)
def dgs (β : Nat → Nat) (k : Nat) : Nat := β (13 + k)
def becomes (β : Nat → Nat) (d : Nat → Nat) (k : Nat) : Nat := match lawOf β d k with
  | none => d k
  | some l => β (98 + l)
section DM
variable {μ : Mm} {β : Nat → Nat} {F : Nat}
theorem oI_lt0 {o : Option Nat} (h : ∀ k, o = some k → k < 2147483648) : (oI o < 0) ↔ o = none := by
  cases o with
  | none => simp [oI]
  | some k =>
    have := nI_n0 (h k rfl)
    simp [oI, this]
theorem oI_ge0 {o : Option Nat} (h : ∀ k, o = some k → k < 2147483648) : (0 ≤ oI o) ↔ o ≠ none := by
  cases o with
  | none => simp [oI]
  | some k =>
    have := fa_of_nlt (nI_n0 (h k rfl))
    simp [oI, this]
theorem oI_m1 {o : Option Nat} (h : ∀ k, o = some k → k < 2147483648) : (oI o = -1) ↔ o = none := by
  cases o with
  | none => simp [oI]
  | some k => simp [oI, neg_ne (h k rfl)]
theorem M_bearsOn (h : CB μ β) (w : WF β) {l k : Nat} (hl : l < 10) (hk : k < cl β) : f_X12_bearsOn (nI l) (nI k) μ = some (brs β (dgs β) l k) := by
  have hc := w.cl_le
  obtain ⟨l1, l2, l3, l4⟩ := w.2.2.2 l hl
  have hd := (w.2.2.1 k (by omega)).1
  unfold f_X12_bearsOn brs dgs
  simp (disch := omega) only [Option.bind_some, bd_some, eqL, leL, ltL, Lle, Llt, addL, Ladd, Lmul, mulL, nIle, nIlt, nIeq, nI_add, pk_mul, h.rd, M_besideOf h w hk]
  by_cases e : β (88 + l) = β (13 + k)
  · rw [if_pos e, decide_eq_true e, Bool.true_and]
    by_cases z : β (108 + l) = 0
    · rw [if_pos z, decide_eq_true z, Bool.true_or]
    · rw [if_neg z, decide_eq_false z, Bool.false_or]
      cases hb : bes β k (β (108 + l)) with
      | none => rfl
      | some j =>
        have hj := bes_lt w hk hb
        have hd2 := (w.2.2.1 j (by omega)).1
        rw [if_neg (fun q => by have := (oI_lt0 (o := some j) (fun k hk => by cases hk; omega)).mp q; cases this)]
        show (rdA μ 146 2000 (13 + nI j)).bind _ = _
        simp (disch := omega) only [Option.bind_some, bd_some, eqL, leL, ltL, Lle, Llt, addL, Ladd, Lmul, mulL, nIle, nIlt, nIeq, nI_add, pk_mul, h.rd]
        by_cases e2 : β (13 + j) = β (118 + l)
        · rw [if_pos e2]; simp [e2]
        · rw [if_neg e2]; simp [e2]
  · rw [if_neg e, decide_eq_false e, Bool.false_and]
theorem M_lawOn_L (h : CB μ β) (w : WF β) {k : Nat} (hk : k < cl β) (kk : Option Int32) : ∀ (m i n : Nat), i + m = β 1 → m < n → L_X12_lawOn_2 F (nI k) kk μ n (nI i) = (match fndF (fun l => brs β (dgs β) l k) i m with | none => kk | some l => some (nI l)) := by
  have hw := w.1.2.2.2.1
  intro m
  induction m with
  | zero =>
    intro i n hi hn
    obtain ⟨n, rfl⟩ : ∃ q, n = q + 1 := ⟨n - 1, by omega⟩
    rw [L_X12_lawOn_2_s]
    simp (disch := omega) only [Option.bind_some, bd_some, eqL, leL, ltL, Lle, Llt, addL, Ladd, Lmul, mulL, nIle, nIlt, nIeq, nI_add, pk_mul, h.rl 1 (by omega)]
    rw [if_pos (by omega)]
    rfl
  | succ m ih =>
    intro i n hi hn
    obtain ⟨n, rfl⟩ : ∃ q, n = q + 1 := ⟨n - 1, by omega⟩
    rw [L_X12_lawOn_2_s]
    simp (disch := omega) only [Option.bind_some, bd_some, eqL, leL, ltL, Lle, Llt, addL, Ladd, Lmul, mulL, nIle, nIlt, nIeq, nI_add, pk_mul, h.rl 1 (by omega), M_bearsOn h w _ hk]
    rw [if_neg (by omega), fndF_s]
    show (if brs β (dgs β) i k = true then some (nI i) else L_X12_lawOn_2 F (nI k) kk μ n (nI (i + 1))) = _
    by_cases hb : brs β (dgs β) i k = true
    · rw [if_pos hb, if_pos hb]
    · rw [if_neg hb, if_neg hb, ih (i + 1) n (by omega) (by omega)]
theorem M_lawOn (h : CB μ β) (w : WF β) (hF : 2000000 ≤ F) {k : Nat} (hk : k < cl β) : f_X12_lawOn F (nI k) μ = some (oI (lawOf β (dgs β) k)) := by
  have hw := w.1.2.2.2.1
  unfold f_X12_lawOn lawOf
  have := M_lawOn_L (F := F) h w hk (some (-1)) (β 1) 0 F (by omega) (by omega)
  rw [nI_0] at this
  rw [this]
  cases fndF (fun l => brs β (dgs β) l k) 0 (β 1) <;> rfl
theorem lawOf_lt {d : Nat → Nat} {k l : Nat} (h : lawOf β d k = some l) : l < β 1 := by
  have := (fndF_some h).2.1
  omega
theorem M_becomesBy (h : CB μ β) (w : WF β) (hF : 2000000 ≤ F) {k : Nat} (hk : k < cl β) : f_X12_becomesBy F (nI k) μ = some (nI (becomes β (dgs β) k)) := by
  have hw := w.1.2.2.2.1
  have hc := w.cl_le
  unfold f_X12_becomesBy becomes
  cases hl : lawOf β (dgs β) k with
  | none =>
    have e : f_X12_lawOn F (nI k) μ = some (-1) := by rw [M_lawOn h w hF hk, hl]; rfl
    rw [e, Option.bind_some, if_neg (by decide)]
    simp (disch := omega) only [Option.bind_some, bd_some, eqL, leL, ltL, Lle, Llt, addL, Ladd, Lmul, mulL, nIle, nIlt, nIeq, nI_add, pk_mul, h.rd]
    rfl
  | some l =>
    have := lawOf_lt hl
    have e : f_X12_lawOn F (nI k) μ = some (nI l) := by rw [M_lawOn h w hF hk, hl]; rfl
    rw [e, Option.bind_some, if_pos (fa_of_nlt (nI_n0 (by omega)))]
    simp (disch := omega) only [Option.bind_some, bd_some, eqL, leL, ltL, Lle, Llt, addL, Ladd, Lmul, mulL, nIle, nIlt, nIeq, nI_add, pk_mul, h.rd]
theorem becomes_le (w : WF β) {d : Nat → Nat} {k : Nat} (hd : d k ≤ 9) : becomes β d k ≤ 9 := by
  unfold becomes
  cases hl : lawOf β d k with
  | none => exact hd
  | some l =>
    have := lawOf_lt hl
    exact (w.2.2.2 l (by have := w.1.2.2.2.1; omega)).2.1
/-- a row written into the memory, place by place -/
def putA (μ : Mm) (a : Nat) (f : Nat → Int32) (i m : Nat) : Mm := foldF (fun k ν => sA ν a k (f k)) i m μ
theorem putA_s {a : Nat} {f : Nat → Int32} {i m : Nat} : putA μ a f i (m + 1) = putA (sA μ a i (f i)) a f (i + 1) m := rfl
theorem putA_mA {a : Nat} {f : Nat → Int32} : ∀ {m i : Nat} {μ : Mm} (b j : Nat), mA (putA μ a f i m) b j = if b = a ∧ i ≤ j ∧ j < i + m then f j else mA μ b j
  | 0, i, μ, b, j => by
    rw [if_neg (by omega)]
    rfl
  | m + 1, i, μ, b, j => by
    rw [putA_s, putA_mA, mA_sA]
    by_cases e : b = a
    · by_cases e2 : j = i
      · subst e2; simp [e]
      · simp only [e, true_and, if_true, e2, if_false]
        by_cases q : i + 1 ≤ j ∧ j < i + 1 + m
        · rw [if_pos q, if_pos (by omega)]
        · rw [if_neg q, if_neg (by omega)]
    · simp [e]
theorem putA_ag {a : Nat} {f : Nat → Int32} {P : Nat → Nat → Prop} : ∀ {m i : Nat} {μ : Mm}, (∀ k, i ≤ k → k < i + m → P a k) → Ag P μ (putA μ a f i m)
  | 0, i, μ, _ => Ag.rf
  | m + 1, i, μ, h => by
    rw [putA_s]
    exact (Ag.sA (h i (by omega) (by omega))).tr (putA_ag (fun k h1 h2 => h k (by omega) (by omega)))
/-- where the digits go in an hour -/
def drf (β : Nat → Nat) (k : Nat) : Nat := if β (63 + k) = 0 then becomes β (dgs β) k else β (13 + k)
theorem M_goesHour_L1 (w : WF β) (hF : 2000000 ≤ F) (v1 : Int32) (kk : Mm → Option (Bool × Mm)) : ∀ (m i n : Nat) (μ : Mm), CB μ β → i + m = cl β → m < n → L_X12_goesHour_4 F v1 kk n (nI i) μ = kk (putA μ 150 (fun k => nI (drf β k)) i m) := by
  have hc := w.cl_le
  intro m
  induction m with
  | zero =>
    intro i n μ h hi hn
    obtain ⟨n, rfl⟩ : ∃ q, n = q + 1 := ⟨n - 1, by omega⟩
    rw [L_X12_goesHour_4_s]
    simp (disch := omega) only [Option.bind_some, bd_some, eqL, leL, ltL, Lle, Llt, addL, Ladd, Lmul, mulL, nIle, nIlt, nIeq, nI_add, pk_mul, M_cells h]
    rw [if_pos (by omega)]
    rfl
  | succ m ih =>
    intro i n μ h hi hn
    obtain ⟨n, rfl⟩ : ∃ q, n = q + 1 := ⟨n - 1, by omega⟩
    have hb := (w.2.2.1 i (by omega)).2.2
    rw [L_X12_goesHour_4_s]
    unfold jn
    simp (disch := omega) only [Option.bind_some, bd_some, eqL, leL, ltL, Lle, Llt, addL, Ladd, Lmul, mulL, nIle, nIlt, nIeq, nI_add, pk_mul, M_cells h, h.rd, M_becomesBy h w hF, wrA_n]
    rw [if_neg (by omega), putA_s]
    have hh : CB (sA μ 150 i (nI (drf β i))) β := h.at (mA_ne (by decide))
    rw [← ih (i + 1) n _ hh (by omega) (by omega)]
    unfold drf
    by_cases e : β (63 + i) = 0
    · rw [if_pos (by omega), if_pos e]
    · rw [if_neg (by omega), if_neg e]
/-- the block behind an hour -/
def hourB (β : Nat → Nat) : Nat → Nat := fun j => if j = 5 then β 5 + 1 else if 13 ≤ j ∧ j < 13 + cl β then drf β (j - 13) else if 63 ≤ j ∧ j < 63 + cl β then β j - 1 else β j
/-- the block in the middle of the reference's second loop, i places done -/
def midB (β : Nat → Nat) (i : Nat) : Nat → Nat := fun j => if 13 ≤ j ∧ j < 13 + i then drf β (j - 13) else if 63 ≤ j ∧ j < 63 + i then β j - 1 else β j
theorem cl_mid {i : Nat} : cl (midB β i) = cl β := rfl
def moves (β : Nat → Nat) (k : Nat) : Bool := decide (drf β k ≠ β (13 + k))
def moved (β : Nat → Nat) : Bool := foldF (fun k x => x || moves β k) 0 (cl β) false
theorem max_eq (a b : Int32) : f_J9_max_7cf53 a b μ = some (if a < b then b else a) := rfl
theorem max0 {a : Nat} (h : a < 2147483648) : (if (0 : Int32) < nI a - 1 then nI a - 1 else 0) = nI (a - 1) := by
  cases a with
  | zero => decide
  | succ a =>
    rw [show nI (a + 1) - 1 = nI a from nI_pred a]
    by_cases e : a = 0
    · subst e; decide
    · rw [if_pos ((Llt (n := 0) (by omega) (by decide)).mpr (by show 0 < a; omega))]; rfl
theorem drf_le (w : WF β) {k : Nat} (hk : k < 25) : drf β k ≤ 9 := by
  unfold drf
  split
  · exact becomes_le w (w.2.2.1 k hk).1
  · exact (w.2.2.1 k hk).1
theorem M_goesHour_L2 (w : WF β) (hF : 2000000 ≤ F) (kk : Int32 → Mm → Option (Bool × Mm)) : ∀ (m i n : Nat) (v : Bool) (μ : Mm), CB μ (midB β i) → (∀ k, k < cl β → mA μ 150 k = nI (drf β k)) → i + m = cl β → m < n → ∃ ν, L_X12_goesHour_55 F kk n (bI v) (nI i) μ = kk (bI (foldF (fun k x => x || moves β k) i m v)) ν ∧ CB ν (midB β (cl β)) ∧ Ag (fun a k => a = 146 ∧ k < 128) μ ν := by
  have hc := w.cl_le
  intro m
  induction m with
  | zero =>
    intro i n v μ h hd hi hn
    obtain ⟨n, rfl⟩ : ∃ q, n = q + 1 := ⟨n - 1, by omega⟩
    have he : i = cl β := by omega
    refine ⟨μ, ?_, by rw [← he]; exact h, Ag.rf⟩
    have hcc : f_X12_cells μ = some (nI (cl β)) := (M_cells h).trans (by rw [cl_mid])
    rw [L_X12_goesHour_55_s]
    simp (disch := omega) only [Option.bind_some, bd_some, eqL, leL, ltL, Lle, Llt, addL, Ladd, Lmul, mulL, nIle, nIlt, nIeq, nI_add, pk_mul, hcc]
    rw [if_pos (by omega)]
    rfl
  | succ m ih =>
    intro i n v μ h hd hi hn
    obtain ⟨n, rfl⟩ : ∃ q, n = q + 1 := ⟨n - 1, by omega⟩
    obtain ⟨b1, b2, b3⟩ := w.2.2.1 i (by omega)
    have hdl := drf_le w (k := i) (by omega)
    have hcc : f_X12_cells μ = some (nI (cl β)) := (M_cells h).trans (by rw [cl_mid])
    have e13 : midB β i (13 + i) = β (13 + i) := by unfold midB; rw [if_neg (by omega), if_neg (by omega)]
    have e63 : midB β i (63 + i) = β (63 + i) := by unfold midB; rw [if_neg (by omega), if_neg (by omega)]
    have r13 : rdA μ 146 2000 (nI (13 + i)) = some (nI (β (13 + i))) := by rw [h.rd (by omega), e13]
    have rd : rdA μ 150 25 (nI i) = some (nI (drf β i)) := by rw [rdA_n (by omega) (by omega), hd i (by omega)]
    have w13 : wrA μ 146 2000 (nI (13 + i)) (nI (drf β i)) = some (sA μ 146 (13 + i) (nI (drf β i))) := wrA_n (by omega) (by omega)
    have r63 : rdA (sA μ 146 (13 + i) (nI (drf β i))) 146 2000 (nI (63 + i)) = some (nI (β (63 + i))) := by
      rw [rdA_n (by omega) (by omega), mA_sA, if_pos rfl, if_neg (by omega), h _ (by omega), e63]
    have w63 : wrA (sA μ 146 (13 + i) (nI (drf β i))) 146 2000 (nI (63 + i)) (nI (β (63 + i) - 1)) = some (sA (sA μ 146 (13 + i) (nI (drf β i))) 146 (63 + i) (nI (β (63 + i) - 1))) := wrA_n (by omega) (by omega)
    have hn2 : CB (sA (sA μ 146 (13 + i) (nI (drf β i))) 146 (63 + i) (nI (β (63 + i) - 1))) (midB β (i + 1)) := by
      intro j hj
      have := ((h.wr (k := 13 + i) (by omega) (drf β i)).wr (k := 63 + i) (by omega) (β (63 + i) - 1)) j hj
      rw [this]
      congr 1
      unfold updN midB
      repeat' split
      all_goals first | rfl | omega | (congr 1; omega) | (congr 2; omega)
    have hA : Ag (fun a k => a = 146 ∧ k < 128) μ (sA (sA μ 146 (13 + i) (nI (drf β i))) 146 (63 + i) (nI (β (63 + i) - 1))) := (Ag.sA (P := fun a k => a = 146 ∧ k < 128) ⟨rfl, by omega⟩).tr (Ag.sA (P := fun a k => a = 146 ∧ k < 128) ⟨rfl, by omega⟩)
    obtain ⟨ν, e1, e2, e3⟩ := ih (i + 1) n (v || moves β i) _ hn2 (fun k hk => by rw [hA.A (fun _ q => absurd q.1 (by decide))]; exact hd k hk) (by omega) (by omega)
    refine ⟨ν, ?_, e2, hA.tr e3⟩
    rw [foldF_s, ← e1, L_X12_goesHour_55_s]
    unfold jn
    simp (disch := omega) only [Option.bind_some, bd_some, eqL, leL, ltL, Lle, Llt, addL, Ladd, Lmul, mulL, nIle, nIlt, nIeq, nI_add, pk_mul, hcc, rd, r13, w13, r63, max_eq, max0, w63]
    rw [if_neg (by omega)]
    cases v with
    | true =>
      rw [if_neg (show ¬ bI true = 0 by decide)]
      rfl
    | false =>
      rw [if_pos (show bI false = 0 by decide)]
      unfold moves
      by_cases e : drf β i = β (13 + i)
      · rw [if_pos e]; simp [e, bI]
      · rw [if_neg e]; simp [e, bI]
theorem bI_ret (b : Bool) (ν : Mm) : (if bI b = 0 then some (false, ν) else if bI b = 1 then some (true, ν) else none) = some (b, ν) := by cases b <;> rfl
theorem mid_hour : ∀ j, (if j = 5 then β 5 + 1 else midB β (cl β) j) = hourB β j := fun j => rfl
/-- AN HOUR of the reference -/
theorem M_goesHour (h : CB μ β) (w : WF β) (hF : 2000000 ≤ F) : ∃ ν, f_X12_goesHour F μ = some (moved β, ν) ∧ CB ν (hourB β) ∧ Ag (fun a k => (a = 146 ∧ k < 128) ∨ a = 150) μ ν := by
  have hc := w.cl_le
  unfold f_X12_goesHour
  have e1 := M_goesHour_L1 (F := F) w hF 0 (fun μ10 => L_X12_goesHour_55 F (fun u23 μ24 => (rdA μ24 146 2000 5).bind fun x25 => (wrA μ24 146 2000 5 (x25 + (1 : Int32))).bind fun μ26 => (if u23 = 0 then some (false, μ26) else if u23 = 1 then some (true, μ26) else none)) F 0 0 μ10) (cl β) 0 F μ h (by omega) (by omega)
  rw [nI_0] at e1
  rw [e1]
  have hA1 : Ag (fun a _ => a = 150) μ (putA μ 150 (fun k => nI (drf β k)) 0 (cl β)) := putA_ag (P := fun a _ => a = 150) (fun _ _ _ => rfl)
  have hcb : CB (putA μ 150 (fun k => nI (drf β k)) 0 (cl β)) (midB β 0) := by
    intro j hj
    rw [hA1.A (fun _ => by decide), h j hj]
    unfold midB
    rw [if_neg (by omega), if_neg (by omega)]
  obtain ⟨ν, e2, e3, e4⟩ := M_goesHour_L2 (F := F) w hF (fun u23 μ24 => (rdA μ24 146 2000 5).bind fun x25 => (wrA μ24 146 2000 5 (x25 + (1 : Int32))).bind fun μ26 => (if u23 = 0 then some (false, μ26) else if u23 = 1 then some (true, μ26) else none)) (cl β) 0 F false _ hcb (fun k hk => by rw [putA_mA, if_pos (by omega)]) (by omega) (by omega)
  rw [nI_0] at e2
  rw [show (0 : Int32) = bI false from rfl] at e2 ⊢
  rw [e2]
  have h5 : rdA ν 146 2000 5 = some (nI (β 5)) := by rw [show (5 : Int32) = nI 5 from rfl, e3.rd (by omega)]; rfl
  have w5 : wrA ν 146 2000 5 (nI (β 5 + 1)) = some (sA ν 146 5 (nI (β 5 + 1))) := by rw [show (5 : Int32) = nI 5 from rfl, wrA_n (by omega) (by omega)]
  refine ⟨sA ν 146 5 (nI (β 5 + 1)), ?_, ?_, ?_⟩
  · rw [h5, Option.bind_some]
    rw [show nI (β 5) + (1 : Int32) = nI (β 5 + 1) from nI_1 _, w5, Option.bind_some]
    exact bI_ret _ _
  · intro j hj
    have := (e3.wr (k := 5) (by omega) (β 5 + 1)) j hj
    rw [this, ← mid_hour]
    rfl
  · exact ((hA1.mono (fun a k q => Or.inr q)).tr (e4.mono (fun a k q => Or.inl q))).tr (Ag.sA (Or.inl ⟨rfl, by omega⟩))
end DM
