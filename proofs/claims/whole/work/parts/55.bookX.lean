/-! ===== the class reads a book ===== -/
def XO {α : Type} (μ ν : Mm) (o : Sum Flt α) (g : α → Prop) : Prop := match o with
  | .inl f => mI ν 9 2 = nI f.1 ∧ mI ν 9 3 = nI f.2
  | .inr x => g x ∧ mI ν 9 2 = mI μ 9 2 ∧ mI ν 9 3 = mI μ 9 3
abbrev PT (a k : Nat) : Prop := a = 9 ∧ 2 ≤ k ∧ k ≤ 10
theorem PA_PT {μ ν : Mm} (h : Ag PA μ ν) : Ag PT μ ν := h.mono (fun a k q => ⟨q.1, by omega, by omega⟩)
section BKX
variable {μ : Mm} {U : Nat → Nat} {e p F b : Nat}
theorem X_adv (T0 : TkX0 μ U e) (T : TkX μ U e p) (hp : p ≤ e) (hF : 2000000 ≤ F) : ∃ ν, f_X9_advance F μ = some ν ∧ TkX ν U e (tN U e p) ∧ Ag PA μ ν := X_advance T0 hF (tN_le hp).2 T.2.1
theorem X_refuse (T : TkX μ U e p) {v : Int32} (c : Nat) (hv : v = nI c) : ∃ ν, f_X9_refuseToken v μ = some (false, ν) ∧ mI ν 9 2 = nI c ∧ mI ν 9 3 = nI (tS U e p) ∧ Ag PT μ ν := by
  refine ⟨_, rfl, by rw [hv]; rfl, ?_, (Ag.sI ⟨rfl, by omega, by omega⟩).tr (Ag.sI ⟨rfl, by omega, by omega⟩)⟩
  show mI (sI μ 9 2 v) 9 9 = _
  exact T.1
theorem X_unfit (T : TkX μ U e p) : ∃ ν, f_X9_refuseUnfit μ = some (false, ν) ∧ mI ν 9 2 = nI (unf U e p).1 ∧ mI ν 9 3 = nI (unf U e p).2 ∧ Ag PT μ ν := by
  have hk := tK_le (U := U) (e := e) (p := p)
  have hv : (if mI μ 9 4 = 4 then (1 : Int32) else 2) = nI (unf U e p).1 := by
    rw [T.2.2.1]
    show _ = nI (if tK U e p = 4 then 1 else 2)
    by_cases z : tK U e p = 4
    · rw [if_pos ((eqL (n := 4) (by omega) (by decide)).mpr z), if_pos z]; rfl
    · rw [if_neg (fun y => z ((eqL (n := 4) (by omega) (by decide)).mp y)), if_neg z]; rfl
  obtain ⟨ν, x1, x2, x3, x4⟩ := X_refuse T (unf U e p).1 hv
  refine ⟨ν, ?_, x2, x3, x4⟩
  unfold f_X9_refuseUnfit
  rw [x1]
  rfl
theorem PT_keep {ν ξ : Mm} (h : Ag PA ν ξ) : mI ξ 9 2 = mI ν 9 2 ∧ mI ξ 9 3 = mI ν 9 3 ∧ mI ξ 9 7 = mI ν 9 7 := ⟨h.i (by omega), h.i (by omega), h.i (by omega)⟩
theorem X_takeNumber (T0 : TkX0 μ U e) (T : TkX μ U e p) (hp : p ≤ e) (hF : 2000000 ≤ F) {v w : Int32} {lo hi : Nat} (hv : v = nI lo) (hw : w = nI hi) (hlo : lo < 1000) (hhi : hi < 1000) : ∃ ν, f_X9_takeNumber F v w μ = some ((numS U e lo hi p).isRight, ν) ∧ XO μ ν (numS U e lo hi p) (fun x => TkX ν U e x.2 ∧ mI ν 9 7 = nI x.1) ∧ Ag PT μ ν := by
  have hk := tK_le (U := U) (e := e) (p := p)
  unfold f_X9_takeNumber numS
  rw [T.2.2.1]
  by_cases z : tK U e p = 2
  · have hv2 := tV_2 z
    rw [if_pos ((eqL (n := 2) (by omega) (by decide)).mpr z), if_pos z, T.2.2.2.2 (Or.inl z), hv, hw]
    have wi : f_X11_within (nI (tV U e p)) (nI lo) (nI hi) μ = some (decide (lo ≤ tV U e p ∧ tV U e p ≤ hi)) := by
      rw [within_c _ _ _ (by omega) (by omega), nI_ti (by omega)]
      congr 1
      apply decide_eq_decide.mpr
      omega
    rw [wi, Option.bind_some]
    by_cases y : lo ≤ tV U e p ∧ tV U e p ≤ hi
    · rw [decide_eq_true y, if_pos rfl, if_pos y]
      have A0 : Ag PT μ (sI μ 9 7 (nI (tV U e p))) := Ag.sI ⟨rfl, by omega, by omega⟩
      obtain ⟨ν, x1, x2, x3⟩ := X_adv (TkX0_ag T0 A0 (by omega) (fun k => by omega) (fun k => by omega)) (TkX_ag T (Ag.sI (P := fun a k => a = 9 ∧ k = 7) (x := nI (tV U e p)) ⟨rfl, rfl⟩) (fun k hk => by omega)) hp hF
      have kp := PT_keep x3
      rw [x1]
      exact ⟨ν, rfl, ⟨⟨x2, kp.2.2⟩, kp.1, kp.2.1⟩, A0.tr (PA_PT x3)⟩
    · rw [decide_eq_false y, if_neg (by decide), if_neg y]
      obtain ⟨ν, x1, x2, x3, x4⟩ := X_refuse T (v := 4) 4 rfl
      rw [x1]
      exact ⟨ν, rfl, ⟨x2, x3⟩, x4⟩
  · rw [if_neg (fun y => z ((eqL (n := 2) (by omega) (by decide)).mp y)), if_neg z]
    obtain ⟨ν, x1, x2, x3, x4⟩ := X_unfit T
    rw [x1]
    exact ⟨ν, rfl, ⟨x2, x3⟩, x4⟩
theorem oI_i {o : Option Nat} {i : Nat} (ho : ∀ k, o = some k → k < 28) (hi : i < 28) : (oI o = nI i) ↔ o = some i := by
  cases o with
  | none =>
    constructor
    · intro q; exact absurd q.symm (by rw [show oI none = -1 from rfl, neg_ne (by omega)]; exact id)
    · intro q; cases q
  | some k =>
    have := ho k rfl
    rw [oI_some, nIeq (by omega) (by omega)]
    constructor
    · intro q; rw [q]
    · intro q; cases q; rfl
theorem X_takeWord (T0 : TkX0 μ U e) (T : TkX μ U e p) (hp : p ≤ e) (hF : 2000000 ≤ F) {v : Int32} {i : Nat} (hv : v = nI i) (hi : i < 28) : ∃ ν, f_X9_takeWord F v μ = some ((wdS U e i p).isRight, ν) ∧ XO μ ν (wdS U e i p) (fun q => TkX ν U e q ∧ mI ν 9 7 = mI μ 9 7) ∧ Ag PT μ ν := by
  unfold f_X9_takeWord wdS
  rw [X_setWord T, Option.bind_some, hv]
  by_cases z : tO U e p = some i
  · rw [if_pos ((oI_i (fun k hk => (tO_lt hk).1) hi).mpr z), if_pos z]
    obtain ⟨ν, x1, x2, x3⟩ := X_adv T0 T hp hF
    have kp := PT_keep x3
    rw [x1]
    exact ⟨ν, rfl, ⟨⟨x2, kp.2.2⟩, kp.1, kp.2.1⟩, PA_PT x3⟩
  · rw [if_neg (fun y => z ((oI_i (fun k hk => (tO_lt hk).1) hi).mp y)), if_neg z]
    obtain ⟨ν, x1, x2, x3, x4⟩ := X_unfit T
    rw [x1]
    exact ⟨ν, rfl, ⟨x2, x3⟩, x4⟩
theorem X_takeEnd (T0 : TkX0 μ U e) (T : TkX μ U e p) (hp : p ≤ e) (hF : 2000000 ≤ F) : ∃ ν, f_X9_takeEndOfPart F μ = some ((endS U e p).isRight, ν) ∧ XO μ ν (endS U e p) (fun q => TkX ν U e q) ∧ Ag PT μ ν := by
  have hk := tK_le (U := U) (e := e) (p := p)
  unfold f_X9_takeEndOfPart endS
  rw [T.2.2.1]
  by_cases z : tK U e p = 3
  · have hv := (tV_3 z).2
    rw [if_pos ((eqL (n := 3) (by omega) (by decide)).mpr z), T.2.2.2.2 (Or.inr z)]
    by_cases y : tV U e p = 59
    · rw [if_pos ((eqL (n := 59) (by omega) (by decide)).mpr y), if_pos ⟨z, y⟩]
      obtain ⟨ν, x1, x2, x3⟩ := X_adv T0 T hp hF
      have kp := PT_keep x3
      rw [x1]
      exact ⟨ν, rfl, ⟨x2, kp.1, kp.2.1⟩, PA_PT x3⟩
    · rw [if_neg (fun q => y ((eqL (n := 59) (by omega) (by decide)).mp q)), if_neg (fun q => y q.2)]
      obtain ⟨ν, x1, x2, x3, x4⟩ := X_unfit T
      rw [x1]
      exact ⟨ν, rfl, ⟨x2, x3⟩, x4⟩
  · rw [if_neg (fun q => z ((eqL (n := 3) (by omega) (by decide)).mp q)), if_neg (fun q => z q.1)]
    obtain ⟨ν, x1, x2, x3, x4⟩ := X_unfit T
    rw [x1]
    exact ⟨ν, rfl, ⟨x2, x3⟩, x4⟩
theorem X_accountNamed {β : Nat → Nat} {nm : Nat → Int64} (hb0 : mI μ b 3 = nI (β 0)) (h5 : β 0 ≤ 5) (hn : ∀ a, a < β 0 → mL μ (b + 7) a = nm a) (hF : 2000000 ≤ F) {w : Int64} : f_X0_accountNamed F b w μ = some (oI (fndF (fun a => decide (nm a = w)) 0 (β 0))) := by
  unfold f_X0_accountNamed
  have key := seek1 (L := L_X0_accountNamed_2 F b w (some (-1)) μ) (K := some (-1)) (G := fun l => some (nI l)) (F := F) (N := β 0) (fun a => decide (nm a = w)) 0 (by omega) (fun i hi n => ?_) (fun n => ?_)
  · rw [nI_0] at key
    rw [key]
    cases fndF (fun a => decide (nm a = w)) 0 (β 0) <;> rfl
  · rw [L_X0_accountNamed_2_s, hb0, Nat.zero_add, if_neg (fun z => by have := (nIle (by omega) (by omega)).mp z; omega), rdL_n (by omega) (by omega), hn i hi, Option.bind_some, nI_1]
    by_cases q : nm i = w
    · rw [if_pos (lg_0.mpr q), if_pos (decide_eq_true q)]
    · rw [if_neg (fun z => q (lg_0.mp z)), if_neg (fun z => q (of_decide_eq_true z))]
  · rw [L_X0_accountNamed_2_s, hb0, Nat.zero_add, if_pos ((nIle (by omega) (by omega)).mpr (by omega))]
theorem tM_name (T : TkX μ U e p) (h : tM U e p = true) : mJ μ 9 6 = lN (tW U e p) := by
  obtain ⟨k1, k2, -⟩ := tM_K h
  rw [(T.2.2.2.1 k1).2, if_pos k2]
theorem X_takeName {β : Nat → Nat} {nm : Nat → Int64} (T0 : TkX0 μ U e) (T : TkX μ U e p) (hp : p ≤ e) (hF : 2000000 ≤ F) (hw : mI μ b 0 = nI (β 2)) (hb0 : mI μ b 3 = nI (β 0)) (h5 : β 0 ≤ 5) (hn : ∀ a, a < β 0 → mL μ (b + 7) a = nm a) : ∃ ν, f_X9_takeName F b μ = some ((nmS U e β nm p).isRight, ν) ∧ XO μ ν (nmS U e β nm p) (fun x => TkX ν U e x.2 ∧ mI ν 9 7 = nI (β 2 * x.1)) ∧ Ag PT μ ν := by
  unfold f_X9_takeName nmS
  rw [X_isName T, Option.bind_some]
  by_cases z : tM U e p = true
  · rw [if_pos z, if_pos z, tM_name T z, X_accountNamed hb0 h5 hn hF, Option.bind_some]
    have hf : fndF (fun a => decide (nm a = lN (tW U e p))) 0 (β 0) = fnm U e β nm p := rfl
    rw [hf]
    cases h : fnm U e β nm p with
    | none =>
      rw [if_pos oI_none]
      obtain ⟨ν, x1, x2, x3, x4⟩ := X_refuse T (v := 3) 3 rfl
      rw [x1]
      exact ⟨ν, rfl, ⟨x2, x3⟩, x4⟩
    | some a =>
      have ha := (fndF_some h).2.1
      rw [oI_some, if_neg (by rw [neg_ne (by omega)]; exact id), hw, pk_mul, Nat.mul_comm]
      have A0 : Ag PT μ (sI μ 9 7 (nI (β 2 * a))) := Ag.sI ⟨rfl, by omega, by omega⟩
      obtain ⟨ν, x1, x2, x3⟩ := X_adv (TkX0_ag T0 A0 (by omega) (fun k => by omega) (fun k => by omega)) (TkX_ag T (Ag.sI (P := fun a k => a = 9 ∧ k = 7) (x := nI (β 2 * a)) ⟨rfl, rfl⟩) (fun k hk => by omega)) hp hF
      have kp := PT_keep x3
      rw [x1]
      exact ⟨ν, rfl, ⟨⟨x2, kp.2.2⟩, kp.1, kp.2.1⟩, A0.tr (PA_PT x3)⟩
  · rw [if_neg z, if_neg z]
    obtain ⟨ν, x1, x2, x3, x4⟩ := X_unfit T
    rw [x1]
    exact ⟨ν, rfl, ⟨x2, x3⟩, x4⟩
/-! the book that is being read -/
def TL (x : Int32) (tl : Nat → Bool) : Prop := bit x 0 = tl 2 ∧ bit x 1 = tl 3 ∧ bit x 2 = tl 4 ∧ bit x 12 = tl 7
def PBX (ν : Mm) (b : Nat) (β : Nat → Nat) (nm : Nat → Int64) : Prop := BX ν b β ∧ (∀ k, k < 25 → mA ν (b + 8) k = nI (β (13 + k)) ∧ mA ν (b + 9) k = nI (β (38 + k)) ∧ mA ν (b + 10) k = nI (β (63 + k))) ∧ (∀ a, a < β 0 → mL ν (b + 7) a = nm a)
def GX (U : Nat → Nat) (e b : Nat) (s : BS) (ν : Mm) : Prop := TkX0 ν U e ∧ TkX ν U e s.1 ∧ PBX ν b s.2.1 s.2.2.1 ∧ TL (mI ν 12 1) s.2.2.2
theorem PBX_ag {ν : Mm} {P : Nat → Nat → Prop} {β : Nat → Nat} {nm : Nat → Int64} (h : PBX μ b β nm) (a : Ag P μ ν) (hS : ∀ i, i ≤ 10 → ∀ k, ¬ P (b + i) k) : PBX ν b β nm := ⟨h.1.ag a hS, fun k hk => by rw [a.a (hS 8 (by omega) k), a.a (hS 9 (by omega) k), a.a (hS 10 (by omega) k)]; exact h.2.1 k hk, fun q hq => by rw [a.l (hS 7 (by omega) q)]; exact h.2.2 q hq⟩
theorem TL_upd {x : Int32} {tl : Nat → Bool} {i j : Nat} (h : TL x tl) (hij : (i = 0 ∧ j = 2) ∨ (i = 1 ∧ j = 3) ∨ (i = 2 ∧ j = 4) ∨ (i = 12 ∧ j = 7)) : TL (x ||| ((1 : Int32) <<< (nI i &&& 31))) (updB tl j) := by
  obtain ⟨h1, h2, h3, h4⟩ := h
  have key : ∀ q t, q < 32 → i < 32 → (q = i ↔ t = j) → bit x q = tl t → bit (x ||| ((1 : Int32) <<< (nI i &&& 31))) q = updB tl j t := fun q t hq hi hqt hb => by
    rw [bit_or _ _ hq, bit_sh hi hq, hb]
    unfold updB
    by_cases z : q = i
    · rw [decide_eq_true z, Bool.or_true, if_pos (hqt.mp z)]
    · rw [decide_eq_false z, Bool.or_false, if_neg (fun y => z (hqt.mpr y))]
  exact ⟨key 0 2 (by omega) (by omega) (by omega) h1, key 1 3 (by omega) (by omega) (by omega) h2, key 2 4 (by omega) (by omega) (by omega) h3, key 12 7 (by omega) (by omega) (by omega) h4⟩
theorem TL_at {x : Int32} {tl : Nat → Bool} {i j : Nat} (h : TL x tl) (hij : (i = 0 ∧ j = 2) ∨ (i = 1 ∧ j = 3) ∨ (i = 2 ∧ j = 4) ∨ (i = 12 ∧ j = 7)) : bit x i = tl j := by
  obtain ⟨h1, h2, h3, h4⟩ := h
  rcases hij with ⟨rfl, rfl⟩ | ⟨rfl, rfl⟩ | ⟨rfl, rfl⟩ | ⟨rfl, rfl⟩
  · exact h1
  · exact h2
  · exact h3
  · exact h4
abbrev PQ (b a k : Nat) : Prop := (a = 9 ∧ 2 ≤ k ∧ k ≤ 10) ∨ (a = 12 ∧ k = 1) ∨ (b ≤ a ∧ a < b + 11)
theorem PT_PQ {ν : Mm} (h : Ag PT μ ν) : Ag (PQ b) μ ν := h.mono (fun a k q => Or.inl q)
theorem X_wordOnce (T0 : TkX0 μ U e) (T : TkX μ U e p) (hp : p ≤ e) (hF : 2000000 ≤ F) {v : Int32} {i : Nat} (hv : v = nI i) (hi : i < 28) (ho : tO U e p = some i) : (bit (mI μ 12 1) i = true → ∃ ν, f_X1_takeWordOnce F v μ = some (false, ν) ∧ mI ν 9 2 = nI 5 ∧ mI ν 9 3 = nI (tS U e p) ∧ Ag PT μ ν) ∧ (bit (mI μ 12 1) i = false → ∃ ν, f_X1_takeWordOnce F v μ = some (true, ν) ∧ TkX ν U e (tN U e p) ∧ mI ν 12 1 = mI μ 12 1 ||| ((1 : Int32) <<< (nI i &&& 31)) ∧ mI ν 9 2 = mI μ 9 2 ∧ mI ν 9 3 = mI μ 9 3 ∧ Ag (fun a k => (a = 9 ∧ 2 ≤ k ∧ k ≤ 10) ∨ (a = 12 ∧ k = 1)) μ ν) := by
  constructor
  · intro hb
    obtain ⟨ν, x1, x2, x3, x4⟩ := X_refuse T (v := 5) 5 rfl
    refine ⟨ν, ?_, x2, x3, x4⟩
    unfold f_X1_takeWordOnce
    rw [hv, if_neg (fun z => by rw [(bit_n0 _ _).mp z] at hb; cases hb), x1]
    rfl
  · intro hb
    have A0 : Ag (fun a k => a = 12 ∧ k = 1) μ (sI μ 12 1 (mI μ 12 1 ||| ((1 : Int32) <<< (nI i &&& 31)))) := Ag.sI ⟨rfl, rfl⟩
    obtain ⟨ν, x1, x2, x3⟩ := X_takeWord (TkX0_ag T0 A0 (by omega) (fun k => by omega) (fun k => by omega)) (TkX_ag T A0 (fun k hk => by omega)) hp hF (v := nI i) rfl hi
    have hs : wdS U e i p = .inr (tN U e p) := by unfold wdS; rw [if_pos ho]
    rw [hs] at x1 x2
    refine ⟨ν, ?_, x2.1.1, ?_, x2.2.1, x2.2.2, (A0.mono (fun a k q => Or.inr q)).tr (x3.mono (fun a k q => Or.inl q))⟩
    · unfold f_X1_takeWordOnce
      rw [hv, if_pos ((bit_n0 _ _).mpr hb), x1]
      rfl
    · rw [x3.i (by omega)]; rfl
/-- a part that is told once: a word, a number, an end -/
theorem X_once {s : BS} (hb : b = 15 ∨ b = 27) (hF : 2000000 ≤ F) (g : GX U e b s μ) (hs : PI e s) {i j lo hi fk : Nat} {v v1 v2 : Int32} (hv : v = nI i) (hv1 : v1 = nI lo) (hv2 : v2 = nI hi) (hij : (i = 0 ∧ j = 2 ∧ fk = 0 ∧ s.2.1 0 = 0) ∨ (i = 1 ∧ j = 3 ∧ fk = 1) ∨ (i = 2 ∧ j = 4 ∧ fk = 2)) (hlo : lo < 1000) (hhi : hi < 1000) (ho : tO U e s.1 = some i) : ∃ ν, (bd (f_X1_takeWordOnce F v μ) fun x1 μ2 => (if x1 = true then bd (f_X9_takeNumber F v1 v2 μ2) fun x3 μ4 => (if x3 = true then bd (f_X9_takeEndOfPart F (sI μ4 b fk (mI μ4 9 7))) fun x5 μ6 => some (x5, μ6) else some (false, μ4)) else some (false, μ2))) = some ((onceS U e j lo hi s).isRight, ν) ∧ XO μ ν (onceS U e j lo hi s) (fun s' => GX U e b s' ν) ∧ Ag (PQ b) μ ν := by
  obtain ⟨T0, T, B, L⟩ := g
  obtain ⟨hp, w, h5, h6, h63, h128⟩ := id hs
  have hij2 : (i = 0 ∧ j = 2) ∨ (i = 1 ∧ j = 3) ∨ (i = 2 ∧ j = 4) ∨ (i = 12 ∧ j = 7) := by omega
  have hat := TL_at L hij2
  obtain ⟨o1, o2⟩ := X_wordOnce T0 T hp hF hv (by omega) ho
  unfold onceS
  by_cases ht : s.2.2.2 j = true
  · obtain ⟨ν, x1, x2, x3, x4⟩ := o1 (hat.trans ht)
    rw [x1, if_pos ht]
    exact ⟨ν, rfl, ⟨x2, x3⟩, PT_PQ x4⟩
  · obtain ⟨ν, x1, x2, x3, x4, x5, x6⟩ := o2 (hat.trans (bf ht))
    rw [x1, bd_some, if_pos rfl, if_neg ht]
    have t1 := tK0_le (U := U) hp (tO_K ho)
    have T01 := TkX0_ag T0 x6 (by omega) (fun k => by omega) (fun k => by omega)
    obtain ⟨ν2, y1, y2, y3⟩ := X_takeNumber T01 x2 t1.2 hF hv1 hv2 hlo hhi
    have A2 : Ag (PQ b) μ ν2 := (x6.mono (fun a k q => by omega)).tr (PT_PQ y3)
    rw [y1, bd_some]
    cases hn : numS U e lo hi (tN U e s.1) with
    | inl f =>
      rw [hn] at y2
      exact ⟨ν2, rfl, y2, A2⟩
    | inr x =>
      rw [hn] at y2
      obtain ⟨⟨y4, y5⟩, y6, y7⟩ := y2
      obtain ⟨n1, n2, n3, n4, -, -⟩ := num_ok t1.2 hn
      have T02 := TkX0_ag T01 y3 (by omega) (fun k => by omega) (fun k => by omega)
      have A3 : Ag (fun a k => a = b ∧ k = fk) ν2 (sI ν2 b fk (nI x.1)) := Ag.sI ⟨rfl, rfl⟩
      obtain ⟨ν3, z1, z2, z3⟩ := X_takeEnd (TkX0_ag T02 A3 (by omega) (fun k => by omega) (fun k => by omega)) (TkX_ag y4 A3 (fun k hk => by omega)) n4 hF
      have A4 : Ag (PQ b) μ ν3 := (A2.tr (A3.mono (fun a k q => by omega))).tr (PT_PQ z3)
      show ∃ ν, (if true = true then bd (f_X9_takeEndOfPart F (sI ν2 b fk (mI ν2 9 7))) fun x5 μ6 => some (x5, μ6) else some (false, ν2)) = some ((sb (endS U e x.2) _).isRight, ν) ∧ XO μ ν (sb (endS U e x.2) _) _ ∧ _
      rw [if_pos rfl, y5, z1, bd_some]
      cases hE : endS U e x.2 with
      | inl f =>
        rw [hE] at z2
        exact ⟨ν3, rfl, z2, A4⟩
      | inr q =>
        rw [hE] at z2
        obtain ⟨z4, z5, z6⟩ := z2
        refine ⟨ν3, rfl, ⟨⟨TkX0_ag (TkX0_ag T02 A3 (by omega) (fun k => by omega) (fun k => by omega)) z3 (by omega) (fun k => by omega) (fun k => by omega), z4, ?_, ?_⟩, ?_, ?_⟩, A4⟩
        · have B2 : PBX ν2 b s.2.1 s.2.2.1 := PBX_ag B (x6.mono (fun a k q => by omega) |>.tr (y3.mono (fun a k q => Or.inl q)) : Ag (fun a k => (a = 9 ∧ 2 ≤ k ∧ k ≤ 10) ∨ (a = 12 ∧ k = 1)) μ ν2) (fun i hi k => by omega)
          have B3 : PBX (sI ν2 b fk (nI x.1)) b (updN s.2.1 j x.1) s.2.2.1 := by
            have hrow : ∀ k, k < 25 → mA (sI ν2 b fk (nI x.1)) (b + 8) k = nI (updN s.2.1 j x.1 (13 + k)) ∧ mA (sI ν2 b fk (nI x.1)) (b + 9) k = nI (updN s.2.1 j x.1 (38 + k)) ∧ mA (sI ν2 b fk (nI x.1)) (b + 10) k = nI (updN s.2.1 j x.1 (63 + k)) := fun k hk => by
              rw [updN_ne (by omega), updN_ne (by omega), updN_ne (by omega)]
              exact B2.2.1 k hk
            have hnm : ∀ a, a < updN s.2.1 j x.1 0 → mL (sI ν2 b fk (nI x.1)) (b + 7) a = s.2.2.1 a := fun a ha => by
              rw [updN_ne (by omega)] at ha
              exact B2.2.2 a ha
            refine ⟨?_, hrow, hnm⟩
            rcases hij with ⟨rfl, rfl, rfl, h0⟩ | ⟨rfl, rfl, rfl⟩ | ⟨rfl, rfl, rfl⟩
            · obtain ⟨q1, q2, q3, q4, q5, q6, q7, q8, q9, q10, q11, q12, q13, q14, q15, q16⟩ := B2.1
              have hcl : cl (updN s.2.1 2 x.1) = 0 := by unfold cl; rw [updN_ne (by omega), h0, Nat.zero_mul]
              have h1 : updN s.2.1 2 x.1 1 = s.2.1 1 := updN_ne (by omega)
              have h00 : updN s.2.1 2 x.1 0 = s.2.1 0 := updN_ne (by omega)
              refine ⟨by rw [mI_sI, if_pos rfl, if_pos rfl, updN_eq], by rw [mI_nk (by omega), updN_ne (by omega)]; exact q2, by rw [mI_nk (by omega), updN_ne (by omega)]; exact q3, by rw [mI_nk (by omega), updN_ne (by omega)]; exact q4, by rw [mI_nk (by omega), updN_ne (by omega)]; exact q5, by rw [mI_nk (by omega), updN_ne (by omega)]; exact q6, by rw [mI_nk (by omega), updN_ne (by omega)]; exact q7, by rw [mI_ne (by omega), h1]; exact q8, ?_, ?_, ?_, ?_, ?_, fun k hk => by rw [hcl] at hk; omega, fun k hk => by rw [hcl] at hk; omega, fun k hk => by rw [hcl] at hk; omega⟩
              · intro l hl; rw [h1] at hl; rw [mA_sI, updN_ne (by omega)]; exact q9 l hl
              · intro l hl; rw [h1] at hl; rw [mA_sI, updN_ne (by omega)]; exact q10 l hl
              · intro l hl; rw [h1] at hl; rw [mA_sI, updN_ne (by omega)]; exact q11 l hl
              · intro l hl; rw [h1] at hl; rw [mA_sI, updN_ne (by omega)]; exact q12 l hl
              · intro l hl; rw [h00] at hl; omega
            · exact B2.1.u_tap w
            · exact B2.1.u_odds w
          exact PBX_ag B3 z3 (fun i hi k => by omega)
        · show TL (mI ν3 12 1) (updB s.2.2.2 j)
          rw [z3.i (by omega), mI_ne (by omega), y3.i (by omega), x3]
          exact TL_upd L hij2
        · rw [z5, mI_ne (by omega), y6, x4]
        · rw [z6, mI_ne (by omega), y7, x5]
end BKX
