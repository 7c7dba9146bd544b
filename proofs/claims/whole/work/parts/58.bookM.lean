/-! ===== the reference reads a book ===== -/
def MO {α : Type} (ν : Mm) (o : Sum Flt α) (g : α → Prop) : Prop := match o with
  | .inl f => mI ν 141 12 = nI f.1 ∧ mI ν 141 13 = nI f.2 ∧ 1 ≤ f.1 ∧ f.1 ≤ 7
  | .inr x => mI ν 141 12 = 0 ∧ g x
abbrev PMm (a k : Nat) : Prop := a = 141 ∧ 12 ≤ k ∧ k ≤ 19
theorem PB_PM {μ ν : Mm} (h : Ag PB μ ν) : Ag PMm μ ν := h.mono (fun a k q => ⟨q.1, by omega, by omega⟩)
def Bad (μ : Mm) : Prop := ¬ mI μ 141 12 = 0 ∧ ¬ mI μ 141 12 ≤ 0
section BKM
variable {μ : Mm} {U : Nat → Nat} {e p F : Nat}
theorem bad_of {c : Nat} (h : mI μ 141 12 = nI c) (h1 : 1 ≤ c) (h7 : c ≤ 7) : Bad μ := by
  unfold Bad
  rw [h]
  exact ⟨fun z => by have z2 : c = 0 := (eqL (n := 0) (by omega) (by decide)).mp z; omega, fun z => by have z2 : c ≤ 0 := (leL (n := 0) (by omega) (by decide)).mp z; omega⟩
theorem MO_bad {α : Type} {f : Flt} {g : α → Prop} (h : MO μ (.inl f) g) : Bad μ := bad_of h.1 h.2.2.1 h.2.2.2
theorem z0 (h : mI μ 141 12 = 0) : mI μ 141 12 ≤ 0 := by rw [h]; decide
theorem M_adv (T0 : TkM0 μ U e) (T : TkM μ U e p) (hp : p ≤ e) (hF : 2000000 ≤ F) : ∃ ν, f_X12_advance F μ = some ν ∧ TkM ν U e (tN U e p) ∧ Ag PB μ ν := M_advance T0 hF (tN_le hp).2 T.2.1
theorem M_fail (h : mI μ 141 12 = 0) {v w : Int32} (c q : Nat) (hv : v = nI c) (hw : w = nI q) : ∃ ν, f_X12_fail v w μ = some ν ∧ mI ν 141 12 = nI c ∧ mI ν 141 13 = nI q ∧ Ag PMm μ ν := by
  refine ⟨sI (sI μ 141 12 v) 141 13 w, ?_, by rw [hv]; rfl, by rw [hw]; rfl, (Ag.sI ⟨rfl, by omega, by omega⟩).tr (Ag.sI ⟨rfl, by omega, by omega⟩)⟩
  unfold f_X12_fail
  rw [if_pos (z0 h)]
theorem M_amiss (T : TkM μ U e p) (h : mI μ 141 12 = 0) : ∃ ν, f_X12_amiss μ = some ν ∧ mI ν 141 12 = nI (unf U e p).1 ∧ mI ν 141 13 = nI (unf U e p).2 ∧ Ag PMm μ ν := by
  have hk := tK_le (U := U) (e := e) (p := p)
  have hv : (if mI μ 141 14 = 4 then (1 : Int32) else 2) = nI (unf U e p).1 := by
    rw [T.2.2.1]
    show _ = nI (if tK U e p = 4 then 1 else 2)
    by_cases z : tK U e p = 4
    · rw [if_pos ((eqL (n := 4) (by omega) (by decide)).mpr z), if_pos z]; rfl
    · rw [if_neg (fun y => z ((eqL (n := 4) (by omega) (by decide)).mp y)), if_neg z]; rfl
  obtain ⟨ν, x1, x2, x3, x4⟩ := M_fail h (unf U e p).1 (tS U e p) hv T.1
  refine ⟨ν, ?_, x2, x3, x4⟩
  unfold f_X12_amiss
  rw [x1]
  rfl
theorem unf_r : 1 ≤ (unf U e p).1 ∧ (unf U e p).1 ≤ 7 := by
  show 1 ≤ (if tK U e p = 4 then 1 else 2) ∧ (if tK U e p = 4 then 1 else 2) ≤ 7
  split <;> omega
theorem M_must1 (T0 : TkM0 μ U e) (T : TkM μ U e p) (hp : p ≤ e) (hF : 2000000 ≤ F) (h : mI μ 141 12 = 0) {v : Int32} (hv : ¬ v = 0) : ∃ ν, f_X12_must F v μ = some ν ∧ TkM ν U e (tN U e p) ∧ Ag PB μ ν := by
  obtain ⟨ν, x1, x2, x3⟩ := M_adv T0 T hp hF
  refine ⟨ν, ?_, x2, x3⟩
  unfold f_X12_must
  rw [if_pos (z0 h), if_neg hv, x1]
  rfl
theorem M_must0 (T : TkM μ U e p) (h : mI μ 141 12 = 0) : ∃ ν, f_X12_must F 0 μ = some ν ∧ mI ν 141 12 = nI (unf U e p).1 ∧ mI ν 141 13 = nI (unf U e p).2 ∧ Ag PMm μ ν := by
  obtain ⟨ν, x1, x2, x3, x4⟩ := M_amiss T h
  refine ⟨ν, ?_, x2, x3, x4⟩
  unfold f_X12_must
  rw [if_pos (z0 h), if_pos rfl, x1]
  rfl
theorem M_mustB (h : Bad μ) {v : Int32} : f_X12_must F v μ = some μ := by unfold f_X12_must; rw [if_neg h.2]
theorem M_failB (h : Bad μ) {v w : Int32} : f_X12_fail v w μ = some μ := by unfold f_X12_fail; rw [if_neg h.2]
theorem M_countB (h : Bad μ) {v w : Int32} : f_X12_count F v w μ = some (0, μ) := by
  unfold f_X12_count
  simp only [jn]
  rw [if_neg h.1, if_neg h.1, if_neg h.2]
theorem M_count (T0 : TkM0 μ U e) (T : TkM μ U e p) (hp : p ≤ e) (hF : 2000000 ≤ F) (h : mI μ 141 12 = 0) {v w : Int32} {lo hi : Nat} (hv : v = nI lo) (hw : w = nI hi) (hlo : lo < 1000) (hhi : hi < 1000) : ∃ ν x, f_X12_count F v w μ = some (x, ν) ∧ MO ν (numS U e lo hi p) (fun y => x = nI y.1 ∧ TkM ν U e y.2) ∧ Ag PMm μ ν := by
  have hk := tK_le (U := U) (e := e) (p := p)
  unfold f_X12_count numS
  simp only [jn]
  rw [if_pos h, T.2.2.1]
  by_cases z : tK U e p = 2
  · have hv2 := tV_2 z
    rw [if_pos ((eqL (n := 2) (by omega) (by decide)).mpr z), if_pos z, if_pos h, T.2.2.2.2 (Or.inl z), hv, hw, is_within _ _ _ μ]
    have wi : f_X11_within (nI (tV U e p)) (nI lo) (nI hi) μ = some (decide (lo ≤ tV U e p ∧ tV U e p ≤ hi)) := by
      rw [within_c _ _ _ (by omega) (by omega), nI_ti (by omega)]
      congr 1
      apply decide_eq_decide.mpr
      omega
    rw [wi, Option.bind_some]
    by_cases y : lo ≤ tV U e p ∧ tV U e p ≤ hi
    · rw [decide_eq_true y, if_pos rfl, if_pos y, if_pos (z0 h)]
      obtain ⟨ν, x1, x2, x3⟩ := M_adv T0 T hp hF
      rw [x1]
      exact ⟨ν, _, rfl, ⟨by rw [x3.i (by omega)]; exact h, rfl, x2⟩, PB_PM x3⟩
    · rw [decide_eq_false y, if_neg (by decide), if_neg y]
      obtain ⟨ν, x1, x2, x3, x4⟩ := M_fail h (v := 4) 4 (tS U e p) rfl T.1
      rw [x1, Option.bind_some, if_neg (bad_of x2 (by omega) (by omega)).2]
      exact ⟨ν, _, rfl, ⟨x2, x3, by show 1 ≤ 4; omega, by show 4 ≤ 7; omega⟩, x4⟩
  · rw [if_neg (fun y => z ((eqL (n := 2) (by omega) (by decide)).mp y)), if_neg z]
    obtain ⟨ν, x1, x2, x3, x4⟩ := M_amiss T h
    have hb := bad_of x2 unf_r.1 unf_r.2
    rw [x1, Option.bind_some, if_neg hb.1, if_neg hb.2]
    exact ⟨ν, _, rfl, ⟨x2, x3, unf_r.1, unf_r.2⟩, x4⟩
theorem M_isSign (T : TkM μ U e p) {v : Int32} {c : Nat} (hv : v = nI c) (hc : c < 1000) : f_X12_isSign v μ = some (decide (tK U e p = 3 ∧ tV U e p = c)) := by
  have hk := tK_le (U := U) (e := e) (p := p)
  unfold f_X12_isSign
  rw [T.2.2.1]
  by_cases z : tK U e p = 3
  · have hv2 := (tV_3 z).2
    rw [if_pos ((eqL (n := 3) (by omega) (by decide)).mpr z), T.2.2.2.2 (Or.inr z), hv]
    by_cases y : tV U e p = c
    · rw [if_pos (by rw [y]), decide_eq_true ⟨z, y⟩]
    · rw [if_neg (fun q => y ((nIeq (by omega) (by omega)).mp q)), decide_eq_false (fun q => y q.2)]
  · rw [if_neg (fun y => z ((eqL (n := 3) (by omega) (by decide)).mp y)), decide_eq_false (fun q => z q.1)]
theorem isSign_any {v : Int32} : ∃ x, f_X12_isSign v μ = some x := by
  unfold f_X12_isSign
  split
  · split
    · exact ⟨_, rfl⟩
    · exact ⟨_, rfl⟩
  · exact ⟨_, rfl⟩
/-- the end of a part -/
theorem M_end (T0 : TkM0 μ U e) (T : TkM μ U e p) (hp : p ≤ e) (hF : 2000000 ≤ F) (h : mI μ 141 12 = 0) : ∃ ν, ((f_X12_isSign 59 μ).bind fun x7 => f_X12_must F (bI x7) μ) = some ν ∧ MO ν (endS U e p) (fun q => TkM ν U e q) ∧ Ag PMm μ ν := by
  rw [M_isSign T (v := 59) (c := 59) rfl (by omega), Option.bind_some]
  unfold endS
  by_cases z : tK U e p = 3 ∧ tV U e p = 59
  · rw [decide_eq_true z, if_pos z]
    obtain ⟨ν, x1, x2, x3⟩ := M_must1 T0 T hp hF h (v := bI true) (by decide)
    exact ⟨ν, x1, ⟨by rw [x3.i (by omega)]; exact h, x2⟩, PB_PM x3⟩
  · rw [decide_eq_false z, if_neg z]
    obtain ⟨ν, x1, x2, x3, x4⟩ := M_must0 (F := F) T h
    exact ⟨ν, x1, ⟨x2, x3, unf_r.1, unf_r.2⟩, x4⟩
theorem M_endB (h : Bad μ) : ((f_X12_isSign 59 μ).bind fun x7 => f_X12_must F (bI x7) μ) = some μ := by
  obtain ⟨x, hx⟩ := isSign_any (μ := μ) (v := 59)
  rw [hx, Option.bind_some, M_mustB h]
/-! names -/
theorem M_named {β : Nat → Nat} {nm : Nat → Int64} {m : Nat} (hm : m ≤ 4) (hb0 : mA μ 146 (400 * m) = nI (β 0)) (h5 : β 0 ≤ 5) (hn : ∀ a, a < β 0 → mL μ 149 (5 * m + a) = nm a) (hF : 2000000 ≤ F) {v : Int32} (hv : v = nI m) : f_X12_named F v μ = some (oI (fndF (fun a => decide (nm a = mJ μ 141 19)) 0 (β 0))) := by
  subst hv
  unfold f_X12_named
  have key := seek1 (L := L_X12_named_2 F (nI m) (some (-1)) μ) (K := some (-1)) (G := fun l => some (nI l)) (F := F) (N := β 0) (fun a => decide (nm a = mJ μ 141 19)) 0 (by omega) (fun i hi n => ?_) (fun n => ?_)
  · rw [nI_0] at key
    rw [key]
    cases fndF (fun a => decide (nm a = mJ μ 141 19)) 0 (β 0) <;> rfl
  · rw [L_X12_named_2_s, Lmul, rdA_n (by show 400 * m < 2000; omega) (by omega), show mA μ 146 (400 * m) = nI (β 0) from hb0, Option.bind_some, Nat.zero_add, if_neg (fun z => by have := (nIle (by omega) (by omega)).mp z; omega), Lmul, nI_add, rdL_n (by show 5 * m + i < 25; omega) (by omega), show mL μ 149 (5 * m + i) = nm i from hn i hi, Option.bind_some, nI_1]
    by_cases q : nm i = mJ μ 141 19
    · rw [if_pos (lg_0.mpr q), if_pos (decide_eq_true q)]
    · rw [if_neg (fun z => q (lg_0.mp z)), if_neg (fun z => q (of_decide_eq_true z))]
  · rw [L_X12_named_2_s, Lmul, rdA_n (by show 400 * m < 2000; omega) (by omega), show mA μ 146 (400 * m) = nI (β 0) from hb0, Option.bind_some, Nat.zero_add, if_pos ((nIle (by omega) (by omega)).mpr (by omega))]
theorem tM_nameM (T : TkM μ U e p) (h : tM U e p = true) : mJ μ 141 19 = lN (tW U e p) := by
  obtain ⟨k1, k2, -⟩ := tM_K h
  rw [(T.2.2.2.1 k1).1, if_pos k2]
theorem tL_le (he : e ≤ 900) (hp : p ≤ e) : tL U e p ≤ 900 := by have := tN_b (U := U) hp; unfold tL; omega
theorem max_0 {a : Nat} (h : a < 2147483648) : f_J9_max_7cf53 0 (nI a) μ = some (nI a) := by
  unfold f_J9_max_7cf53
  congr 1
  by_cases z : a = 0
  · subst z; rfl
  · rw [if_pos ((Llt (n := 0) h (by decide)).mpr (by show 0 < a; omega))]
theorem M_readTold {β : Nat → Nat} {nm : Nat → Int64} {m : Nat} (T0 : TkM0 μ U e) (T : TkM μ U e p) (hp : p ≤ e) (hF : 2000000 ≤ F) (h : mI μ 141 12 = 0) (hm : m ≤ 4) (hb0 : mA μ 146 (400 * m) = nI (β 0)) (h5 : β 0 ≤ 5) (hn : ∀ a, a < β 0 → mL μ 149 (5 * m + a) = nm a) {v : Int32} (hv : v = nI m) : ∃ ν x, f_X12_readTold F v μ = some (x, ν) ∧ MO ν (nmS U e β nm p) (fun y => x = nI y.1 ∧ TkM ν U e y.2) ∧ Ag PMm μ ν := by
  unfold f_X12_readTold nmS
  simp only [jn]
  rw [if_pos h, M_isName T (tL_le T0.1 hp), Option.bind_some]
  by_cases z : tM U e p = true
  · rw [if_pos z, if_pos z, if_pos (z0 h), M_named hm hb0 h5 hn hF hv, Option.bind_some, tM_nameM T z]
    have hf : fndF (fun a => decide (nm a = lN (tW U e p))) 0 (β 0) = fnm U e β nm p := rfl
    rw [hf]
    cases hfn : fnm U e β nm p with
    | none =>
      rw [if_neg (by decide)]
      obtain ⟨ν, x1, x2, x3, x4⟩ := M_fail h (v := 3) 3 (tS U e p) rfl T.1
      have hb := bad_of x2 (by omega) (by omega)
      rw [x1, Option.bind_some, M_mustB hb, Option.bind_some]
      exact ⟨ν, _, rfl, ⟨x2, x3, by show 1 ≤ 3; omega, by show 3 ≤ 7; omega⟩, x4⟩
    | some a =>
      have ha := (fndF_some hfn).2.1
      rw [oI_some, if_pos (nI_pos' (by omega))]
      obtain ⟨ν, x1, x2, x3⟩ := M_must1 T0 T hp hF h (v := 1) (by decide)
      rw [x1, Option.bind_some, max_0 (by omega), Option.bind_some]
      exact ⟨ν, _, rfl, ⟨by rw [x3.i (by omega)]; exact h, rfl, x2⟩, PB_PM x3⟩
  · rw [if_neg z, if_neg z]
    obtain ⟨ν, x1, x2, x3, x4⟩ := M_amiss T h
    have hb := bad_of x2 unf_r.1 unf_r.2
    rw [x1, Option.bind_some, if_neg hb.2]
    exact ⟨ν, _, rfl, ⟨x2, x3, unf_r.1, unf_r.2⟩, x4⟩
theorem M_readToldB (h : Bad μ) {v : Int32} : f_X12_readTold F v μ = some (0, μ) := by
  unfold f_X12_readTold
  simp only [jn]
  rw [if_neg h.1, if_neg h.2]
/-! the block of the new book -/
def CN (μ : Mm) (β : Nat → Nat) : Prop := ∀ k, k < 400 → mA μ 146 (1600 + k) = nI (β k)
theorem CN_rd {β : Nat → Nat} (h : CN μ β) {k : Nat} (hk : k < 400) {v : Int32} (hv : v = nI (1600 + k)) : rdA μ 146 2000 v = some (nI (β k)) := by rw [hv, rdA_n (by omega) (by omega), h k hk]
theorem CN_wr {β : Nat → Nat} (h : CN μ β) {k : Nat} (hk : k < 400) {v w : Int32} {x : Nat} (hv : v = nI (1600 + k)) (hw : w = nI x) : ∃ ν, wrA μ 146 2000 v w = some ν ∧ CN ν (updN β k x) ∧ Ag (fun a i => a = 146 ∧ 1600 ≤ i) μ ν := by
  refine ⟨sA μ 146 (1600 + k) (nI x), by rw [hv, hw]; exact wrA_n (by omega) (by omega), fun j hj => ?_, Ag.sA ⟨rfl, by omega⟩⟩
  rw [mA_sA, if_pos rfl]
  by_cases q : j = k
  · rw [if_pos (by omega), q, updN_eq]
  · rw [if_neg (by omega), updN_ne q]; exact h j hj
theorem CN_ag {ν : Mm} {P : Nat → Nat → Prop} {β : Nat → Nat} (h : CN μ β) (a : Ag P μ ν) (h1 : ∀ k, 1600 ≤ k → ¬ P 146 k) : CN ν β := fun k hk => by rw [a.a (h1 _ (by omega))]; exact h k hk
def TLM (x : Int32) (tl : Nat → Bool) : Prop := bit x 2 = tl 2 ∧ bit x 3 = tl 3 ∧ bit x 4 = tl 4 ∧ bit x 7 = tl 7
theorem TLM_at {x : Int32} {tl : Nat → Bool} {j : Nat} (h : TLM x tl) (hj : j = 2 ∨ j = 3 ∨ j = 4 ∨ j = 7) : bit x j = tl j := by
  obtain ⟨h1, h2, h3, h4⟩ := h
  rcases hj with rfl | rfl | rfl | rfl
  · exact h1
  · exact h2
  · exact h3
  · exact h4
theorem TLM_upd {x : Int32} {tl : Nat → Bool} {j : Nat} (h : TLM x tl) (hj : j < 32) : TLM (x ||| ((1 : Int32) <<< (nI j &&& 31))) (updB tl j) := by
  obtain ⟨h1, h2, h3, h4⟩ := h
  have key : ∀ q, q < 32 → bit x q = tl q → bit (x ||| ((1 : Int32) <<< (nI j &&& 31))) q = updB tl j q := fun q hq hb => by
    rw [bit_or _ _ hq, bit_sh hj hq, hb]
    unfold updB
    by_cases z : q = j
    · rw [decide_eq_true z, Bool.or_true, if_pos z]
    · rw [decide_eq_false z, Bool.or_false, if_neg z]
  exact ⟨key 2 (by omega) h1, key 3 (by omega) h2, key 4 (by omega) h3, key 7 (by omega) h4⟩
def GM (U : Nat → Nat) (e : Nat) (s : BS) (ν : Mm) : Prop := TkM0 ν U e ∧ TkM ν U e s.1 ∧ CN ν s.2.1 ∧ (∀ a, a < s.2.1 0 → mL ν 149 (20 + a) = s.2.2.1 a) ∧ TLM (mI ν 141 25) s.2.2.2
abbrev PN (a k : Nat) : Prop := (a = 141 ∧ ((12 ≤ k ∧ k ≤ 19) ∨ k = 25)) ∨ (a = 146 ∧ 1600 ≤ k) ∨ (a = 149 ∧ 20 ≤ k)
theorem PM_PN {ν : Mm} (h : Ag PMm μ ν) : Ag PN μ ν := h.mono (fun a k q => by omega)
end BKM
/-! a part without its end -/
section SPECB
variable (U : Nat → Nat) (e : Nat)
def enS (s : BS) : Sum Flt BS := sb (endS U e s.1) fun q => .inr (q, s.2)
def onceB (j lo hi : Nat) (s : BS) : Sum Flt BS := if s.2.2.2 j = true then .inl (5, tS U e s.1) else sb (numS U e lo hi (tN U e s.1)) fun v => .inr (v.2, updN s.2.1 j v.1, s.2.2.1, updB s.2.2.2 j)
def wideB (s : BS) : Sum Flt BS := if 0 < s.2.1 0 then .inl (5, tS U e s.1) else onceB U e 2 1 5 s
def accB (s : BS) : Sum Flt BS := if 5 ≤ s.2.1 0 then .inl (6, tS U e s.1) else if tM U e (tN U e s.1) = true then (if fnm U e s.2.1 s.2.2.1 (tN U e s.1) = none then (match kindO (tO U e (tN U e (tN U e s.1))) with | none => .inl (unf U e (tN U e (tN U e s.1))) | some kd => sb (dgS U e (s.2.1 2) (s.2.1 0) (s.2.1 2) (tN U e (tN U e (tN U e s.1))) s.2.1) fun x => .inr (x.1, updN (updN x.2 (8 + s.2.1 0) kd) 0 (s.2.1 0 + 1), updJ s.2.2.1 (s.2.1 0) (lN (tW U e (tN U e s.1))), s.2.2.2)) else .inl (3, tS U e (tN U e s.1))) else .inl (unf U e (tN U e s.1))
def lawB (s : BS) : Sum Flt BS := if 10 ≤ s.2.1 1 then .inl (6, tS U e s.1) else sb (numS U e 0 9 (tN U e s.1)) fun a => sb (wdS U e 7 a.2) fun q1 => sb (numS U e 0 9 q1) fun c => match placO (tO U e c.2) with
  | none => .inr (c.2, addB s.2.1 a.1 c.1 0 0, s.2.2.1, s.2.2.2)
  | some pl => sb (numS U e 0 9 (tN U e c.2)) fun d => .inr (d.2, addB s.2.1 a.1 c.1 pl d.1, s.2.2.1, s.2.2.2)
def watB (s : BS) : Sum Flt BS := if s.2.2.2 7 = true then .inl (5, tS U e s.1) else sb (nmS U e s.2.1 s.2.2.1 (tN U e s.1)) fun a => sb (numS U e 0 (s.2.1 2 - 1) a.2) fun c => .inr (c.2, updN s.2.1 7 (s.2.1 2 * a.1 + c.1), s.2.2.1, updB s.2.2.2 7)
def prtB (s : BS) : Sum Flt BS := if tO U e s.1 = some 0 then wideB U e s else if tO U e s.1 = some 1 then onceB U e 3 1 9 s else if tO U e s.1 = some 2 then onceB U e 4 0 16 s else if tO U e s.1 = some 3 then accB U e s else if tO U e s.1 = some 6 then lawB U e s else if tO U e s.1 = some 12 then watB U e s else .inl (unf U e s.1)
end SPECB
section SPECB2
variable {U : Nat → Nat} {e : Nat}
theorem once_B {j lo hi : Nat} {s : BS} : onceS U e j lo hi s = sb (onceB U e j lo hi s) (enS U e) := by
  unfold onceS onceB
  split
  · rfl
  · cases numS U e lo hi (tN U e s.1) <;> rfl
theorem acc_B {s : BS} : accS U e s = sb (accB U e s) (enS U e) := by
  unfold accS accB
  split
  · rfl
  · split
    · split
      · cases kindO (tO U e (tN U e (tN U e s.1))) with
        | none => rfl
        | some kd =>
          cases hd : dgS U e (s.2.1 2) (s.2.1 0) (s.2.1 2) (tN U e (tN U e (tN U e s.1))) s.2.1 with
          | inl f => rfl
          | inr x => rfl
      · rfl
    · rfl
theorem law_B {s : BS} : lawS U e s = sb (lawB U e s) (enS U e) := by
  unfold lawS lawB
  split
  · rfl
  · cases numS U e 0 9 (tN U e s.1) with
    | inl f => rfl
    | inr a =>
      rw [sb_r, sb_r]
      cases wdS U e 7 a.2 with
      | inl f => rfl
      | inr q1 =>
        rw [sb_r, sb_r]
        cases numS U e 0 9 q1 with
        | inl f => rfl
        | inr c =>
          rw [sb_r, sb_r]
          cases placO (tO U e c.2) with
          | none => rfl
          | some pl =>
            show sb (numS U e 0 9 (tN U e c.2)) _ = sb (sb (numS U e 0 9 (tN U e c.2)) _) _
            cases numS U e 0 9 (tN U e c.2) <;> rfl
theorem wat_B {s : BS} : watS U e s = sb (watB U e s) (enS U e) := by
  unfold watS watB
  split
  · rfl
  · cases nmS U e s.2.1 s.2.2.1 (tN U e s.1) with
    | inl f => rfl
    | inr a =>
      rw [sb_r, sb_r]
      cases numS U e 0 (s.2.1 2 - 1) a.2 <;> rfl
theorem prt_B {s : BS} : prtS U e s = sb (prtB U e s) (enS U e) := by
  unfold prtS prtB
  split
  · unfold wideS wideB
    split
    · rfl
    · exact once_B
  · split
    · exact once_B
    · split
      · exact once_B
      · split
        · exact acc_B
        · split
          · exact law_B
          · split
            · exact wat_B
            · rfl
end SPECB2
