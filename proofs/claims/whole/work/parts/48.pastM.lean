/-! ===== what stood there: likely, the reference, the calls ===== -/
theorem R.mr {μ ν : Mm} (h : R μ) (hI : mI ν = mI μ) (hJ : mJ ν = mJ μ) (hA : mA ν = mA μ) (hL : mL ν = mL μ) (hB : mB ν = mB μ) (hr : ∀ i, i < 4 → mR ν i = mR μ i) (ht : RefT ν) : R ν := by
  obtain ⟨rp, rn, rt, st, top, bot, tr, tp, fk, fa, sw, pg, mk, lv⟩ := h
  have bx : ∀ b β, BX μ b β → BX ν b β := fun b β q => by unfold BX at *; rw [hI, hA]; exact q
  have pgc : ∀ b N m β nm ω σ, PG μ b N m β nm ω σ → PG ν b N m β nm ω σ := fun b N m β nm ω σ q => by
    obtain ⟨q1, q2, q3, q4, q5, q6, q7, q8, q9, q10⟩ := q
    exact ⟨bx _ _ q1, by rw [hA]; exact q2, q3, q4, by rw [hL]; exact q5, by rw [hL]; exact q6, by rw [hI]; exact q7, by rw [hA]; exact q8, by rw [hA]; exact q9, q10⟩
  refine ⟨?_, ?_, ht, by rw [hI]; exact st, by rw [hJ]; exact top, by rw [hJ]; exact bot, ?_, ?_, by rw [hI]; exact fk, by rw [hI]; exact fa, by rw [hL]; exact sw, ?_, ?_, ?_⟩
  · unfold RefP at *; rw [hr 0 (by omega), hr 1 (by omega)]; exact rp
  · unfold RefN at *; rw [hr 2 (by omega), hr 3 (by omega)]; exact rn
  · unfold Try at *; rw [hA, hL]; exact tr
  · unfold Tpe at *; rw [hI, hB]; exact tp
  · obtain ⟨β, nm, ω, σ, q⟩ := pg
    rw [hr 0 (by omega), hr 2 (by omega)]
    exact ⟨β, nm, ω, σ, pgc _ _ _ _ _ _ _ q⟩
  · obtain ⟨m, q1, q2, q3, q4⟩ := mk
    refine ⟨m, q1, by rw [hI]; exact q2, by rw [hI]; exact q3, fun i hi => ?_⟩
    obtain ⟨β, nm, ω, σ, q⟩ := q4 i hi
    exact ⟨β, nm, ω, σ, pgc _ _ _ _ _ _ _ q⟩
  · rw [hI, hA]; exact lv
section PASTM
variable {μ : Mm} {b : Nat} {β : Nat → Nat} {F a : Nat}
theorem ovr_K {g : Nat → Nat} (ha : a < β 0) (w : WF β) : Kp (ovr β a g) β := fun i hi => by
  have hc := w.cl_le
  have hk := pl_lt ha (show β 2 - 1 < β 2 by have := w.1.2.1; omega)
  have := w.1.2.1
  unfold ovr
  rw [if_neg (by omega)]
theorem ovr_wf {g : Nat → Nat} (ha : a < β 0) (w : WF β) (hg : ∀ i, i < β 2 → g i ≤ 9) : WF (ovr β a g) := by
  have hc := w.cl_le
  have w2 := w.1.2.1
  have hk := pl_lt ha (show β 2 - 1 < β 2 by omega)
  have K := ovr_K (g := g) ha w
  have hcl := Kp_cl K
  have hlo : ∀ j, j < 13 → ovr β a g j = β j := fun j hj => ovr_out (by omega)
  have hhi : ∀ j, 38 ≤ j → ovr β a g j = β j := fun j hj => ovr_out (by omega)
  obtain ⟨⟨w0, w1, w2, w3, w4, w5, w6, w7, w8⟩, wk, wd, wl⟩ := id w
  refine ⟨⟨by rw [hlo 0 (by omega)]; exact w0, by rw [hlo 2 (by omega)]; exact w1, by rw [hlo 2 (by omega)]; exact w2, by rw [hlo 1 (by omega)]; exact w3, by rw [hlo 3 (by omega)]; exact w4, by rw [hlo 3 (by omega)]; exact w5, by rw [hlo 4 (by omega)]; exact w6, by rw [hlo 5 (by omega)]; exact w7, by rw [hcl, hlo 7 (by omega), hlo 0 (by omega)]; exact w8⟩, ?_, ?_, ?_⟩
  · intro q hq; rw [hlo _ (by omega)]; exact wk q hq
  · intro k hk
    obtain ⟨d1, d2, d3⟩ := wd k hk
    refine ⟨?_, by rw [hhi _ (by omega)]; exact d2, by rw [hhi _ (by omega)]; exact d3⟩
    unfold ovr
    split
    · exact hg _ (by omega)
    · exact d1
  · intro l hl; rw [hhi _ (by omega), hhi _ (by omega), hhi _ (by omega), hhi _ (by omega)]; exact wl l hl
theorem ovr_self : ovr β a (fun i => β (13 + (β 2 * a + i))) = β := by
  funext j
  unfold ovr
  split
  · show β (13 + (β 2 * a + (j - (13 + β 2 * a)))) = β j
    congr 1; omega
  · rfl
theorem ovr_upd {g : Nat → Nat} {i x : Nat} (hi : i < β 2) : updN (ovr β a g) (13 + (β 2 * a + i)) x = ovr β a (updN g i x) := by
  funext j
  unfold updN ovr
  by_cases e : j = 13 + (β 2 * a + i)
  · rw [if_pos e, if_pos (by omega)]
    show x = if j - (13 + β 2 * a) = i then x else g (j - (13 + β 2 * a))
    rw [if_pos (by omega)]
  · rw [if_neg e]
    split
    · show _ = if j - (13 + β 2 * a) = i then x else g (j - (13 + β 2 * a))
      rw [if_neg (by omega)]
    · rfl
theorem ovr_cong {g g' : Nat → Nat} (h : ∀ i, i < β 2 → g i = g' i) : ovr β a g = ovr β a g' := by
  funext j
  unfold ovr
  split
  · exact h _ (by omega)
  · rfl
/-- figures from the last place down: n places are left -/
def fg (W : Nat) (g : Nat → Nat) (s n : Nat) : Nat → Nat := fun i => if n ≤ i ∧ i < W then dgC W s i else g i
theorem fg_s {W : Nat} {g : Nat → Nat} {s n : Nat} (h : n < W) : updN (fg W g s (n + 1)) n (dgC W s n) = fg W g s n := by
  funext i
  unfold updN fg
  by_cases e : i = n
  · rw [if_pos e, if_pos (by omega), e]
  · rw [if_neg e]
    by_cases q : n + 1 ≤ i ∧ i < W
    · rw [if_pos q, if_pos (by omega)]
    · rw [if_neg q, if_neg (by omega)]
theorem dg_rest {W s n : Nat} (h : n < W) : s / 10 ^ (W - (n + 1)) % 10 = dgC W s n := by unfold dgC; rw [show W - (n + 1) = W - 1 - n by omega]
theorem dg_div {W s n : Nat} (h : n < W) : s / 10 ^ (W - (n + 1)) / 10 = s / 10 ^ (W - n) := by rw [Nat.div_div_eq_div_mul, ← Nat.pow_succ, show (W - (n + 1)).succ = W - n by omega]
theorem dgC_9 {W s i : Nat} : dgC W s i ≤ 9 := by unfold dgC; omega
theorem m1 {n : Nat} : nI (n + 1) - 1 = nI n := nI_pred n
theorem pm1 {n : Nat} : nI n + (-1 : Int32) = nI n - 1 := by rw [Int32.sub_eq_add_neg]
/-- a loop down from place n - 1 that writes the figures of s -/
theorem down {ρ : Type} {L : Nat → Int32 → Int32 → Mm → Option ρ} {K : Mm → Option ρ} {W s : Nat} (hs : s < 2147483648) (I : Nat → Mm → Prop) (hF : 2000000 ≤ F) (hW : W ≤ 5)
    (he : ∀ n v μ, L (n + 1) v (-1) μ = K μ)
    (hst : ∀ n μ, n < W → I (n + 1) μ → ∃ ν, I n ν ∧ ∀ k x, x < 2147483648 → x % 10 = dgC W s n → L (k + 1) (nI x) (nI n) μ = L k (nI (x / 10)) (nI n - 1) ν) (h : I W μ) : ∃ ν, I 0 ν ∧ L F (nI s) (nI W - 1) μ = K ν := by
  have key : ∀ n k μ x, n ≤ W → n < k → x = s / 10 ^ (W - n) → I n μ → ∃ ν, I 0 ν ∧ L k (nI x) (nI n - 1) μ = K ν := by
    intro n
    induction n with
    | zero =>
      intro k μ x _ hk _ hI
      obtain ⟨k, rfl⟩ : ∃ q, k = q + 1 := ⟨k - 1, by omega⟩
      exact ⟨μ, hI, he k _ μ⟩
    | succ n ih =>
      intro k μ x hn hk hx hI
      obtain ⟨k, rfl⟩ : ∃ q, k = q + 1 := ⟨k - 1, by omega⟩
      obtain ⟨ν, h1, h2⟩ := hst n μ (by omega) hI
      have hx2 : x ≤ s := by rw [hx]; exact Nat.div_le_self _ _
      obtain ⟨ξ, q1, q2⟩ := ih k ν (x / 10) (by omega) (by omega) (by rw [hx, dg_div (by omega)]) h1
      refine ⟨ξ, q1, ?_⟩
      rw [m1, h2 k x (by omega) (by rw [hx, dg_rest (by omega)])]
      exact q2
  exact key W F μ s (Nat.le_refl _) (by omega) (by rw [Nat.sub_self, Nat.pow_zero, Nat.div_one]) h
theorem X_couldHaveBeen (h : BX μ b β) (w : WF β) (hF : 2000000 ≤ F) (hb : b + 12 ≤ 107) (ha : a < β 0) {s : Nat} (hs : s < 2147483648) : ∃ ν, f_X7_couldHaveBeen F b (nI a) (nI s) μ = some (decide (s < 10 ^ β 2) && pst β a s, ν) ∧ Ag (fun x _ => x = 132) μ ν := by
  have hc := w.cl_le
  have w2 := w.1.2.1
  have w5 := w.1.2.2.1
  have hp := p10 (m := β 2) w5
  unfold f_X7_couldHaveBeen
  rw [h.wide, rdX_n (by omega) (by omega), xT_at _ (by omega), Option.bind_some]
  by_cases e : s < 10 ^ β 2
  · rw [if_pos ((nIlt (by omega) (by omega)).mpr e), decide_eq_true e, Bool.true_and]
    have cp : cpA μ (b + 8) 25 0 132 25 0 25 = some (cpR μ (b + 8) 132 25) := cpA_25
    rw [cp, Option.bind_some]
    have wd0 : mI (cpR μ (b + 8) 132 25) b 0 = nI (β 2) := h.wide
    rw [wd0, pk_mul, Nat.mul_comm a]
    obtain ⟨ν, ⟨i1, i2⟩, e1⟩ := down (L := L_X7_couldHaveBeen_48 F b (nI (β 2 * a)) (fun μ4 => L_X7_couldHaveBeen_84 F b (nI (β 2 * a)) (some (true, μ4)) μ4 F 0)) (K := fun μ4 => L_X7_couldHaveBeen_84 F b (nI (β 2 * a)) (some (true, μ4)) μ4 F 0) (W := β 2) (s := s) (F := F) (μ := cpR μ (b + 8) 132 25) hs (fun n ν => RW ν β a (dgs (ovr β a (fg (β 2) (fun i => β (13 + (β 2 * a + i))) s n))) ∧ Ag (fun x _ => x = 132) μ ν) hF w5 (fun n v μ => by rw [L_X7_couldHaveBeen_48_s, if_pos (by decide)]) (fun n ν hn hI => by
      have hk := pl_lt ha hn
      refine ⟨sA ν 132 (β 2 * a + n) (nI (dgC (β 2) s n)), ⟨?_, hI.2.tr (Ag.sA rfl)⟩, fun k x hx hd => ?_⟩
      · have q := RW_wr hI.1 (k := β 2 * a + n) (x := dgC (β 2) s n) (by omega) (by omega) dgC_9
        have hup := ovr_upd (β := β) (a := a) (g := fg (β 2) (fun i => β (13 + (β 2 * a + i))) s (n + 1)) (x := dgC (β 2) s n) hn
        rw [fg_s hn] at hup
        rw [← hup]
        refine ⟨fun i hi => ?_, fun i hi => ?_, fun i hi z => ?_⟩
        · rw [q.1 i hi]
          unfold dgs updN
          by_cases z : i = β 2 * a + n
          · rw [if_pos z, if_pos (by omega)]
          · rw [if_neg z, if_neg (by omega)]
        · have := q.2.1 i hi
          unfold dgs updN at *
          by_cases z : i = β 2 * a + n
          · rw [if_pos (by omega)]; exact dgC_9
          · rw [if_neg (by omega)]; rw [if_neg z] at this; exact this
        · have := q.2.2 i hi z
          unfold dgs updN at *
          rw [if_neg (by omega)]
          rw [if_neg (by omega)] at this
          exact this
      · rw [L_X7_couldHaveBeen_48_s, if_neg (nI_n0 (by omega)), if_neg (by decide), nI_add, r10 hx, hd, wrA_n (by omega) (by omega), Option.bind_some, if_neg (by decide), d10 hx, pm1]) ⟨⟨fun i hi => by
        rw [cpR_at (by omega), h.digits i hi]
        show _ = nI (ovr β a (fg (β 2) (fun i => β (13 + (β 2 * a + i))) s (β 2)) (13 + i))
        rw [ovr_cong (g' := fun i => β (13 + (β 2 * a + i))) (fun j hj => by unfold fg; rw [if_neg (by omega)]), ovr_self], fun i hi => by
        show ovr β a (fg (β 2) (fun i => β (13 + (β 2 * a + i))) s (β 2)) (13 + i) ≤ 9
        rw [ovr_cong (g' := fun i => β (13 + (β 2 * a + i))) (fun j hj => by unfold fg; rw [if_neg (by omega)]), ovr_self]
        exact (w.2.2.1 i (by omega)).1, fun i hi z => by
        show ovr β a (fg (β 2) (fun i => β (13 + (β 2 * a + i))) s (β 2)) (13 + i) = _
        exact ovr_out (by omega)⟩, cpR_ag (fun _ => rfl)⟩
    refine ⟨ν, ?_, i2⟩
    refine e1.trans ?_
    have hg : ovr β a (fg (β 2) (fun i => β (13 + (β 2 * a + i))) s 0) = ovr β a (dgC (β 2) s) := ovr_cong (fun j hj => by unfold fg; rw [if_pos (by omega)])
    rw [hg] at i1
    have hx : BX ν b β := h.ag i2 (fun i hi _ => by omega)
    have key := seek1 (L := L_X7_couldHaveBeen_84 F b (nI (β 2 * a)) (some (true, ν)) ν) (K := some (true, ν)) (G := fun _ => some (false, ν)) (F := F) (N := β 2) (fun i => !chk β a (dgC (β 2) s) i) 0 (by omega) (fun i hi n => ?_) (fun n => ?_)
    · rw [nI_0] at key
      rw [key]
      unfold pst
      cases fndF (fun i => !chk β a (dgC (β 2) s) i) 0 (β 2) <;> rfl
    · have hk := pl_lt ha hi
      have dr := X_drifted hx w hF i1.1 i1.2.1 hk
      have hb9 : becomes β (dgs (ovr β a (dgC (β 2) s))) (β 2 * a + i) ≤ 9 := becomes_le w (i1.2.1 _ hk)
      have hd9 := (w.2.2.1 (β 2 * a + i) (by omega)).1
      rw [L_X7_couldHaveBeen_84_s, hx.wide, Nat.zero_add, if_neg (fun z => by have := (nIle (by omega) (by omega)).mp z; omega), nI_add, dr, Option.bind_some, hx.rD w hk, Option.bind_some, nI_1]
      unfold chk
      by_cases q : becomes β (dgs (ovr β a (dgC (β 2) s))) (β 2 * a + i) = β (13 + (β 2 * a + i))
      · rw [if_pos (by rw [q]), if_neg (by simp [q])]
      · rw [if_neg (fun z => q ((nIeq (by omega) (by omega)).mp z)), if_pos (by simp [q])]
    · rw [L_X7_couldHaveBeen_84_s, hx.wide, Nat.zero_add, if_pos ((nIle (by omega) (by omega)).mpr (by omega))]
  · rw [if_neg (fun z => e ((nIlt (by omega) (by omega)).mp z)), decide_eq_false e, Bool.false_and]
    exact ⟨μ, rfl, Ag.rf⟩
/-! the reference -/
theorem M_isPast {g : Nat → Nat} (h : CB μ (ovr β a g)) (w : WF β) (hF : 2000000 ≤ F) (ha : a < β 0) (hg : ∀ i, i < β 2 → g i ≤ 9) (hr : ∀ i, i < β 2 → mA μ 154 i = nI (β (13 + (β 2 * a + i)))) : f_X12_isPast F (nI (β 2 * a)) μ = some ((fndF (fun i => !chk β a g i) 0 (β 2)).isNone) := by
  have hc := w.cl_le
  have w5 := w.1.2.2.1
  have W := ovr_wf ha w hg
  have K := ovr_K (g := g) ha w
  have hcl := Kp_cl K
  have h2 : ovr β a g 2 = β 2 := ovr_out (by omega)
  unfold f_X12_isPast
  have key := seek1 (L := L_X12_isPast_2 F (nI (β 2 * a)) (some true) μ) (K := some true) (G := fun _ => some false) (F := F) (N := β 2) (fun i => !chk β a g i) 0 (by omega) (fun i hi n => ?_) (fun n => ?_)
  · rw [nI_0] at key
    rw [key]
    cases fndF (fun i => !chk β a g i) 0 (β 2) <;> rfl
  · have hk := pl_lt ha hi
    have mb := M_becomesBy h W hF (k := β 2 * a + i) (by rw [hcl]; exact hk)
    rw [Kp_bec K] at mb
    have hb9 : becomes β (dgs (ovr β a g)) (β 2 * a + i) ≤ 9 := becomes_le w (W.2.2.1 (β 2 * a + i) (by omega)).1
    have hd9 := (w.2.2.1 (β 2 * a + i) (by omega)).1
    rw [L_X12_isPast_2_s, h.rl 2 (by omega), Option.bind_some, h2, Nat.zero_add, if_neg (fun z => by have := (nIle (by omega) (by omega)).mp z; omega), nI_add, mb, Option.bind_some, rdA_n (by omega) (by omega), hr i hi, Option.bind_some, nI_1]
    unfold chk
    by_cases q : becomes β (dgs (ovr β a g)) (β 2 * a + i) = β (13 + (β 2 * a + i))
    · rw [if_pos (by rw [q]), if_neg (by simp [q])]
    · rw [if_neg (fun z => q ((nIeq (by omega) (by omega)).mp z)), if_pos (by simp [q])]
  · rw [L_X12_isPast_2_s, h.rl 2 (by omega), Option.bind_some, h2, Nat.zero_add, if_pos ((nIle (by omega) (by omega)).mpr (by omega))]
abbrev PL (x k : Nat) : Prop := (x = 141 ∧ (k = 34 ∨ k = 35 ∨ k = 36)) ∨ (x = 146 ∧ k < 128) ∨ x = 154
theorem M_laysPast (h : CB μ β) (w : WF β) (hF : 2000000 ≤ F) (ha : a < β 0) {s : Nat} (hs : s < 2147483648) : ∃ ν, f_X12_laysPast F (nI a) (nI s) μ = some ν ∧ CB ν β ∧ mI ν 141 34 = nI (cntF (pst β a) 0 (10 ^ β 2)) ∧ mI ν 141 35 = nI (cntF (fun c => decide (c = s) && pst β a s) 0 (10 ^ β 2)) ∧ mI ν 141 36 = oI (fndF (pst β a) 0 (10 ^ β 2)) ∧ Ag PL μ ν := by
  have hc := w.cl_le
  have w2 := w.1.2.1
  have w5 := w.1.2.2.1
  have hp := p10 (m := β 2) w5
  have hkl := pl_lt ha (show β 2 - 1 < β 2 by omega)
  have dg9 : ∀ i, i < β 2 → β (13 + (β 2 * a + i)) ≤ 9 := fun i hi => (w.2.2.1 (β 2 * a + i) (by have := pl_lt ha hi; omega)).1
  obtain ⟨μ1, hμ1⟩ : ∃ μ1, μ1 = sI (sI (sI μ 141 34 0) 141 35 0) 141 36 (-1) := ⟨_, rfl⟩
  have A1 : Ag PL μ μ1 := by rw [hμ1]; exact ((Ag.sI (Or.inl ⟨rfl, Or.inl rfl⟩)).tr (Ag.sI (Or.inl ⟨rfl, Or.inr (Or.inl rfl)⟩))).tr (Ag.sI (Or.inl ⟨rfl, Or.inr (Or.inr rfl)⟩))
  have c1 : CB μ1 β := by rw [hμ1]; exact h.at rfl
  obtain ⟨μ2, hμ2⟩ : ∃ μ2, μ2 = putA μ1 154 (fun i => nI (β (13 + (β 2 * a + i)))) 0 (β 2) := ⟨_, rfl⟩
  have A2 : Ag (fun x _ => x = 154) μ1 μ2 := by rw [hμ2]; exact putA_ag (fun _ _ _ => rfl)
  have lp1 : ∀ kk : Int32 → Mm → Option Mm, L_X12_laysPast_30 F (nI s) (nI (β 2 * a)) kk F 1 0 μ1 = kk (nI (10 ^ β 2)) μ2 := by
    intro kk
    rw [hμ2]
    refine iter3 (F := F) (L := L_X12_laysPast_30 F (nI s) (nI (β 2 * a)) kk) (fun i => nI (10 ^ i)) (fun i => nI i) (fun i => putA μ1 154 (fun i => nI (β (13 + (β 2 * a + i)))) 0 i) (N := β 2) (by omega) (fun i hi n => ?_) (fun n => ?_)
    · have hc3 : CB (putA μ1 154 (fun i => nI (β (13 + (β 2 * a + i)))) 0 i) β := c1.at ((putA_ag (P := fun x _ => x = 154) (fun _ _ _ => rfl)).A (fun _ => by omega))
      have hk := pl_lt ha hi
      rw [L_X12_laysPast_30_s, hc3.rl 2 (by omega), Option.bind_some, if_neg (fun z => by have := (nIle (by omega) (by omega)).mp z; omega), Ladd, nI_add, show 13 + β 2 * a + i = 13 + (β 2 * a + i) by omega, hc3.rd (by omega), Option.bind_some, wrA_n (by omega) (by omega), Option.bind_some, putA_n, Nat.zero_add, mulL, nI_1, Nat.pow_succ]
    · have hc3 : CB (putA μ1 154 (fun i => nI (β (13 + (β 2 * a + i)))) 0 (β 2)) β := c1.at ((putA_ag (P := fun x _ => x = 154) (fun _ _ _ => rfl)).A (fun _ => by omega))
      rw [L_X12_laysPast_30_s, hc3.rl 2 (by omega), Option.bind_some, if_pos ((nIle (by omega) (by omega)).mpr (by omega))]
  have step : ∀ c v ν, c < 10 ^ β 2 → (v = nI c ∧ (∃ g, (∀ i, i < β 2 → g i ≤ 9) ∧ CB ν (ovr β a g)) ∧ mI ν 141 34 = nI (cntF (pst β a) 0 c) ∧ mI ν 141 35 = nI (cntF (fun c => decide (c = s) && pst β a s) 0 c) ∧ mI ν 141 36 = oI (fndF (pst β a) 0 c) ∧ Ag (fun x k => (x = 141 ∧ (k = 34 ∨ k = 35 ∨ k = 36)) ∨ (x = 146 ∧ k < 128)) μ2 ν) → ∃ v' ν', (v' = nI (c + 1) ∧ (∃ g, (∀ i, i < β 2 → g i ≤ 9) ∧ CB ν' (ovr β a g)) ∧ mI ν' 141 34 = nI (cntF (pst β a) 0 (c + 1)) ∧ mI ν' 141 35 = nI (cntF (fun c => decide (c = s) && pst β a s) 0 (c + 1)) ∧ mI ν' 141 36 = oI (fndF (pst β a) 0 (c + 1)) ∧ Ag (fun x k => (x = 141 ∧ (k = 34 ∨ k = 35 ∨ k = 36)) ∨ (x = 146 ∧ k < 128)) μ2 ν') ∧ ∀ k, L_X12_laysPast_76 F (nI s) (nI (β 2 * a)) (nI (10 ^ β 2)) (fun μ18 => L_X12_laysPast_202 F (nI (β 2 * a)) (fun μ22 => some μ22) F 0 μ18) (k + 1) v ν = L_X12_laysPast_76 F (nI s) (nI (β 2 * a)) (nI (10 ^ β 2)) (fun μ18 => L_X12_laysPast_202 F (nI (β 2 * a)) (fun μ22 => some μ22) F 0 μ18) k v' ν' := by
    rintro c v ν hcc ⟨rfl, ⟨g, g1, g2⟩, i1, i2, i3, i4⟩
    have rd2 : rdA ν 146 2000 2 = some (nI (β 2)) := by rw [g2.rl 2 (by omega), ovr_out (by omega)]
    -- the row of c is laid
    have lay : ∃ ν1, CB ν1 (ovr β a (dgC (β 2) c)) ∧ Ag (fun x k => x = 146 ∧ k < 128) ν ν1 ∧ ∀ kk : Mm → Option Mm, L_X12_laysPast_97 F (nI s) (nI (β 2 * a)) (nI (10 ^ β 2)) (nI c) kk F (nI c) (nI (β 2) - 1) ν = kk ν1 := by
      have dn : ∀ kk : Mm → Option Mm, ∃ ν1, (CB ν1 (ovr β a (fg (β 2) g c 0)) ∧ Ag (fun x k => x = 146 ∧ k < 128) ν ν1) ∧ L_X12_laysPast_97 F (nI s) (nI (β 2 * a)) (nI (10 ^ β 2)) (nI c) kk F (nI c) (nI (β 2) - 1) ν = kk ν1 := by
        intro kk
        refine down (L := L_X12_laysPast_97 F (nI s) (nI (β 2 * a)) (nI (10 ^ β 2)) (nI c) kk) (K := kk) (W := β 2) (s := c) (F := F) (μ := ν) (by omega) (fun n ν1 => CB ν1 (ovr β a (fg (β 2) g c n)) ∧ Ag (fun x k => x = 146 ∧ k < 128) ν ν1) hF w5 (fun n v μ => by rw [L_X12_laysPast_97_s, if_pos (by decide)]) (fun n ξ hn hI => ?_) ⟨?_, Ag.rf⟩
        · have hk := pl_lt ha hn
          refine ⟨sA ξ 146 (13 + (β 2 * a + n)) (nI (dgC (β 2) c n)), ⟨?_, hI.2.tr (Ag.sA ⟨rfl, by omega⟩)⟩, fun k x hx hd => ?_⟩
          · have q := hI.1.wr (k := 13 + (β 2 * a + n)) (by omega) (dgC (β 2) c n)
            rw [ovr_upd hn, fg_s hn] at q
            exact q
          · rw [L_X12_laysPast_97_s, if_neg (nI_n0 (by omega)), if_neg (by decide), Ladd, nI_add, show 13 + β 2 * a + n = 13 + (β 2 * a + n) by omega, r10 hx, hd, wrA_n (by omega) (by omega), Option.bind_some, if_neg (by decide), d10 hx, pm1]
        · rw [ovr_cong (g' := g) (fun j hj => by unfold fg; rw [if_neg (by omega)])]
          exact g2
      have key : ∀ (kk : Mm → Option Mm) n v7 v6 ξ, L_X12_laysPast_97 F (nI s) (nI (β 2 * a)) (nI (10 ^ β 2)) (nI c) kk n v6 v7 ξ = (L_X12_laysPast_97 F (nI s) (nI (β 2 * a)) (nI (10 ^ β 2)) (nI c) (fun ξ => some ξ) n v6 v7 ξ).bind kk := by
        intro kk n
        induction n with
        | zero => intro v7 v6 ξ; rfl
        | succ n ih =>
          intro v7 v6 ξ
          rw [L_X12_laysPast_97_s, L_X12_laysPast_97_s]
          split
          · rfl
          · rw [if_neg (by decide), if_neg (by decide)]
            cases wrA ξ 146 2000 (13 + nI (β 2 * a) + v7) (v6 - v6 / 10 * 10) with
            | none => rfl
            | some ζ =>
              rw [Option.bind_some, Option.bind_some, if_neg (by decide), if_neg (by decide)]
              exact ih _ _ _
      obtain ⟨ν1, ⟨q1, q2⟩, q3⟩ := dn (fun ξ => some ξ)
      refine ⟨ν1, ?_, q2, fun kk => by rw [key, q3]; rfl⟩
      rw [ovr_cong (g' := fg (β 2) g c 0) (fun j hj => by unfold fg; rw [if_pos (by omega)])]
      exact q1
    obtain ⟨ν1, q1, q2, q3⟩ := lay
    have r1 : ∀ i, i < β 2 → mA ν1 154 i = nI (β (13 + (β 2 * a + i))) := fun i hi => by rw [q2.a (by omega), i4.a (by omega), hμ2, putA_mA, if_pos (by omega)]
    have ip := M_isPast q1 w hF ha (fun i _ => dgC_9) r1
    have ipp : f_X12_isPast F (nI (β 2 * a)) ν1 = some (pst β a c) := ip
    have j1 : mI ν1 141 34 = nI (cntF (pst β a) 0 c) := by rw [q2.i (by omega)]; exact i1
    have j2 : mI ν1 141 35 = nI (cntF (fun c => decide (c = s) && pst β a s) 0 c) := by rw [q2.i (by omega)]; exact i2
    have j3 : mI ν1 141 36 = oI (fndF (pst β a) 0 c) := by rw [q2.i (by omega)]; exact i3
    have B1 : Ag (fun x k => (x = 141 ∧ (k = 34 ∨ k = 35 ∨ k = 36)) ∨ (x = 146 ∧ k < 128)) μ2 ν1 := i4.tr (q2.mono (fun x k z => Or.inr z))
    have cn : ¬ nI (10 ^ β 2) ≤ nI c := fun z => by have := (nIle (by omega) (by omega)).mp z; omega
    have fs1 : fndF (pst β a) 0 (c + 1) = match fndF (pst β a) 0 c with | some l => some l | none => if pst β a c = true then some c else none := by
      cases hf : fndF (pst β a) 0 c with
      | some l =>
        obtain ⟨z1, z2, z3⟩ := fndF_some hf
        exact fnd_eq z1 (by omega) z3 (fndF_first hf)
      | none =>
        show _ = if pst β a c = true then some c else none
        by_cases q : pst β a c = true
        · rw [if_pos q]
          exact fnd_eq (by omega) (by omega) q (fun j h1 h2 => fndF_none hf j h1 (by omega))
        · rw [if_neg q]
          refine fnd_nn (fun j h1 h2 => ?_)
          by_cases e : j = c
          · rw [e]; exact bf q
          · exact fndF_none hf j h1 (by omega)
    by_cases hpc : pst β a c = true
    · refine ⟨nI (c + 1), sI (sI (sI ν1 141 34 (nI (cntF (pst β a) 0 (c + 1)))) 141 35 (nI (cntF (fun c => decide (c = s) && pst β a s) 0 (c + 1)))) 141 36 (oI (fndF (pst β a) 0 (c + 1))), ⟨rfl, ⟨dgC (β 2) c, fun i _ => dgC_9, q1.at rfl⟩, rfl, rfl, rfl, ((B1.tr (Ag.sI (Or.inl ⟨rfl, Or.inl rfl⟩))).tr (Ag.sI (Or.inl ⟨rfl, Or.inr (Or.inl rfl)⟩))).tr (Ag.sI (Or.inl ⟨rfl, Or.inr (Or.inr rfl)⟩))⟩, fun k => ?_⟩
      have e34 : nI (cntF (pst β a) 0 c) + 1 = nI (cntF (pst β a) 0 (c + 1)) := by rw [nI_1, cntF_n, Nat.zero_add, if_pos hpc]
      have e35 : nI (cntF (fun c => decide (c = s) && pst β a s) 0 c) + (if nI c = nI s then (1 : Int32) else 0) = nI (cntF (fun c => decide (c = s) && pst β a s) 0 (c + 1)) := by
        rw [cntF_n, Nat.zero_add]
        by_cases e : c = s
        · rw [if_pos (by rw [e]), nI_1, if_pos]
          rw [decide_eq_true e, ← e, hpc]; rfl
        · rw [if_neg (fun z => e ((nIeq (by omega) hs).mp z)), if_neg (by rw [decide_eq_false e, Bool.false_and]; decide), Int32.add_zero]; rfl
      have e36 : (if 0 ≤ oI (fndF (pst β a) 0 c) then oI (fndF (pst β a) 0 c) else nI c) = oI (fndF (pst β a) 0 (c + 1)) := by
        rw [fs1]
        cases hf : fndF (pst β a) 0 c with
        | none => rw [if_neg (by decide)]; show _ = oI (if pst β a c = true then some c else none); rw [if_pos hpc]; rfl
        | some l =>
          have := (fndF_some hf).2.1
          rw [oI_some, if_pos (nI_pos' (by omega))]
          try rfl
      rw [L_X12_laysPast_76_s, if_neg cn, rd2, Option.bind_some, q3, ipp, Option.bind_some, if_pos hpc, j1, e34]
      have k35 : mI (sI ν1 141 34 (nI (cntF (pst β a) 0 (c + 1)))) 141 35 = nI (cntF (fun c => decide (c = s) && pst β a s) 0 c) := j2
      rw [k35, e35]
      have k36 : mI (sI (sI ν1 141 34 (nI (cntF (pst β a) 0 (c + 1)))) 141 35 (nI (cntF (fun c => decide (c = s) && pst β a s) 0 (c + 1)))) 141 36 = oI (fndF (pst β a) 0 c) := j3
      rw [k36, e36, nI_1]
    · refine ⟨nI (c + 1), ν1, ⟨rfl, ⟨dgC (β 2) c, fun i _ => dgC_9, q1⟩, ?_, ?_, ?_, B1⟩, fun k => ?_⟩
      · rw [j1, cntF_n, Nat.zero_add, if_neg hpc]; rfl
      · rw [j2, cntF_n, Nat.zero_add, if_neg]
        · rfl
        · intro z
          rw [Bool.and_eq_true] at z
          have z2 := of_decide_eq_true z.1
          rw [z2] at hpc
          exact hpc z.2
      · rw [j3, fs1]
        cases fndF (pst β a) 0 c with
        | none => show _ = oI (if pst β a c = true then some c else none); rw [if_neg hpc]
        | some l => rfl
      · rw [L_X12_laysPast_76_s, if_neg cn, rd2, Option.bind_some, q3, ipp, Option.bind_some, if_neg hpc, nI_1]
  have i2 : ∀ i, i < β 2 → mA μ2 154 i = nI (β (13 + (β 2 * a + i))) := fun i hi => by rw [hμ2, putA_mA, if_pos (by omega)]
  obtain ⟨v, ν, k, ⟨y1, ⟨g, y2, y3⟩, y4, y5, y6, y7⟩, ee⟩ := iterI2 (L := L_X12_laysPast_76 F (nI s) (nI (β 2 * a)) (nI (10 ^ β 2)) (fun μ18 => L_X12_laysPast_202 F (nI (β 2 * a)) (fun μ22 => some μ22) F 0 μ18)) (F := F) (N := 10 ^ β 2) _ (by omega) step (a := 0) (b := μ2) ⟨rfl, ⟨fun i => β (13 + (β 2 * a + i)), dg9, by rw [ovr_self]; exact c1.at (A2.A (fun _ => by omega))⟩, by rw [A2.i (by omega), hμ1]; rfl, by rw [A2.i (by omega), hμ1]; rfl, by rw [A2.i (by omega), hμ1]; rfl, Ag.rf⟩
  -- the row is put back
  let hh : Nat → Nat → Nat := fun n i => if i < n then β (13 + (β 2 * a + i)) else g i
  have h9 : ∀ n i, i < β 2 → hh n i ≤ 9 := fun n i hi => by show (if i < n then β (13 + (β 2 * a + i)) else g i) ≤ 9; split; exact dg9 i hi; exact y2 i hi
  have step2 : ∀ i v ξ, i < β 2 → (v = nI i ∧ CB ξ (ovr β a (hh i)) ∧ Ag (fun x k => x = 146 ∧ k < 128) ν ξ) → ∃ v' ξ', (v' = nI (i + 1) ∧ CB ξ' (ovr β a (hh (i + 1))) ∧ Ag (fun x k => x = 146 ∧ k < 128) ν ξ') ∧ ∀ k, L_X12_laysPast_202 F (nI (β 2 * a)) (fun μ22 => some μ22) (k + 1) v ξ = L_X12_laysPast_202 F (nI (β 2 * a)) (fun μ22 => some μ22) k v' ξ' := by
    rintro i v ξ hi ⟨rfl, q1, q2⟩
    have hk := pl_lt ha hi
    have r4 : mA ξ 154 i = nI (β (13 + (β 2 * a + i))) := by rw [q2.a (by omega), y7.a (by omega)]; exact i2 i hi
    refine ⟨nI (i + 1), sA ξ 146 (13 + (β 2 * a + i)) (nI (β (13 + (β 2 * a + i)))), ⟨rfl, ?_, q2.tr (Ag.sA ⟨rfl, by omega⟩)⟩, fun k => ?_⟩
    · have q := q1.wr (k := 13 + (β 2 * a + i)) (by omega) (β (13 + (β 2 * a + i)))
      rw [ovr_upd hi] at q
      rw [ovr_cong (g' := updN (hh i) i (β (13 + (β 2 * a + i)))) (fun j hj => ?_)]
      · exact q
      · show (if j < i + 1 then β (13 + (β 2 * a + j)) else g j) = if j = i then β (13 + (β 2 * a + i)) else (if j < i then β (13 + (β 2 * a + j)) else g j)
        by_cases e : j = i
        · rw [if_pos e, if_pos (by omega), e]
        · rw [if_neg e]
          by_cases z : j < i
          · rw [if_pos z, if_pos (by omega)]
          · rw [if_neg z, if_neg (by omega)]
    · rw [L_X12_laysPast_202_s, q1.rl 2 (by omega), ovr_out (by omega), Option.bind_some, if_neg (fun z => by have := (nIle (by omega) (by omega)).mp z; omega), rdA_n (by omega) (by omega), r4, Option.bind_some, Ladd, nI_add, show 13 + β 2 * a + i = 13 + (β 2 * a + i) by omega, wrA_n (by omega) (by omega), Option.bind_some, nI_1]
  obtain ⟨v2, ξ, k2, ⟨x1, x2, x3⟩, ee2⟩ := iterI2 (L := L_X12_laysPast_202 F (nI (β 2 * a)) (fun μ22 => some μ22)) (F := F) (N := β 2) _ (by omega) step2 (a := 0) (b := ν) ⟨rfl, y3, Ag.rf⟩
  have hback : ovr β a (hh (β 2)) = β := by
    rw [ovr_cong (g' := fun i => β (13 + (β 2 * a + i))) (fun j hj => if_pos hj), ovr_self]
  rw [hback] at x2
  refine ⟨ξ, ?_, x2, by rw [x3.i (by omega)]; exact y4, by rw [x3.i (by omega)]; exact y5, by rw [x3.i (by omega)]; exact y6, ((A1.tr (A2.mono (fun x k z => Or.inr (Or.inr z)))).tr (y7.mono (fun x k z => by omega))).tr (x3.mono (fun x k z => Or.inr (Or.inl z)))⟩
  unfold f_X12_laysPast
  rw [h.rl 2 (by omega), Option.bind_some, pk_mul, ← hμ1, lp1, ee, L_X12_laysPast_76_s, y1, if_pos ((nIle (by omega) (by omega)).mpr (by omega)), ee2, L_X12_laysPast_202_s, x2.rl 2 (by omega), Option.bind_some, x1, if_pos ((nIle (by omega) (by omega)).mpr (by omega))]
theorem PL_SM {μ ν : Mm} (h : Ag PL μ ν) : Ag SM μ ν := h.mono (fun x k q => by unfold SM; omega)
/-- a call that moves the four tables -/
theorem R.vt {α : Type} {fx fm : Mm → Option (α × Mm)} {μ : Mm} (h : R μ) {β nm ω σ} (hg : PG μ (mR μ 0) (mR μ 2) 0 β nm ω σ) (c : Int32) (v : α) {ν : Mm} (hx : fx μ = some (v, sI ν 0 0 c)) (ha : AR PP μ ν) (ht : RefT ν) (hm : ∀ ξ, CB ξ β → ∃ ζ, fm ξ = some (v, ζ) ∧ mI ζ 141 0 = c ∧ CB ζ β ∧ Ag SM ξ ζ) : Sm fx fm μ := by
  have hrp := h.rp
  have hrn := h.rn
  unfold RefP at hrp
  unfold RefN at hrn
  have hc0 : CB ν β := fun k hk => by
    have := ha.1.a (a := 146) (k := k) (by omega)
    rw [show mA ν 146 k = mA μ 146 k from this]
    exact hg.c0 k hk
  have hc : CB (sI ν 0 0 c) β := hc0.at rfl
  obtain ⟨ζ, e1, e2, e3, e4⟩ := hm _ hc
  refine ⟨v, _, ζ, hx, e1, ?_⟩
  have hb : BX ν (mR μ 0) β := AR_bx hg.bx (by omega) ha
  have A : Ag (S2 μ) μ (wR ζ (mR μ)) := by
    have q1 : Ag (S2 μ) μ (wR ν (mR μ)) := ha.1.mono (fun a k q => by unfold S2 S1 SC; omega)
    have q2 : Ag (S2 μ) (wR ν (mR μ)) (wR (sI ν 0 0 c) (mR μ)) := ⟨(Ag.sI (P := S2 μ) (μ := ν) (x := c) (a := 0) (k := 0) (Or.inl (Or.inr (Or.inl ⟨rfl, rfl⟩)))).1, rfl⟩
    have q3 : Ag (S2 μ) (wR (sI ν 0 0 c) (mR μ)) (wR ζ (mR μ)) := ⟨(e4.mono (fun a k q => SM_S2 (μ := μ) q)).1, rfl⟩
    exact (q1.tr q2).tr q3
  have hbz : BX ζ (mR μ 0) β := (hb.ag (P := fun a k => a = 0 ∧ k = 0) (Ag.sI (x := c) ⟨rfl, rfl⟩) (fun i hi k q => by omega)).ag e4 (fun i hi k q => by unfold SM at q; omega)
  have hs : mI (wR ζ (mR μ)) 0 0 = mI (wR ζ (mR μ)) 141 0 := by
    show mI ζ 0 0 = mI ζ 141 0
    rw [e2, e4.i (by unfold SM; omega)]
    rfl
  have hR : R (wR ζ (mR μ)) := h.bk hg A hs (β' := β) hbz e3 hg.wf hg.hr rfl rfl
  refine hR.mr rfl rfl rfl rfl rfl (fun i hi => ?_) ?_
  · show mR ζ i = mR μ i
    rw [e4.2]
    exact ha.2 i hi
  · have er : mR ζ = mR ν := e4.2
    unfold RefT at *
    rw [er]
    exact ht
theorem op_past (h : R μ) (hF : 2000000 ≤ F) (v : Int32) : Sm (f_X11_past F v) (f_X12_past F v) μ := by
  obtain ⟨β, nm, ω, σ, pg⟩ := h.pg
  have W := pg.wf
  have bx := pg.bx
  have gb := h.gb
  have hrp := h.rp
  unfold RefP at hrp
  have hc : ∀ c, CB (V0 μ c) β := fun c => pg.c0.at rfl
  have w0 := W.1.1
  by_cases e : inN v (β 0) = true
  · obtain ⟨k, hk, hk2, rfl⟩ := inN_of e
    obtain ⟨ν, x1, x2, x3, x4, x5⟩ := X_gather bx W hF (by omega) hk h.rt
    refine h.vt pg 0 (nI (cntF (pst β k) 0 (10 ^ β 2))) (ν := ν) ?_ x5 x4 (fun ξ hξ => ?_)
    · unfold f_X11_past
      rw [gb, Option.bind_some, X_hasAccount bx W, Option.bind_some, if_pos e, Option.bind_some, x1, Option.bind_some, x2]
      rfl
    · have hc2 : CB (sI (sI ξ 141 1 0) 141 0 0) β := hξ.at rfl
      obtain ⟨ζ, z1, z2, z3, z4, z5, z6⟩ := M_laysPast hc2 W hF hk (s := 0) (by omega)
      rw [nI_0] at z1
      refine ⟨ζ, ?_, by rw [z6.i (by omega)]; rfl, z2, SM_0.tr (PL_SM z6)⟩
      unfold f_X12_past
      rw [M_isAccountAt hc2 W, Option.bind_some, if_pos e, z1, Option.bind_some, z3]
  · have e3 := inN_no e
    exact h.q 2 (-1) (by unfold f_X11_past; simp (disch := omega) only [Option.bind_some, bd_some, eqL, leL, ltL, Lle, Llt, addL, Ladd, Lmul, mulL, nIle, nIlt, nIeq, nI_add, pk_mul, gb, X_cells bx, X_hasCell bx W, X_hasAccount bx W, X_hasLaw bx W, bx.wide, bx.tap, bx.odds, bx.acc, bx.stand, bx.hour, bx.stolen, bx.laws, bx.rD W, bx.rT W, bx.rH W, bx.rK W, bx.rF W, bx.rS W, bx.rP W, bx.rB W, X_isWrong bx W, X_wrongs bx W hF, X_tappedSet bx W hF, X_surplus bx W hF, within_L, inN_k, eq_self, if_true, if_false, Bool.false_eq_true, ans_X, ref_X, ver_X, e3]) (by unfold f_X12_past; simp (disch := omega) only [Option.bind_some, bd_some, eqL, leL, ltL, Lle, Llt, addL, Ladd, Lmul, mulL, nIle, nIlt, nIeq, nI_add, pk_mul, M_cells (hc _), M_isCellAt (hc _) W, M_isAccountAt (hc _) W, M_isLawAt (hc _) W, (hc _).rd, (hc _).r0, M_isWrong (hc _) W, M_allWrong (hc _) W hF, M_tappedSet (hc _) W hF, M_balanced (hc _) W hF, M_isEven (hc _) W hF, isIn_L, inN_k, eq_self, if_true, if_false, Bool.false_eq_true, ans_M, no_M, e3]; exact QM_r)
theorem op_leastPast (h : R μ) (hF : 2000000 ≤ F) (v : Int32) : Sm (f_X11_leastPast F v) (f_X12_leastPast F v) μ := by
  obtain ⟨β, nm, ω, σ, pg⟩ := h.pg
  have W := pg.wf
  have bx := pg.bx
  have gb := h.gb
  have hrp := h.rp
  unfold RefP at hrp
  have hc : ∀ c, CB (V0 μ c) β := fun c => pg.c0.at rfl
  have w0 := W.1.1
  have w5 := W.1.2.2.1
  have hp := p10 (m := β 2) w5
  by_cases e : inN v (β 0) = true
  · obtain ⟨k, hk, hk2, rfl⟩ := inN_of e
    obtain ⟨ν, x1, x2, x3, x4, x5⟩ := X_gather bx W hF (by omega) hk h.rt
    have cle : cntF (pst β k) 0 (10 ^ β 2) ≤ 100000 := Nat.le_trans cntF_le hp
    cases hf : fndF (pst β k) 0 (10 ^ β 2) with
    | none =>
      refine h.vt pg 8 (-1) (ν := ν) ?_ x5 x4 (fun ξ hξ => ?_)
      · unfold f_X11_leastPast
        rw [gb, Option.bind_some, X_hasAccount bx W, Option.bind_some, if_pos e, Option.bind_some, x1, Option.bind_some, x2, cnt0_iff.mpr hf, if_pos (by rfl)]
        rfl
      · have hc2 : CB (sI (sI ξ 141 1 0) 141 0 0) β := hξ.at rfl
        obtain ⟨ζ, z1, z2, z3, z4, z5, z6⟩ := M_laysPast hc2 W hF hk (s := 0) (by omega)
        rw [nI_0] at z1
        rw [hf] at z5
        refine ⟨sI ζ 141 0 8, ?_, rfl, z2.at rfl, (SM_0.tr (PL_SM z6)).tr SM_st⟩
        unfold f_X12_leastPast
        rw [M_isAccountAt hc2 W, Option.bind_some, if_pos e, z1, Option.bind_some, z5, if_neg (by decide)]
        rfl
    | some l =>
      have hl := (fndF_some hf).2.1
      have c0 : cntF (pst β k) 0 (10 ^ β 2) ≠ 0 := fun z => by rw [cnt0_iff.mp z] at hf; cases hf
      refine h.vt pg 0 (nI l) (ν := ν) ?_ x5 x4 (fun ξ hξ => ?_)
      · unfold f_X11_leastPast
        rw [gb, Option.bind_some, X_hasAccount bx W, Option.bind_some, if_pos e, Option.bind_some, x1, Option.bind_some, x2, if_neg (fun z => c0 ((eqL (n := 0) (by omega) (by decide)).mp z)), x3 l hf]
        rfl
      · have hc2 : CB (sI (sI ξ 141 1 0) 141 0 0) β := hξ.at rfl
        obtain ⟨ζ, z1, z2, z3, z4, z5, z6⟩ := M_laysPast hc2 W hF hk (s := 0) (by omega)
        rw [nI_0] at z1
        rw [hf, oI_some] at z5
        refine ⟨ζ, ?_, by rw [z6.i (by omega)]; rfl, z2, SM_0.tr (PL_SM z6)⟩
        unfold f_X12_leastPast
        rw [M_isAccountAt hc2 W, Option.bind_some, if_pos e, z1, Option.bind_some, z5, if_pos (nI_pos' (by omega))]
  · have e3 := inN_no e
    exact h.q 2 (-1) (by unfold f_X11_leastPast; simp (disch := omega) only [Option.bind_some, bd_some, eqL, leL, ltL, Lle, Llt, addL, Ladd, Lmul, mulL, nIle, nIlt, nIeq, nI_add, pk_mul, gb, X_cells bx, X_hasCell bx W, X_hasAccount bx W, X_hasLaw bx W, bx.wide, bx.tap, bx.odds, bx.acc, bx.stand, bx.hour, bx.stolen, bx.laws, bx.rD W, bx.rT W, bx.rH W, bx.rK W, bx.rF W, bx.rS W, bx.rP W, bx.rB W, X_isWrong bx W, X_wrongs bx W hF, X_tappedSet bx W hF, X_surplus bx W hF, within_L, inN_k, eq_self, if_true, if_false, Bool.false_eq_true, ans_X, ref_X, ver_X, e3]) (by unfold f_X12_leastPast; simp (disch := omega) only [Option.bind_some, bd_some, eqL, leL, ltL, Lle, Llt, addL, Ladd, Lmul, mulL, nIle, nIlt, nIeq, nI_add, pk_mul, M_cells (hc _), M_isCellAt (hc _) W, M_isAccountAt (hc _) W, M_isLawAt (hc _) W, (hc _).rd, (hc _).r0, M_isWrong (hc _) W, M_allWrong (hc _) W hF, M_tappedSet (hc _) W hF, M_balanced (hc _) W hF, M_isEven (hc _) W hF, isIn_L, inN_k, eq_self, if_true, if_false, Bool.false_eq_true, ans_M, no_M, e3]; exact QM_r)
theorem op_likely (h : R μ) (hF : 2000000 ≤ F) (v u : Int32) : Sm (f_X11_likely F v u) (f_X12_likely F v u) μ := by
  obtain ⟨β, nm, ω, σ, pg⟩ := h.pg
  have W := pg.wf
  have bx := pg.bx
  have gb := h.gb
  have hrp := h.rp
  unfold RefP at hrp
  have hc : ∀ c, CB (V0 μ c) β := fun c => pg.c0.at rfl
  have w0 := W.1.1
  have w5 := W.1.2.2.1
  by_cases e : inN v (β 0) = true
  · obtain ⟨k, hk, hk2, rfl⟩ := inN_of e
    by_cases e2 : u < 0
    · have e4 : ¬ 0 ≤ u := fun z => by rw [fa_lt] at e2; rw [fa_le] at z; omega
      exact h.q 5 (-1) (by unfold f_X11_likely; simp (disch := omega) only [Option.bind_some, bd_some, eqL, leL, ltL, Lle, Llt, addL, Ladd, Lmul, mulL, nIle, nIlt, nIeq, nI_add, pk_mul, gb, X_cells bx, X_hasCell bx W, X_hasAccount bx W, X_hasLaw bx W, bx.wide, bx.tap, bx.odds, bx.acc, bx.stand, bx.hour, bx.stolen, bx.laws, bx.rD W, bx.rT W, bx.rH W, bx.rK W, bx.rF W, bx.rS W, bx.rP W, bx.rB W, X_isWrong bx W, X_wrongs bx W hF, X_tappedSet bx W hF, X_surplus bx W hF, within_L, inN_k, eq_self, if_true, if_false, Bool.false_eq_true, ans_X, ref_X, ver_X, e4]) (by unfold f_X12_likely; simp (disch := omega) only [Option.bind_some, bd_some, eqL, leL, ltL, Lle, Llt, addL, Ladd, Lmul, mulL, nIle, nIlt, nIeq, nI_add, pk_mul, M_cells (hc _), M_isCellAt (hc _) W, M_isAccountAt (hc _) W, M_isLawAt (hc _) W, (hc _).rd, (hc _).r0, M_isWrong (hc _) W, M_allWrong (hc _) W hF, M_tappedSet (hc _) W hF, M_balanced (hc _) W hF, M_isEven (hc _) W hF, isIn_L, inN_k, eq_self, if_true, if_false, Bool.false_eq_true, ans_M, no_M, e4]; exact QM_r)
    · obtain ⟨s, hs, rfl⟩ := nI_of e2
      have e4 := fa_of_nlt e2
      obtain ⟨ν, x1, x2⟩ := X_couldHaveBeen bx W hF (by omega) hk (s := s) (by omega)
      refine h.v pg 0 (nI (cntF (fun c => decide (c = s) && pst β k s) 0 (10 ^ β 2))) (ν := ν) (β' := β) ?_ (bx.ag x2 (fun i hi _ => by omega)) (x2.mono (fun a i q => by unfold S2 S1 SC; omega)) (x2.mono (fun a i q => by omega)) (fun ξ hξ => ?_) W pg.hr rfl rfl
      · unfold f_X11_likely
        rw [gb, Option.bind_some, X_hasAccount bx W, Option.bind_some, if_pos e, if_pos e4, Option.bind_some, x1, bd_some, cnt_one, Nat.zero_add]
        by_cases q : s < 10 ^ β 2
        · by_cases q2 : pst β k s = true
          · rw [if_pos (show (0 ≤ s ∧ s < 10 ^ β 2 ∧ pst β k s = true) from ⟨by omega, q, q2⟩), decide_eq_true q, q2]; rfl
          · rw [if_neg (show ¬ (0 ≤ s ∧ s < 10 ^ β 2 ∧ pst β k s = true) from fun z => q2 z.2.2), decide_eq_true q, bf q2]; rfl
        · rw [if_neg (show ¬ (0 ≤ s ∧ s < 10 ^ β 2 ∧ pst β k s = true) from fun z => q z.2.1), decide_eq_false q]; rfl
      · have hc2 : CB (sI (sI ξ 141 1 0) 141 0 0) β := hξ.at rfl
        obtain ⟨ζ, z1, z2, z3, z4, z5, z6⟩ := M_laysPast hc2 W hF hk (s := s) (by omega)
        refine ⟨ζ, ?_, by rw [z6.i (by omega)]; rfl, z2, SM_0.tr (PL_SM z6)⟩
        unfold f_X12_likely
        rw [M_isAccountAt hc2 W, Option.bind_some, if_pos e, if_pos e4, z1, Option.bind_some, z4]
  · have e3 := inN_no e
    exact h.q 2 (-1) (by unfold f_X11_likely; simp (disch := omega) only [Option.bind_some, bd_some, eqL, leL, ltL, Lle, Llt, addL, Ladd, Lmul, mulL, nIle, nIlt, nIeq, nI_add, pk_mul, gb, X_cells bx, X_hasCell bx W, X_hasAccount bx W, X_hasLaw bx W, bx.wide, bx.tap, bx.odds, bx.acc, bx.stand, bx.hour, bx.stolen, bx.laws, bx.rD W, bx.rT W, bx.rH W, bx.rK W, bx.rF W, bx.rS W, bx.rP W, bx.rB W, X_isWrong bx W, X_wrongs bx W hF, X_tappedSet bx W hF, X_surplus bx W hF, within_L, inN_k, eq_self, if_true, if_false, Bool.false_eq_true, ans_X, ref_X, ver_X, e3]) (by unfold f_X12_likely; simp (disch := omega) only [Option.bind_some, bd_some, eqL, leL, ltL, Lle, Llt, addL, Ladd, Lmul, mulL, nIle, nIlt, nIeq, nI_add, pk_mul, M_cells (hc _), M_isCellAt (hc _) W, M_isAccountAt (hc _) W, M_isLawAt (hc _) W, (hc _).rd, (hc _).r0, M_isWrong (hc _) W, M_allWrong (hc _) W hF, M_tappedSet (hc _) W hF, M_balanced (hc _) W hF, M_isEven (hc _) W hF, isIn_L, inN_k, eq_self, if_true, if_false, Bool.false_eq_true, ans_M, no_M, e3]; exact QM_r)
end PASTM
