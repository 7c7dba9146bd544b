/-! ===== a life: the reference's side; one order on both sides ===== -/
def CMz (μ : Mm) (Z : LZ) : Prop := CB μ Z.1 ∧ mI μ 141 43 = nI Z.2.1 ∧ mI μ 141 42 = nI Z.2.2.1 ∧ ∀ j, 2 ≤ j → j ≤ 5 → mI μ 141 (42 + j) = Z.2.2.2 j
abbrev PM1 (a k : Nat) : Prop := (a = 141 ∧ 42 ≤ k ∧ k ≤ 47 ∧ k ≠ 43 ∧ k ≠ 44) ∨ (a = 146 ∧ k < 128) ∨ a = 150
def MD (μ : Mm) (f : Option (Bool × Mm)) (Z' : LZ) : Prop := ∃ x ν, f = some (x, ν) ∧ CMz (sI ν 141 44 (mI μ 141 44 + (if x = true then (0 : Int32) else 1))) Z' ∧ Ag PM1 μ ν
def NXw (μ : Mm) (N it : Nat) (ω : Nat → Nat → Int32) : Prop := mI μ N 2 = nI it ∧ ∀ j, 1 ≤ j → j ≤ 5 → ∀ k, k < 60 → mA μ (N + j) k = ω j k
def NMs (μ : Mm) (σ : Nat → Int32) : Prop := ∀ k, k < 272 → mA μ 146 (128 + k) = σ k
section LIFEM
variable {μ : Mm} {β0 : Nat → Nat} {Z : LZ} {b r N it s i F : Nat} {ω : Nat → Nat → Int32} {σ : Nat → Int32}
theorem CMz_ag {ν : Mm} {P : Nat → Nat → Prop} (h : CMz μ Z) (a : Ag P μ ν) (h1 : ∀ k, k < 128 → ¬ P 146 k) (h2 : ∀ k, 42 ≤ k → k ≤ 47 → ¬ P 141 k) : CMz ν Z := ⟨fun k hk => by rw [a.a (h1 k hk)]; exact h.1 k hk, by rw [a.i (h2 43 (by omega) (by omega))]; exact h.2.1, by rw [a.i (h2 42 (by omega) (by omega))]; exact h.2.2.1, fun j q1 q2 => by rw [a.i (h2 _ (by omega) (by omega))]; exact h.2.2.2 j q1 q2⟩
theorem CMz_set (h : CMz μ Z) {j : Nat} (hj : 2 ≤ j) (hj5 : j ≤ 5) (x : Int32) : CMz (sI μ 141 (42 + j) x) (Z.1, Z.2.1, Z.2.2.1, upd Z.2.2.2 j x) := by
  refine ⟨h.1.at rfl, ?_, ?_, fun i h1 h2 => ?_⟩
  · rw [mI_nk (by omega)]; exact h.2.1
  · rw [mI_nk (by omega)]; exact h.2.2.1
  · by_cases z : i = j
    · rw [z, mI_sI, if_pos rfl, if_pos rfl]; exact pk_us.symm
    · rw [mI_nk (by omega)]
      exact (h.2.2.2 i h1 h2).trans (pk_un z).symm
theorem MD_ms (h : CMz μ Z) : MD μ (some (false, μ)) (msZ Z) := by
  refine ⟨false, μ, rfl, ?_, Ag.rf⟩
  have := CMz_set h (j := 2) (by omega) (by omega) (mI μ 141 44 + 1)
  have e : mI μ 141 44 = Z.2.2.2 2 := h.2.2.2 2 (by omega) (by omega)
  rw [if_neg (by decide)]
  rw [e] at this ⊢
  exact this
theorem MD_ok {ν : Mm} {f : Option (Bool × Mm)} (e : f = some (true, ν)) (h : CMz ν Z) (a : Ag PM1 μ ν) : MD μ f Z := by
  refine ⟨true, ν, e, ?_, a⟩
  have e4 : mI μ 141 44 = Z.2.2.2 2 := by rw [← h.2.2.2 2 (by omega) (by omega)]; exact (a.i (by omega)).symm
  rw [if_pos rfl, e4]
  refine ⟨h.1.at rfl, ?_, ?_, fun i h1 h2 => ?_⟩
  · rw [mI_nk (by omega)]; exact h.2.1
  · rw [mI_nk (by omega)]; exact h.2.2.1
  · by_cases z : i = 2
    · rw [z, mI_sI, if_pos rfl, if_pos rfl, Int32.add_zero]
    · rw [mI_nk (by omega)]; exact h.2.2.2 i h1 h2
theorem CMz_bk (h : CMz μ Z) {ν : Mm} {β' : Nat → Nat} {P : Nat → Nat → Prop} (a : Ag P μ ν) (h2 : ∀ k, 42 ≤ k → k ≤ 47 → ¬ P 141 k) (hB : CB ν β') : CMz ν (β', Z.2.1, Z.2.2.1, Z.2.2.2) := ⟨hB, by rw [a.i (h2 43 (by omega) (by omega))]; exact h.2.1, by rw [a.i (h2 42 (by omega) (by omega))]; exact h.2.2.1, fun j q1 q2 => by rw [a.i (h2 _ (by omega) (by omega))]; exact h.2.2.2 j q1 q2⟩
theorem M_goz (hF : 2000000 ≤ F) (w : WI β0 Z) (h : CMz μ Z) {v : Nat} (hv : v ≤ 4) : MD μ (f_X12_anyStep F (nI v) μ) (goZ v Z) := by
  obtain ⟨W, h5, h0, h2, hd⟩ := id w
  have w0 := W.1.1
  unfold f_X12_anyStep goZ
  rw [h.1.rl 0 (by omega), Option.bind_some]
  by_cases z : Z.1 0 = 0
  · rw [if_pos (by rw [z]; rfl), if_pos z]
    exact MD_ms h
  · rw [if_neg (fun y => z ((eqL (n := 0) (by omega) (by decide)).mp y)), if_neg z, h.1.rl 5 (by omega), Option.bind_some]
    by_cases q : Z.1 5 < 9999
    · rw [if_neg (fun y => by have y2 : 9999 ≤ Z.1 5 := (Lle (n := 9999) (by omega) (by decide)).mp y; omega)]
      rcases M_steps h.1 W hF (by omega) hv with ⟨e1, e2⟩ | ⟨j, ν, e1, e2, e3, e4, e5⟩
      · rw [e1, e2, bd_some, if_neg (by decide)]
        exact MD_ms h
      · rw [e1, e3, bd_some, if_pos rfl]
        dsimp only
        rw [if_pos q]
        have c1 := CMz_bk h e5 (fun k _ _ => by omega) e4
        have c2 := CMz_set c1 (j := 4) (by omega) (by omega) (mI ν 141 46 + 1)
        have c3 := CMz_set c2 (j := 3) (by omega) (by omega) (mI (sI ν 141 46 (mI ν 141 46 + 1)) 141 45 + 1)
        have m4 : mI ν 141 46 = Z.2.2.2 4 := c1.2.2.2 4 (by omega) (by omega)
        have m3 : mI (sI ν 141 46 (mI ν 141 46 + 1)) 141 45 = Z.2.2.2 3 := by rw [mI_nk (by omega)]; exact c1.2.2.2 3 (by omega) (by omega)
        refine MD_ok (ν := sI (sI ν 141 46 (mI ν 141 46 + 1)) 141 45 (mI (sI ν 141 46 (mI ν 141 46 + 1)) 141 45 + 1)) rfl ?_ (((e5.mono (fun a k q => by omega)).tr (Ag.sI (by omega))).tr (Ag.sI (by omega)))
        have sw : upd (upd Z.2.2.2 4 (Z.2.2.2 4 + 1)) 3 (Z.2.2.2 3 + 1) = upd (upd Z.2.2.2 3 (Z.2.2.2 3 + 1)) 4 (Z.2.2.2 4 + 1) := by
          funext q
          by_cases z3 : q = 3
          · rw [z3, pk_us, pk_un (by omega), pk_us]
          · rw [pk_un z3]
            by_cases z4 : q = 4
            · rw [z4, pk_us, pk_us]
            · rw [pk_un z4, pk_un z4, pk_un z3]
        rw [← sw]
        rw [m3] at c3 ⊢
        rw [m4] at c3 ⊢
        exact c3
    · rw [if_pos ((Lle (n := 9999) (by omega) (by decide)).mpr (by show 9999 ≤ Z.1 5; omega))]
      cases wayF Z.1 (Z.1 7) v with
      | none => exact MD_ms h
      | some j => dsimp only; rw [if_neg q]; exact MD_ms h
theorem M_slz (hF : 2000000 ≤ F) (w : WI β0 Z) (h : CMz μ Z) {n : Nat} (hn : n ≤ 100) : MD μ (f_X12_anyDozes F (nI n) μ) (slZ n Z) := by
  obtain ⟨W, h5, h0, h2, hd⟩ := id w
  unfold f_X12_anyDozes slZ
  rw [h.1.rl 5 (by omega), Option.bind_some, nI_add]
  by_cases q : Z.1 5 + n ≤ 9999
  · obtain ⟨ζ, z1, z2, z3⟩ := M_hours (L := L_X12_anyDozes_18 F (nI n) (fun μ4 => some (true, (sI μ4 141 45 ((mI μ4 141 45) + nI n))))) (hh := n) (fun n v μ => L_X12_anyDozes_18_s ..) h.1 W hF (by omega)
    have c1 := CMz_bk h z3 (fun k _ _ => by omega) z2
    have c2 := CMz_set c1 (j := 3) (by omega) (by omega) (mI ζ 141 45 + nI n)
    have m3 : mI ζ 141 45 = Z.2.2.2 3 := c1.2.2.2 3 (by omega) (by omega)
    rw [if_pos ((leL (n := 9999) (by omega) (by decide)).mpr q), if_pos q, z1]
    refine MD_ok (ν := sI ζ 141 45 (mI ζ 141 45 + nI n)) rfl ?_ ((z3.mono (fun a k q => by omega)).tr (Ag.sI (by omega)))
    rw [m3] at c2 ⊢
    exact c2
  · rw [if_neg (fun y => q ((leL (n := 9999) (by omega) (by decide)).mp y)), if_neg q]
    exact MD_ms h
theorem M_dr (h7 : mI μ 141 42 = nI Z.2.2.1) (hd : Z.2.2.1 < 65536) {m : Nat} (hm : 0 < m) (hm2 : m < 100) : f_X12_draw (nI m) μ = some (nI (drw Z.2.2.1 / 8 % m), sI μ 141 42 (nI (drw Z.2.2.1))) := by
  have hl := drw_lt (d := Z.2.2.1)
  unfold f_X12_draw
  rw [if_neg (by decide), if_neg (by decide), if_neg (fun y => by have y2 : m = 0 := (eqL (n := 0) (by omega) (by decide)).mp y; omega), h7, drw_n hd, mI_sI, if_pos rfl, if_pos rfl, drw_v hl hm hm2]
theorem CMz_dr (h : CMz μ Z) {d : Nat} : CMz (sI μ 141 42 (nI d)) (Z.1, Z.2.1, d, Z.2.2.2) := by
  refine ⟨h.1.at rfl, ?_, ?_, fun i h1 h2 => ?_⟩
  · rw [mI_nk (by omega)]; exact h.2.1
  · rw [mI_sI, if_pos rfl, if_pos rfl]
  · rw [mI_nk (by omega)]; exact h.2.2.2 i h1 h2
theorem MD_pre {ξ : Mm} {f g : Option (Bool × Mm)} (h : MD ξ f Z) (a : Ag PM1 μ ξ) (e : g = f) : MD μ g Z := by
  obtain ⟨x, ν, h1, h2, h3⟩ := h
  refine ⟨x, ν, by rw [e, h1], ?_, a.tr h3⟩
  rw [show mI μ 141 44 = mI ξ 141 44 from (a.i (by omega)).symm]
  exact h2
theorem bd_id {α : Type} {f : Option (α × Mm)} : (bd f fun x ν => some (x, ν)) = f := by
  cases f with
  | none => rfl
  | some p => rfl
theorem M_anz (hF : 2000000 ≤ F) (w : WI β0 Z) (h : CMz μ Z) : MD μ (f_X12_isAny F μ) (anZ Z) := by
  obtain ⟨W, h5, h0, h2, hd⟩ := id w
  have hl := drw_lt (d := Z.2.2.1)
  have w4 := W.1.2.2.2.2.2.2.1
  have w0 := W.1.1
  unfold f_X12_isAny anZ
  rw [h.1.rl 0 (by omega), Option.bind_some]
  by_cases z : Z.1 0 = 0
  · rw [if_pos (by rw [z]; rfl), if_pos z]
    exact MD_ms h
  · have d1 := M_dr (μ := μ) h.2.2.1 hd (m := 16) (by omega) (by omega)
    have c1 := CMz_dr h (d := drw Z.2.2.1)
    have w1 : WI β0 (Z.1, Z.2.1, drw Z.2.2.1, Z.2.2.2) := ⟨W, h5, h0, h2, hl⟩
    have r4 : rdA (sI μ 141 42 (nI (drw Z.2.2.1))) 146 2000 4 = some (nI (Z.1 4)) := c1.1.rl 4 (by omega)
    rw [if_neg (fun y => z ((eqL (n := 0) (by omega) (by decide)).mp y)), if_neg z, show f_X12_draw 16 μ = _ from d1, bd_some, r4, Option.bind_some]
    by_cases q : Z.1 4 ≤ drw Z.2.2.1 / 8 % 16
    · have d2 := M_dr (μ := sI μ 141 42 (nI (drw Z.2.2.1))) (Z := (Z.1, Z.2.1, drw Z.2.2.1, Z.2.2.2)) c1.2.2.1 hl (m := 5) (by omega) (by omega)
      have c3 := CMz_dr c1 (d := drw (drw Z.2.2.1))
      have w2 : WI β0 (Z.1, Z.2.1, drw (drw Z.2.2.1), Z.2.2.2) := ⟨W, h5, h0, h2, drw_lt⟩
      rw [if_pos ((nIle (by omega) (by omega)).mpr q), if_pos q, show f_X12_draw 5 (sI μ 141 42 (nI (drw Z.2.2.1))) = _ from d2, bd_some]
      exact MD_pre (M_goz hF w2 c3 (v := drw (drw Z.2.2.1) / 8 % 5) (by omega)) ((Ag.sI (by omega)).tr (Ag.sI (by omega))) bd_id
    · rw [if_neg (fun y => q ((nIle (by omega) (by omega)).mp y)), if_neg q]
      exact MD_pre (M_slz hF w1 c1 (n := 1) (by omega)) (Ag.sI (by omega)) bd_id
theorem NMs_rd (h : NMs μ σ) {k : Nat} (hk : k < 272) {v : Int32} (hv : v = nI (128 + k)) : rdA μ 146 2000 v = some (σ k) := by
  rw [hv, show rdA μ 146 2000 (nI (128 + k)) = some (mA μ 146 (128 + k)) from rdA_n (by omega) (by omega), h k hk]
theorem st_v {j : Nat} : nI (130 + 9 * s) + (no_index (OfNat.ofNat j) : Int32) = nI (128 + ((OfNat.ofNat j : Nat) + 2 + 9 * s)) := by rw [addL]; congr 1; omega
theorem NXw_rd (h : NXw μ N it ω) {j k : Nat} (hj : 1 ≤ j) (hj5 : j ≤ 5) (hk : k < 60) : rdA μ (N + j) 60 (nI k) = some (ω j k) := by rw [rdA_n hk (by omega), h.2 j hj hj5 k hk]
/-- one order that opens nothing, but a stop -/
theorem ORD1 (hb : b = 15 ∨ b = 27) (hr : r = 137 ∨ r = 139) (hF : 2000000 ≤ F) (hs : s < 30) (hi : i < 60) (w : WI β0 Z) (h : SI (cl β0) ω σ s i) (h27 : ω 1 i ≠ 27) : ∃ Z', WI β0 Z' ∧ Z'.2.1 = Z.2.1 ∧ σ (2 + 9 * s) < 5 ∧ ω 1 i ≠ 26 ∧ (∀ μ, CX μ b r Z → NXw μ N it ω → ∃ ν, f_X4_behindOrder F r b N (nI i) μ = some (nI (i + 1), ν) ∧ CX ν b r Z' ∧ Ag (PX0 b r) μ ν) ∧ (∀ μ, CMz μ Z → NMs μ σ → MD μ (f_X12_does F (nI (130 + 9 * s)) μ) Z') := by
  have hc := w.1.cl_le
  have hcl := w.cl
  have e1 : nI i + (1 : Int32) = nI (i + 1) := nI_1 i
  have r0 : ∀ μ, NMs μ σ → rdA μ 146 2000 (nI (130 + 9 * s)) = some (σ (2 + 9 * s)) := fun μ hm => NMs_rd hm (by omega) (by congr 1; omega)
  have r1 : ∀ μ, NMs μ σ → rdA μ 146 2000 (nI (130 + 9 * s) + (1 : Int32)) = some (σ (3 + 9 * s)) := fun μ hm => NMs_rd hm (by omega) (by rw [st_v])
  rcases h with ⟨s0, w1, v, hv, w2, s1⟩ | ⟨s0, w1, v, hv1, hv2, w2, s1⟩ | ⟨s0, w1, k, hk, w3, s1⟩ | ⟨s0, w1, k, hk, w3, s1⟩ | ⟨s0, w1⟩ | ⟨s0, w1⟩
  · obtain ⟨a1, a2⟩ := WI_go (v := v) w
    refine ⟨goZ v Z, a1, a2, by rw [s0]; decide, by rw [w1]; decide, fun μ hX hN => ?_, fun μ hM hS => ?_⟩
    · obtain ⟨ν, x1, x2, x3⟩ := X_go hb hr hF w hX hv
      refine ⟨ν, ?_, x2, x3⟩
      unfold f_X4_behindOrder
      rw [NXw_rd hN (by omega) (by omega) hi, Option.bind_some, NXw_rd hN (by omega) (by omega) hi, Option.bind_some, w1, w2, if_pos rfl, x1, Option.bind_some, e1]
    · unfold f_X12_does
      rw [r0 μ hS, Option.bind_some, r1 μ hS, Option.bind_some, s0, s1, if_pos rfl, bd_id]
      exact M_goz hF w hM hv
  · obtain ⟨a1, a2⟩ := WI_sl (n := v) w
    refine ⟨slZ v Z, a1, a2, by rw [s0]; decide, by rw [w1]; decide, fun μ hX hN => ?_, fun μ hM hS => ?_⟩
    · obtain ⟨ν, x1, x2, x3⟩ := X_sl hb hr hF w hX (n := v) (by omega)
      refine ⟨ν, ?_, x2, x3⟩
      unfold f_X4_behindOrder
      rw [NXw_rd hN (by omega) (by omega) hi, Option.bind_some, NXw_rd hN (by omega) (by omega) hi, Option.bind_some, w1, w2, if_neg (by decide), if_pos rfl, x1, Option.bind_some, e1]
    · unfold f_X12_does
      rw [r0 μ hS, Option.bind_some, r1 μ hS, Option.bind_some, s0, s1, if_neg (by decide), if_pos rfl, bd_id]
      exact M_slz hF w hM (by omega)
  · obtain ⟨a1, a2⟩ := WI_me (k := k) (by omega) w
    refine ⟨meZ k Z, a1, a2, by rw [s0]; decide, by rw [w1]; decide, fun μ hX hN => ?_, fun μ hM hS => ?_⟩
    · obtain ⟨ν, x1, x2, x3⟩ := X_me hb hr w hX hk
      refine ⟨ν, ?_, x2, x3⟩
      unfold f_X4_behindOrder
      rw [NXw_rd hN (by omega) (by omega) hi, Option.bind_some, NXw_rd hN (by omega) (by omega) hi, Option.bind_some, w1, if_neg (by decide), if_neg (by decide), if_pos rfl, NXw_rd hN (by omega) (by omega) hi, Option.bind_some, w3, x1, Option.bind_some, e1]
    · unfold f_X12_does meZ
      rw [r0 μ hS, Option.bind_some, r1 μ hS, Option.bind_some, s0, s1, if_neg (by decide), if_neg (by decide), if_neg (by decide), if_pos rfl, M_isWrong hM.1 w.1 (by omega), Option.bind_some]
      by_cases q : wrg Z.1 k = true
      · have m : f_X12_mends (nI k) μ = some (nI (Z.1 (13 + k)), sA μ 146 (13 + k) (nI (Z.1 (38 + k)))) := by
          unfold f_X12_mends
          rw [hM.1.rdL (13 + k) (by rw [Ladd]) (by omega), Option.bind_some, hM.1.rdL (38 + k) (by rw [Ladd]) (by omega), Option.bind_some, Ladd, show wrA μ 146 2000 (nI (13 + k)) (nI (Z.1 (38 + k))) = some (sA μ 146 (13 + k) (nI (Z.1 (38 + k)))) from wrA_n (by omega) (by omega)]
          rfl
        rw [if_pos q, if_pos q, if_pos rfl, m, bd_some]
        have A : Ag (fun a j => a = 146 ∧ j = 13 + k) μ (sA μ 146 (13 + k) (nI (Z.1 (38 + k)))) := Ag.sA ⟨rfl, rfl⟩
        exact MD_ok rfl (CMz_bk hM A (fun j _ _ => by omega) (hM.1.wr (by omega) _)) (A.mono (fun a j q => by omega))
      · rw [if_neg q, if_neg q]
        exact MD_ms hM
  · obtain ⟨a1, a2⟩ := WI_st (k := k) (by omega) w
    refine ⟨stZ k Z, a1, a2, by rw [s0]; decide, by rw [w1]; decide, fun μ hX hN => ?_, fun μ hM hS => ?_⟩
    · obtain ⟨ν, x1, x2, x3⟩ := X_st hb hr w hX hk
      refine ⟨ν, ?_, x2, x3⟩
      unfold f_X4_behindOrder
      rw [NXw_rd hN (by omega) (by omega) hi, Option.bind_some, NXw_rd hN (by omega) (by omega) hi, Option.bind_some, w1, if_neg (by decide), if_neg (by decide), if_neg (by decide), if_pos rfl, NXw_rd hN (by omega) (by omega) hi, Option.bind_some, w3, x1, Option.bind_some, e1]
    · have d9 := (w.1.2.2.1 k (by omega)).1
      unfold f_X12_does stZ
      rw [r0 μ hS, Option.bind_some, r1 μ hS, Option.bind_some, s0, s1, if_neg (by decide), if_neg (by decide), if_neg (by decide), if_neg (by decide), hM.1.rdL (13 + k) (by rw [Ladd]) (by omega), Option.bind_some]
      by_cases q : Z.1 (13 + k) = 0
      · rw [if_pos (by rw [q]; rfl), if_pos q]
        exact MD_ms hM
      · have h1 := hM.1.wr (k := 13 + k) (by omega) 0
        have r6 : rdA (sA μ 146 (13 + k) (nI 0)) 146 2000 6 = some (nI (Z.1 6)) := by
          have := h1.rl 6 (by omega)
          rwa [updN_ne (by omega)] at this
        have m : f_X12_takes (nI k) μ = some (nI (Z.1 (13 + k)), sA (sA μ 146 (13 + k) (nI 0)) 146 6 (nI (Z.1 6 + Z.1 (13 + k)))) := by
          unfold f_X12_takes
          rw [hM.1.rdL (13 + k) (by rw [Ladd]) (by omega), Option.bind_some, Ladd, show wrA μ 146 2000 (nI (13 + k)) 0 = some (sA μ 146 (13 + k) (nI 0)) from wrA_n (by omega) (by omega), Option.bind_some, r6, Option.bind_some, nI_add, show wrA (sA μ 146 (13 + k) (nI 0)) 146 2000 6 (nI (Z.1 6 + Z.1 (13 + k))) = some (sA (sA μ 146 (13 + k) (nI 0)) 146 6 (nI (Z.1 6 + Z.1 (13 + k)))) from wrA_n (k := 6) (by omega) (by omega)]
          rfl
        rw [if_neg (fun y => q ((eqL (n := 0) (by omega) (by decide)).mp y)), if_neg q, if_neg (by decide), m, bd_some]
        have A : Ag (fun a j => a = 146 ∧ j < 128) μ (sA (sA μ 146 (13 + k) (nI 0)) 146 6 (nI (Z.1 6 + Z.1 (13 + k)))) := (Ag.sA (by omega)).tr (Ag.sA (by omega))
        have c1 := CMz_bk hM A (fun j _ _ => by omega) (h1.wr (k := 6) (by omega) (Z.1 6 + Z.1 (13 + k)))
        have c2 := CMz_set c1 (j := 5) (by omega) (by omega) (mI μ 141 47 + nI (Z.1 (13 + k)))
        refine MD_ok rfl ?_ ((A.mono (fun a j q => by omega)).tr (Ag.sI (by omega)))
        rw [show mI μ 141 47 = Z.2.2.2 5 from hM.2.2.2 5 (by omega) (by omega)] at c2 ⊢
        exact c2
  · obtain ⟨a1, a2⟩ := WI_an w
    refine ⟨anZ Z, a1, a2, by rw [s0]; decide, by rw [w1]; decide, fun μ hX hN => ?_, fun μ hM hS => ?_⟩
    · obtain ⟨ν, x1, x2, x3⟩ := X_an hb hr hF w hX (v3 := nI i)
      refine ⟨ν, ?_, x2, x3⟩
      unfold f_X4_behindOrder
      rw [NXw_rd hN (by omega) (by omega) hi, Option.bind_some, NXw_rd hN (by omega) (by omega) hi, Option.bind_some, w1, if_neg (by decide), if_neg (by decide), if_neg (by decide), if_neg (by decide), if_pos rfl, x1, e1]
    · unfold f_X12_does
      rw [r0 μ hS, Option.bind_some, r1 μ hS, Option.bind_some, s0, if_neg (by decide), if_neg (by decide), if_pos rfl, bd_id]
      exact M_anz hF w hM
  · exact absurd w1 h27
/-- a test -/
theorem TEST (hF : 2000000 ≤ F) (hs : s < 30) (hi : i < 60) (w : WI β0 Z) (h : SB (cl β0) ω σ s i) (h25 : ω 1 i ≠ 25) : ∃ tb : Bool, σ (2 + 9 * s) = 5 ∧ (ω 1 i = 22 ∨ ω 1 i = 23 ∨ ω 1 i = 24) ∧ (∀ μ, CX μ b r Z → NXw μ N it ω → f_X4_testHolds F b N (nI i) μ = some tb) ∧ (∀ μ, CMz μ Z → NMs μ σ → f_X12_isSo F (nI (130 + 9 * s)) μ = some tb) := by
  have hc := w.1.cl_le
  have hcl := w.cl
  have r5 : ∀ μ, NMs μ σ → rdA μ 146 2000 (nI (130 + 9 * s) + (5 : Int32)) = some (σ (7 + 9 * s)) := fun μ hm => NMs_rd hm (by omega) (by rw [st_v])
  have r6 : ∀ μ, NMs μ σ → rdA μ 146 2000 (nI (130 + 9 * s) + (6 : Int32)) = some (σ (8 + 9 * s)) := fun μ hm => NMs_rd hm (by omega) (by rw [st_v])
  have r7 : ∀ μ, NMs μ σ → rdA μ 146 2000 (nI (130 + 9 * s) + (7 : Int32)) = some (σ (9 + 9 * s)) := fun μ hm => NMs_rd hm (by omega) (by rw [st_v])
  have r1 : ∀ μ, NMs μ σ → rdA μ 146 2000 (nI (130 + 9 * s) + (1 : Int32)) = some (σ (3 + 9 * s)) := fun μ hm => NMs_rd hm (by omega) (by rw [st_v])
  have cx : ∀ (μ : Mm) (x y z : Int32), f_X4_compare x y z μ = some (cmpV x y z) := fun μ x y z => by
    unfold f_X4_compare cmpV
    by_cases h60 : y = 60
    · rw [if_pos h60, if_pos h60]; by_cases q : z ≤ x <;> simp [q]
    · rw [if_neg h60, if_neg h60]
      by_cases h62 : y = 62
      · rw [if_pos h62, if_pos h62]; by_cases q : x ≤ z <;> simp [q]
      · rw [if_neg h62, if_neg h62]; by_cases q : x = z <;> simp [q]
  have cm : ∀ (x y z : Int32), (if y = 60 then (if z ≤ x then some false else some true) else (if y = 62 then (if x ≤ z then some false else some true) else (if x = z then some true else some false))) = some (cmpV x y z) := fun x y z => by
    unfold cmpV
    by_cases h60 : y = 60
    · rw [if_pos h60, if_pos h60]; by_cases q : z ≤ x <;> simp [q]
    · rw [if_neg h60, if_neg h60]
      by_cases h62 : y = 62
      · rw [if_pos h62, if_pos h62]; by_cases q : x ≤ z <;> simp [q]
      · rw [if_neg h62, if_neg h62]; by_cases q : x = z <;> simp [q]
  rcases h with ⟨-, w1, -⟩ | ⟨s0, s5, w1, w2, w4⟩ | ⟨s0, s5, w1, w2, w4, k, hk, w3, s1⟩ | ⟨s0, s5, w1⟩
  · exact absurd w1 h25
  · refine ⟨cmpV (nI (wrongAll Z.1)) (ω 4 i) (ω 2 i), s0, Or.inl w1, fun μ hX hN => ?_, fun μ hM hS => ?_⟩
    · unfold f_X4_testHolds
      rw [NXw_rd hN (by omega) (by omega) hi, Option.bind_some, w1, if_pos rfl, X_wrongs hX.1 w.1 hF, Option.bind_some, NXw_rd hN (by omega) (by omega) hi, Option.bind_some, NXw_rd hN (by omega) (by omega) hi, Option.bind_some, cx]
      rfl
    · unfold f_X12_isSo
      simp only [jn]
      rw [r5 μ hS, Option.bind_some, s5, if_neg (by decide), if_pos rfl, M_allWrong hM.1 w.1 hF, Option.bind_some, r7 μ hS, Option.bind_some, Option.bind_some, r6 μ hS, Option.bind_some, Option.bind_some, Option.bind_some, cm, w2, w4]
  · refine ⟨cmpV (nI (Z.1 (13 + k))) (ω 4 i) (ω 2 i), s0, Or.inr (Or.inl w1), fun μ hX hN => ?_, fun μ hM hS => ?_⟩
    · unfold f_X4_testHolds
      rw [NXw_rd hN (by omega) (by omega) hi, Option.bind_some, w1, if_neg (by decide), if_pos rfl, NXw_rd hN (by omega) (by omega) hi, Option.bind_some, w3, rdA_n (by omega) (by omega), hX.1.digits k (by omega), Option.bind_some, NXw_rd hN (by omega) (by omega) hi, Option.bind_some, NXw_rd hN (by omega) (by omega) hi, Option.bind_some, cx]
      rfl
    · unfold f_X12_isSo
      simp only [jn]
      rw [r5 μ hS, Option.bind_some, s5, if_neg (by decide), if_neg (by decide), r1 μ hS, Option.bind_some, s1, hM.1.rdL (13 + k) (by rw [Ladd]) (by omega), Option.bind_some, r7 μ hS, Option.bind_some, Option.bind_some, r6 μ hS, Option.bind_some, Option.bind_some, Option.bind_some, cm, w2, w4]
  · refine ⟨decide (bal Z.1 = 0), s0, Or.inr (Or.inr w1), fun μ hX hN => ?_, fun μ hM hS => ?_⟩
    · unfold f_X4_testHolds
      rw [NXw_rd hN (by omega) (by omega) hi, Option.bind_some, w1, if_neg (by decide), if_neg (by decide), X_surplus hX.1 w.1 hF, Option.bind_some]
      by_cases q : bal Z.1 = 0 <;> simp [q]
    · unfold f_X12_isSo
      simp only [jn]
      rw [r5 μ hS, Option.bind_some, s5, if_pos rfl, M_isEven hM.1 w.1 hF]
      rfl
end LIFEM
