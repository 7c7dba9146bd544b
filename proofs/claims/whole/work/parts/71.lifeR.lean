/-! ===== a life: both sides go through the orders ===== -/
abbrev PXl (b r lo hi a k : Nat) : Prop := (a = r ∧ 1 ≤ k ∧ k ≤ 7) ∨ (b ≤ a ∧ a < b + 12 ∧ a ≠ b + 7) ∨ (a = r + 1 ∧ lo ≤ k ∧ k < hi)
abbrev PMl (a k : Nat) : Prop := (a = 141 ∧ 41 ≤ k ∧ k ≤ 48) ∨ (a = 146 ∧ k < 128) ∨ a = 150
section LIFER
variable (F b r N : Nat)
noncomputable abbrev LL : Nat → Int32 → Int32 → Mm → Option Mm := L_X4_goThrough_46 F r b N (fun μ7 => some μ7)
def XR (lo hi i v j c : Nat) (Z Z' : LZ) (o : Option Bool) (μ ν : Mm) : Prop := CX ν b r Z' ∧ Ag (PXl b r lo hi) μ ν ∧ mI ν r 6 = (if o = some true then 1 else mI μ r 6) ∧ ∃ T, T ≤ 100 * (Z'.2.1 - Z.2.1) + c + 2 ∧ (o = none → T ≤ 100 * (Z'.2.1 - Z.2.1) + c ∧ ∀ n, LL F b r N (n + T) (nI i) (nI v) μ = LL F b r N n (nI j) (nI (v + T)) ν) ∧ (o ≠ none → ∀ n, T ≤ n → LL F b r N n (nI i) (nI v) μ = some ν)
def MR (Z' : LZ) (o : Option Bool) (μ ν : Mm) : Prop := CMz ν Z' ∧ Ag PMl μ ν ∧ mI ν 141 41 = (if o = none then 0 else 1) ∧ mI ν 141 48 = (if o = some true then 1 else mI μ 141 48)
variable (it : Nat) (β0 : Nat → Nat) (ω : Nat → Nat → Int32) (σ : Nat → Int32)
def RunP (h s t i j : Nat) : Prop := ∀ Z, WI β0 Z → Z.2.1 ≤ 300 → ∃ Z' o, WI β0 Z' ∧ Z.2.1 ≤ Z'.2.1 ∧ Z'.2.1 ≤ 300 ∧ (∀ v μ, v ≤ 100 * Z.2.1 → CX μ b r Z → NXw μ N it ω → ∃ ν, XR F b r N i j i v j 0 Z Z' o μ ν) ∧ (∀ D n μ, h ≤ D → t - s < n → CMz μ Z → NMs μ σ → mI μ 141 41 = 0 → ∃ ν, L_X12_doAll_2 F (f_X12_doOne F (t_X12_doAll F D)) (nI t) (fun μ4 => some μ4) n (nI s) μ = some ν ∧ MR Z' o μ ν)
def OneP (h s i i' : Nat) : Prop := ∀ Z, WI β0 Z → Z.2.1 ≤ 300 → ∃ Z' o, WI β0 Z' ∧ Z.2.1 ≤ Z'.2.1 ∧ Z'.2.1 ≤ 300 ∧ (∀ v μ, v ≤ 100 * Z.2.1 → CX μ b r Z → NXw μ N it ω → ∃ ν, XR F b r N i i' i v i' 0 Z Z' o μ ν) ∧ (∀ D μ, h ≤ D → CMz μ Z → NMs μ σ → mI μ 141 41 = 0 → ∃ ν, f_X12_doOne F (t_X12_doAll F D) (nI s) μ = some ν ∧ MR Z' o μ ν)
def LooP (h s i e vv m : Nat) : Prop := ∀ Z, WI β0 Z → Z.2.1 ≤ 300 → ∃ Z' o, WI β0 Z' ∧ Z.2.1 ≤ Z'.2.1 ∧ Z'.2.1 ≤ 300 ∧ (∀ v μ, v + m ≤ 100 * Z.2.1 → CX μ b r Z → NXw μ N it ω → mA μ (r + 1) i = nI m → ∃ ν, XR F b r N i (e + 1) (i + 1) v (e + 1) m Z Z' o μ ν) ∧ (∀ D n μ, h ≤ D → m < n → CMz μ Z → NMs μ σ → mI μ 141 41 = 0 → ∃ ν, L_X12_doOne_118 F (t_X12_doAll F D) (nI s) (nI (130 + 9 * s)) (fun μ16 => some μ16) n (nI (vv - m)) μ = some ν ∧ MR Z' o μ ν)
end LIFER
section LIFER2
variable {F b r N it : Nat} {β0 : Nat → Nat} {ω : Nat → Nat → Int32} {σ : Nat → Int32} {μ : Mm} {Z : LZ}
theorem XR_nil {lo hi j v c : Nat} (h : CX μ b r Z) : XR F b r N lo hi j v j c Z Z none μ μ := ⟨h, Ag.rf, by rw [if_neg (by decide)], 0, by omega, fun _ => ⟨by omega, fun n => rfl⟩, fun z => absurd rfl z⟩
theorem XR_pre {lo hi lo' hi' i i1 j v c c' T0 : Nat} {Z1 Z' : LZ} {o : Option Bool} {μ1 ν : Mm} (st : ∀ n, LL F b r N (n + T0) (nI i) (nI v) μ = LL F b r N n (nI i1) (nI (v + T0)) μ1) (A : Ag (PXl b r lo hi) μ μ1) (h6 : mI μ1 r 6 = mI μ r 6) (x : XR F b r N lo' hi' i1 (v + T0) j c' Z1 Z' o μ1 ν) (hlo : lo ≤ lo') (hhi : hi' ≤ hi) (hT : T0 + 100 * (Z'.2.1 - Z1.2.1) + c' ≤ 100 * (Z'.2.1 - Z.2.1) + c) : XR F b r N lo hi i v j c Z Z' o μ ν := by
  obtain ⟨x1, x2, x3, T, x4, x5, x6⟩ := x
  refine ⟨x1, A.tr (x2.mono (fun a k q => by omega)), by rw [x3, h6], T0 + T, by omega, fun z => ?_, fun z n hn => ?_⟩
  · obtain ⟨y1, y2⟩ := x5 z
    refine ⟨by omega, fun n => ?_⟩
    rw [show n + (T0 + T) = (n + T) + T0 by omega, st, y2, show v + T0 + T = v + (T0 + T) by omega]
  · have := st (n - T0)
    rw [show n - T0 + T0 = n by omega] at this
    rw [this]
    exact x6 z _ (by omega)
theorem XR_j {lo hi i v j j' c : Nat} {Z' : LZ} {o : Option Bool} {ν : Mm} (h : XR F b r N lo hi i v j c Z Z' o μ ν) (ho : o ≠ none) : XR F b r N lo hi i v j' c Z Z' o μ ν := by
  obtain ⟨x1, x2, x3, T, x4, x5, x6⟩ := h
  exact ⟨x1, x2, x3, T, x4, fun z => absurd z ho, x6⟩
theorem XR_w {lo hi lo' hi' i v j c : Nat} {Z' : LZ} {o : Option Bool} {ν : Mm} (h : XR F b r N lo hi i v j c Z Z' o μ ν) (h1 : lo' ≤ lo) (h2 : hi ≤ hi') : XR F b r N lo' hi' i v j c Z Z' o μ ν := by
  obtain ⟨x1, x2, x3, x4⟩ := h
  exact ⟨x1, x2.mono (fun a k q => by omega), x3, x4⟩
theorem NXw_ag {ν : Mm} (hb : b = 15 ∨ b = 27) (hr : r = 137 ∨ r = 139) (hN : N = 39 ∨ N = 45) {lo hi : Nat} (h : NXw μ N it ω) (a : Ag (PXl b r lo hi) μ ν) : NXw ν N it ω := ⟨by rw [a.i (by omega)]; exact h.1, fun j h1 h2 k hk => by rw [a.a (by omega)]; exact h.2 j h1 h2 k hk⟩
theorem NMs_ag {ν : Mm} (h : NMs μ σ) (a : Ag PMl μ ν) : NMs ν σ := fun k hk => by rw [a.a (by omega)]; exact h k hk
theorem turnO (hN : NXw μ N it ω) (h60 : it ≤ 60) {i v dn : Nat} (hi : i < it) (hv : v < 1000000) (hw : ω 1 i ≠ 26) (h1 : mI μ r 1 = nI dn) (hd : dn < 300) (n : Nat) : LL F b r N (n + 1) (nI i) (nI v) μ = bd (f_X4_behindOrder F r b N (nI i) (sI μ r 1 (nI (dn + 1)))) fun x3 μ4 => LL F b r N n x3 (nI (v + 1)) μ4 := by
  unfold LL
  rw [L_X4_goThrough_46_s, if_neg (fun y => by have y2 : 1000000 ≤ v := (Lle (n := 1000000) (by omega) (by decide)).mp y; omega), hN.1, within_n _ (by omega), inN_k hi (by omega), Option.bind_some, if_pos rfl, NXw_rd hN (by omega) (by omega) (by omega), Option.bind_some, if_neg hw, h1, if_pos ((ltL (n := 300) (by omega) (by decide)).mpr hd), nI_1, nI_1]
theorem turnS (hN : NXw μ N it ω) (h60 : it ≤ 60) {i v : Nat} (hi : i < it) (hv : v < 1000000) (hw : ω 1 i ≠ 26) (h1 : mI μ r 1 = nI 300) (n : Nat) : LL F b r N (n + 1) (nI i) (nI v) μ = some (sI μ r 6 1) := by
  unfold LL
  rw [L_X4_goThrough_46_s, if_neg (fun y => by have y2 : 1000000 ≤ v := (Lle (n := 1000000) (by omega) (by decide)).mp y; omega), hN.1, within_n _ (by omega), inN_k hi (by omega), Option.bind_some, if_pos rfl, NXw_rd hN (by omega) (by omega) (by omega), Option.bind_some, if_neg hw, h1, if_neg (by decide)]
theorem turnE (hN : NXw μ N it ω) (h60 : it ≤ 60) {i v : Nat} (hi : i < it) (hv : v < 1000000) (hw : ω 1 i = 26) (n : Nat) : LL F b r N (n + 1) (nI i) (nI v) μ = bd (f_X4_behindEnd r N (nI i) μ) fun x5 μ6 => LL F b r N n x5 (nI (v + 1)) μ6 := by
  unfold LL
  rw [L_X4_goThrough_46_s, if_neg (fun y => by have y2 : 1000000 ≤ v := (Lle (n := 1000000) (by omega) (by decide)).mp y; omega), hN.1, within_n _ (by omega), inN_k hi (by omega), Option.bind_some, if_pos rfl, NXw_rd hN (by omega) (by omega) (by omega), Option.bind_some, if_pos hw, nI_1]
theorem turnZ (hN : NXw μ N it ω) (h60 : it ≤ 60) {v : Nat} (hv : v < 1000000) (n : Nat) : LL F b r N (n + 1) (nI it) (nI v) μ = some μ := by
  have e : inN (nI it) it = false := inN_no (fun y => by obtain ⟨k, k1, k2, k3⟩ := inN_of y; have := (nIeq (by omega) k2).mp k3; omega)
  unfold LL
  rw [L_X4_goThrough_46_s, if_neg (fun y => by have y2 : 1000000 ≤ v := (Lle (n := 1000000) (by omega) (by decide)).mp y; omega), hN.1, within_n _ (by omega), e, Option.bind_some, if_neg (by decide)]
theorem MR_tr {Z1 Z2 : LZ} {o : Option Bool} {ν ξ : Mm} (h1 : MR Z1 none μ ν) (h2 : MR Z2 o ν ξ) : MR Z2 o μ ξ := by
  obtain ⟨a1, a2, a3, a4⟩ := h1
  obtain ⟨b1, b2, b3, b4⟩ := h2
  rw [if_neg (by decide)] at a4
  exact ⟨b1, a2.tr b2, b3, by rw [b4, a4]⟩
theorem MR_0 {Z1 : LZ} {ν : Mm} (h : MR Z1 none μ ν) : mI ν 141 41 = 0 := by rw [h.2.2.1, if_pos rfl]
theorem MR_1 {Z1 : LZ} {o : Option Bool} {ν : Mm} (h : MR Z1 o μ ν) (ho : o ≠ none) : ¬ mI ν 141 41 = 0 := by rw [h.2.2.1, if_neg ho]; decide
/-- a loop's turns -/
theorem LOOPS (hb : b = 15 ∨ b = 27) (hr : r = 137 ∨ r = 139) (hN : N = 39 ∨ N = 45) (hF : 2000000 ≤ F) (h60 : it ≤ 60) {h s s' i e vv : Nat} (hs : s < 30) (hs' : s' ≤ 30) (hi : i < e) (he : e < it) (hvv : vv ≤ 99) (h1 : 1 ≤ h) (w25 : ω 1 i = 25) (w26 : ω 1 e = 26) (w5 : ω 5 e = nI i) (s1 : σ (3 + 9 * s) = nI vv) (s10 : σ (10 + 9 * s) = nI s') (IN : RunP F b r N it β0 ω σ (h - 1) (s + 1) s' (i + 1) e) : ∀ m, 1 ≤ m → m ≤ vv → LooP F b r N it β0 ω σ h s i e vv m := by
  intro m
  induction m with
  | zero => intro h; omega
  | succ m ih =>
    intro hm1 hmv Z w dn
    obtain ⟨Z1, o1, w1, d1, d1', X1, M1⟩ := IN Z w dn
    have rd1 : ∀ μ, NMs μ σ → rdA μ 146 2000 (nI (130 + 9 * s) + (1 : Int32)) = some (nI vv) := fun μ hm => by rw [← s1]; exact NMs_rd hm (by omega) (by rw [st_v])
    have rd8 : ∀ μ, NMs μ σ → rdA μ 146 2000 (nI (130 + 9 * s) + (8 : Int32)) = some (nI s') := fun μ hm => by rw [← s10]; exact NMs_rd hm (by omega) (by rw [st_v])
    -- one turn of the reference
    have ref1 : ∀ D n μ, h ≤ D → CMz μ Z → NMs μ σ → mI μ 141 41 = 0 → ∃ ν, L_X12_doOne_118 F (t_X12_doAll F D) (nI s) (nI (130 + 9 * s)) (fun μ16 => some μ16) (n + 1) (nI (vv - (m + 1))) μ = L_X12_doOne_118 F (t_X12_doAll F D) (nI s) (nI (130 + 9 * s)) (fun μ16 => some μ16) n (nI (vv - m)) ν ∧ MR Z1 o1 μ ν := fun D n μ hD cM nM h41 => by
      obtain ⟨D', rfl⟩ : ∃ D', D = D' + 1 := ⟨D - 1, by omega⟩
      obtain ⟨ν, y1, y2⟩ := M1 D' F μ (by omega) (by omega) cM nM h41
      refine ⟨ν, ?_, y2⟩
      have y1' : t_X12_doAll F (D' + 1) (nI (s + 1)) (nI s') μ = some ν := y1
      rw [L_X12_doOne_118_s, rd1 μ nM, Option.bind_some, if_neg (fun y => by have := (nIle (by omega) (by omega)).mp y; omega), if_pos h41, rd8 μ nM, Option.bind_some, nI_1, y1', Option.bind_some, nI_1, show vv - (m + 1) + 1 = vv - m by omega]
    have stopR : ∀ D n μ v, NMs μ σ → ¬ mI μ 141 41 = 0 → L_X12_doOne_118 F (t_X12_doAll F D) (nI s) (nI (130 + 9 * s)) (fun μ16 => some μ16) (n + 1) v μ = some μ := fun D n μ v nM h41 => by
      rw [L_X12_doOne_118_s, rd1 μ nM, Option.bind_some, if_neg h41]
      split <;> rfl
    by_cases ho : o1 = none
    · subst ho
      -- the end of the turn, in the class
      have endX : ∀ v μ, v < 1000000 → NXw μ N it ω → mA μ (r + 1) i = nI (m + 1) → ∀ n, LL F b r N (n + 1) (nI e) (nI v) μ = LL F b r N n (if m = 0 then nI (e + 1) else nI (i + 1)) (nI (v + 1)) (sA μ (r + 1) i (nI m)) := fun v μ hv nX hm n => by
        rw [turnE nX h60 he hv w26]
        unfold f_X4_behindEnd
        have a1 : rdA μ (r + 1) 60 (nI i) = some (nI (m + 1)) := by rw [rdA_n (by omega) (by omega), hm]
        have a2 : wrA μ (r + 1) 60 (nI i) (nI m) = some (sA μ (r + 1) i (nI m)) := wrA_n (by omega) (by omega)
        have a3 : rdA (sA μ (r + 1) i (nI m)) (r + 1) 60 (nI i) = some (nI m) := by rw [rdA_n (by omega) (by omega), mA_sA, if_pos rfl, if_pos rfl]
        rw [NXw_rd nX (by omega) (by omega) (by omega), Option.bind_some, w5, NXw_rd nX (by omega) (by omega) (by omega), Option.bind_some, if_pos w25, a1, Option.bind_some, nI_pred, a2, Option.bind_some, a3, Option.bind_some, bd_some, nI_1, nI_1]
        by_cases z : m = 0
        · rw [if_pos z, if_pos (by rw [z]; decide)]
        · rw [if_neg z, if_neg (nI_nle (by omega) (by omega))]
      by_cases z : m = 0
      · subst z
        refine ⟨Z1, none, w1, d1, d1', fun v μ hv cX nX hm => ?_, fun D n μ hD hn cM nM h41 => ?_⟩
        · obtain ⟨ν, x1, x2, x3, T, x4, x5, -⟩ := X1 v μ (by omega) cX nX
          obtain ⟨y1, y2⟩ := x5 rfl
          rw [if_neg (by decide)] at x3
          have nX1 := NXw_ag hb hr hN nX x2
          have hm1 : mA ν (r + 1) i = nI (0 + 1) := by rw [x2.a (by omega)]; exact hm
          have A2 : Ag (PXl b r i (e + 1)) ν (sA ν (r + 1) i (nI 0)) := Ag.sA (by omega)
          refine ⟨sA ν (r + 1) i (nI 0), XR_pre (T0 := T) (i1 := e) (Z1 := Z1) (lo' := i) (hi' := e + 1) (c' := 1) y2 (x2.mono (fun a k q => by omega)) x3 (XR_pre (T0 := 1) (i1 := e + 1) (Z1 := Z1) (lo' := i) (hi' := e + 1) (c' := 0) (fun n => ?_) A2 rfl (XR_nil (CX_ag x1 (P := fun a _ => a = r + 1) (Ag.sA rfl) (fun q hq k => by omega) (fun k _ _ _ => by omega))) (by omega) (by omega) (by omega)) (by omega) (by omega) (by omega)⟩
          have := endX (v + T) ν (by omega) nX1 hm1 n
          rw [if_pos rfl] at this
          exact this
        · obtain ⟨n', rfl⟩ : ∃ n', n = n' + 2 := ⟨n - 2, by omega⟩
          obtain ⟨ν, y1, y2⟩ := ref1 D (n' + 1) μ hD cM nM h41
          refine ⟨ν, ?_, y2⟩
          have nM1 := NMs_ag nM y2.2.1
          rw [y1, L_X12_doOne_118_s, rd1 ν nM1, Option.bind_some, if_pos ((nIle (by omega) (by omega)).mpr (by omega))]
      · obtain ⟨Z2, o2, w2, d2, d2', X2, M2⟩ := ih (by omega) (by omega) Z1 w1 d1'
        refine ⟨Z2, o2, w2, by omega, d2', fun v μ hv cX nX hm => ?_, fun D n μ hD hn cM nM h41 => ?_⟩
        · obtain ⟨ν, x1, x2, x3, T, x4, x5, -⟩ := X1 v μ (by omega) cX nX
          obtain ⟨y1, y2⟩ := x5 rfl
          rw [if_neg (by decide)] at x3
          have nX1 := NXw_ag hb hr hN nX x2
          have hm1 : mA ν (r + 1) i = nI (m + 1) := by rw [x2.a (by omega)]; exact hm
          have A2 : Ag (PXl b r i (e + 1)) ν (sA ν (r + 1) i (nI m)) := Ag.sA (by omega)
          have cX2 : CX (sA ν (r + 1) i (nI m)) b r Z1 := CX_ag x1 (P := fun a _ => a = r + 1) (Ag.sA rfl) (fun q hq k => by omega) (fun k _ _ _ => by omega)
          obtain ⟨ξ, u⟩ := X2 (v + T + 1) (sA ν (r + 1) i (nI m)) (by omega) cX2 (NXw_ag hb hr hN nX1 A2) (by rw [mA_sA, if_pos rfl, if_pos rfl])
          refine ⟨ξ, XR_pre (T0 := T) (i1 := e) (Z1 := Z1) (lo' := i) (hi' := e + 1) (c' := m + 1) y2 (x2.mono (fun a k q => by omega)) x3 (XR_pre (T0 := 1) (i1 := i + 1) (Z1 := Z1) (lo' := i) (hi' := e + 1) (c' := m) (fun n => ?_) A2 rfl u (by omega) (by omega) (by omega)) (by omega) (by omega) (by omega)⟩
          have := endX (v + T) ν (by omega) nX1 hm1 n
          rw [if_neg z] at this
          exact this
        · obtain ⟨n', rfl⟩ : ∃ n', n = n' + 1 := ⟨n - 1, by omega⟩
          obtain ⟨ν, y1, y2⟩ := ref1 D n' μ hD cM nM h41
          have nM1 := NMs_ag nM y2.2.1
          obtain ⟨ξ, z1, z2⟩ := M2 D n' ν hD (by omega) y2.1 nM1 (MR_0 y2)
          exact ⟨ξ, by rw [y1, z1], MR_tr y2 z2⟩
    · -- it stops inside
      refine ⟨Z1, o1, w1, d1, d1', fun v μ hv cX nX hm => ?_, fun D n μ hD hn cM nM h41 => ?_⟩
      · obtain ⟨ν, x⟩ := X1 v μ (by omega) cX nX
        obtain ⟨x1, x2, x3, T, x4, x5, x6⟩ := XR_j (j' := e + 1) x ho
        exact ⟨ν, x1, x2.mono (fun a k q => by omega), x3, T, by omega, fun z => absurd z ho, x6⟩
      · obtain ⟨n', rfl⟩ : ∃ n', n = n' + 2 := ⟨n - 2, by omega⟩
        obtain ⟨ν, y1, y2⟩ := ref1 D (n' + 1) μ hD cM nM h41
        have nM1 := NMs_ag nM y2.2.1
        exact ⟨ν, by rw [y1, stopR D n' ν _ nM1 (MR_1 y2 ho)], y2⟩
end LIFER2
