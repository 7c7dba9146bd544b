/-! ===== the game ===== -/
def canS (β d : Nat → Nat) (s k : Nat) : Bool := decide (d k ≠ 0) && decide (2 ≤ farN β s k)
def lsF (β : Nat → Nat) (f : (Nat → Nat) → Nat → Nat) (d : Nat → Nat) (s : Nat) : Nat := foldF (fun v m => match wayF β s v with | none => m | some j => min m (f d j)) 0 4 (f d s)
def lo (β : Nat → Nat) : Nat → (Nat → Nat) → Nat → Nat
  | 0 => fun _ _ => 0
  | t + 1 => fun d s => foldF (fun k m => if canS β d s k = true then max m (d k + lsF β (lo β t) (updN d k 0) s) else m) 0 (cl β) (lsF β (lo β t) d s)
section GAME
variable {μ : Mm} {b : Nat} {β : Nat → Nat} {F : Nat}
theorem lsF_cong {f : (Nat → Nat) → Nat → Nat} {d d' : Nat → Nat} {s : Nat} (h : ∀ s, f d s = f d' s) : lsF β f d s = lsF β f d' s := by
  unfold lsF
  rw [h]
  exact foldF_cong (fun v m _ _ => by cases wayF β s v with | none => rfl | some j => show min m (f d j) = min m (f d' j); rw [h])
theorem lo_cong : ∀ (t : Nat) {d d' : Nat → Nat}, (∀ k, k < cl β → d k = d' k) → ∀ s, lo β t d s = lo β t d' s
  | 0, d, d', _, s => rfl
  | t + 1, d, d', h, s => by
    show foldF _ 0 (cl β) _ = foldF _ 0 (cl β) _
    rw [lsF_cong (lo_cong t h)]
    refine foldF_cong (fun k m h1 h2 => ?_)
    have hk : k < cl β := by omega
    have e1 : canS β d s k = canS β d' s k := by unfold canS; rw [h k hk]
    have e2 : lsF β (lo β t) (updN d k 0) s = lsF β (lo β t) (updN d' k 0) s := lsF_cong (lo_cong t (fun j hj => by unfold updN; rw [h j hj]))
    rw [e1, e2, h k hk]
theorem foldF_inv {α : Type} {f : Nat → α → α} {P : α → Prop} : ∀ {m i : Nat} {x : α}, P x → (∀ j y, i ≤ j → j < i + m → P y → P (f j y)) → P (foldF f i m x)
  | 0, i, x, h, _ => h
  | m + 1, i, x, h, hs => by
    rw [foldF_s]
    exact foldF_inv (hs i x (by omega) (by omega) h) (fun j y h1 h2 => hs j y (by omega) (by omega))
theorem lsF_le {f : (Nat → Nat) → Nat → Nat} {d : Nat → Nat} {s n : Nat} (h : ∀ s, f d s ≤ n) : lsF β f d s ≤ n := by
  unfold lsF
  refine foldF_inv (P := fun m => m ≤ n) (h s) (fun j y _ _ hy => ?_)
  cases wayF β s j with
  | none => exact hy
  | some k => exact Nat.le_trans (Nat.min_le_left _ _) hy
theorem lo_le : ∀ (t : Nat) {d : Nat → Nat}, (∀ k, k < cl β → d k ≤ 9) → ∀ s, lo β t d s ≤ 9 * t
  | 0, d, _, s => Nat.le_refl _
  | t + 1, d, h, s => by
    show foldF _ 0 (cl β) _ ≤ _
    refine foldF_inv (P := fun m => m ≤ 9 * (t + 1)) ?_ (fun k y h1 h2 hy => ?_)
    · have := lsF_le (β := β) (f := lo β t) (d := d) (s := s) (lo_le t h)
      show lsF β (lo β t) d s ≤ _
      omega
    · have hu : ∀ j, j < cl β → updN d k 0 j ≤ 9 := fun j hj => by unfold updN; split; omega; exact h j hj
      have h3 := lsF_le (β := β) (f := lo β t) (d := updN d k 0) (s := s) (lo_le t hu)
      have h4 := h k (by omega)
      show (if canS β d s k = true then max y (d k + lsF β (lo β t) (updN d k 0) s) else y) ≤ _
      split
      · exact Nat.max_le.mpr ⟨hy, by omega⟩
      · exact hy
/-! the class -/
def eff (β : Nat → Nat) (g : Int32) (k : Nat) : Nat := if bit g k = true then 0 else β (13 + k)
theorem eff_le (w : WF β) {g : Int32} {k : Nat} (hk : k < cl β) : eff β g k ≤ 9 := by
  have := w.cl_le
  unfold eff
  split
  · omega
  · exact (w.2.2.1 k (by omega)).1
theorem eff_or (w : WF β) {g : Int32} {k j : Nat} (hk : k < cl β) (hj : j < cl β) : eff β (g ||| ((1 : Int32) <<< (nI k &&& 31))) j = updN (eff β g) k 0 j := by
  have := w.cl_le
  unfold eff updN
  rw [bit_or _ _ (by omega), bit_sh (by omega) (by omega)]
  by_cases e : j = k
  · rw [if_pos e, decide_eq_true e, Bool.or_true, if_pos rfl]
  · rw [if_neg e, decide_eq_false e, Bool.or_false]
theorem max_n {a c : Nat} (ha : a < 1000) (hc : c < 1000) : f_J9_max_7cf53 (nI a) (nI c) μ = some (nI (max a c)) := by
  unfold f_J9_max_7cf53
  congr 1
  by_cases e : a < c
  · rw [if_pos ((nIlt (by omega) (by omega)).mpr e), Nat.max_eq_right (by omega)]
  · rw [if_neg (fun z => e ((nIlt (by omega) (by omega)).mp z)), Nat.max_eq_left (by omega)]
theorem min_n {a c : Nat} (ha : a < 1000) (hc : c < 1000) : f_J9_min_7cf53 (nI a) (nI c) μ = some (nI (min a c)) := by
  unfold f_J9_min_7cf53
  congr 1
  by_cases e : c < a
  · rw [if_pos ((nIlt (by omega) (by omega)).mpr e), Nat.min_eq_right (by omega)]
  · rw [if_neg (fun z => e ((nIlt (by omega) (by omega)).mp z)), Nat.min_eq_left (by omega)]
theorem farN_lt (w : WF β) {s k : Nat} (hs : s < cl β) (hk : k < cl β) : farN β s k < 100 := by
  have hc := w.cl_le
  obtain ⟨⟨w0, w1, w2, -⟩, -⟩ := id w
  have h1 : k / β 2 ≤ k := Nat.div_le_self _ _
  have h2 : s / β 2 ≤ s := Nat.div_le_self _ _
  have h3 : k % β 2 ≤ k := Nat.mod_le _ _
  have h4 : s % β 2 ≤ s := Nat.mod_le _ _
  have h5 := absN_lt (a := k / β 2) (b := s / β 2) (n := 26) (by omega) (by omega)
  have h6 := absN_lt (a := k % β 2) (b := s % β 2) (n := 26) (by omega) (by omega)
  unfold farN
  omega
theorem X_canSteal (h : BX μ b β) (w : WF β) {g : Int32} {s k : Nat} (hs : s < cl β) (hk : k < cl β) : f_X2_canSteal b (nI k) (nI s) g μ = some (canS β (eff β g) s k) := by
  have hc := w.cl_le
  have hd := (w.2.2.1 k (by omega)).1
  have hf := farN_lt w hs hk
  unfold f_X2_canSteal canS eff
  by_cases e : bit g k = true
  · rw [if_neg (fun z => by rw [(bit_n0 _ _).mp z] at e; cases e), if_pos e]
    rfl
  · rw [if_pos ((bit_n0 _ _).mpr (by cases hh : bit g k; rfl; exact absurd hh e)), if_neg e]
    simp (disch := omega) only [Option.bind_some, bd_some, eqL, leL, ltL, Lle, Llt, addL, Ladd, Lmul, mulL, nIle, nIlt, nIeq, nI_add, pk_mul, h.rD w, X_stepsBetween h w]
    by_cases z : β (13 + k) = 0
    · rw [if_pos z]; simp [z]
    · rw [if_neg z]
      by_cases y : farN β s k < 2
      · rw [if_pos y]; simp [z]; omega
      · rw [if_neg y]; simp [z]; omega
theorem X_lbs (h : BX μ b β) (w : WF β) (hF : 2000000 ≤ F) {rc : Nat → Int32 → Int32 → Int32 → Mm → Option Int32} {f : (Nat → Nat) → Nat → Nat} {t s n : Nat} {g : Int32} (ht : t ≤ 2) (hs : s < cl β) (hn : n < 1000) (hf : ∀ s, f (eff β g) s ≤ n) (h0 : t = 0 → ∀ s, f (eff β g) s = 0) (hr : 0 < t → ∀ s, s < cl β → rc b (nI t) (nI s) g μ = some (nI (f (eff β g) s))) : f_X2_lootBehindStep F rc b (nI t) (nI s) g μ = some (nI (lsF β f (eff β g) s)) := by
  have hc := w.cl_le
  unfold f_X2_lootBehindStep
  by_cases e : t = 0
  · subst e
    rw [if_neg (by decide)]
    have : lsF β f (eff β g) s ≤ 0 := lsF_le (fun s => by rw [h0 rfl s]; exact Nat.le_refl _)
    rw [show lsF β f (eff β g) s = 0 by omega]
    rfl
  · have hr' := hr (by omega)
    rw [if_pos ((Llt (n := 0) (by omega) (by decide)).mpr (by show 0 < t; omega)), hr' s hs, Option.bind_some]
    refine iter2 (F := F) (L := L_X2_lootBehindStep_18 F rc b (nI t) (nI s) g _ μ) (fun i => nI (foldF (fun v m => match wayF β s v with | none => m | some j => min m (f (eff β g) j)) 0 i (f (eff β g) s))) (fun i => nI i) (N := 4) (by omega) (fun i hi m => ?_) (fun m => ?_)
    · rw [L_X2_lootBehindStep_18_s, X_gone h w hs (by omega), foldF_n, Nat.zero_add]
      simp (disch := omega) only [Option.bind_some, bd_some, eqL, leL, ltL, Lle, Llt, addL, Ladd, Lmul, mulL, nIle, nIlt, nIeq, nI_add, pk_mul]
      rw [if_neg (by omega)]
      cases hw : wayF β s i with
      | none => rw [if_pos oI_none]
      | some j =>
        have hj := wayF_lt w hs hw
        have hb : foldF (fun v m => match wayF β s v with | none => m | some j => min m (f (eff β g) j)) 0 i (f (eff β g) s) ≤ n := by
          refine foldF_inv (P := fun m => m ≤ n) (hf s) (fun j y _ _ hy => ?_)
          cases wayF β s j with
          | none => exact hy
          | some k => exact Nat.le_trans (Nat.min_le_left _ _) hy
        have hj2 := hf j
        rw [oI_some, if_neg (by rw [neg_ne (by omega)]; exact id), hr' j hj, Option.bind_some, min_n (by omega) (by omega)]
        rfl
    · rw [L_X2_lootBehindStep_18_s]
      simp (disch := omega) only [Option.bind_some, bd_some, eqL, leL, ltL, Lle, Llt, addL, Ladd, Lmul, mulL, nIle, nIlt, nIeq, nI_add, pk_mul]
      rw [if_pos (by omega)]
      rfl
theorem X_loot (h : BX μ b β) (w : WF β) (hF : 2000000 ≤ F) : ∀ (t D : Nat), t ≤ 2 → t < D → ∀ (s : Nat) (g : Int32), s < cl β → t_X2_loot F D b (nI t) (nI s) g μ = some (nI (lo β t (eff β g) s)) := by
  have hc := w.cl_le
  intro t
  induction t with
  | zero =>
    intro D ht hD s g hs
    obtain ⟨D, rfl⟩ : ∃ q, D = q + 1 := ⟨D - 1, by omega⟩
    rfl
  | succ t ih =>
    intro D ht hD s g hs
    obtain ⟨D, rfl⟩ : ∃ q, D = q + 1 := ⟨D - 1, by omega⟩
    have hl : ∀ g, (∀ s, lo β t (eff β g) s ≤ 9 * t) := fun g => lo_le t (fun k hk => eff_le w hk)
    have lbs : ∀ g, f_X2_lootBehindStep F (t_X2_loot F D) b (nI t) (nI s) g μ = some (nI (lsF β (lo β t) (eff β g) s)) := fun g => X_lbs h w hF (by omega) hs (n := 9 * t) (by omega) (hl g) (fun e s => by subst e; rfl) (fun _ s hs => ih D (by omega) (by omega) s g hs)
    rw [t_X2_loot_s]
    unfold f_X2_loot
    rw [if_neg (fun z => by have z2 : t + 1 ≤ 0 := (leL (n := 0) (by omega) (by decide)).mp z; omega), if_pos ((leL (n := 2) (by omega) (by decide)).mpr (by show t + 1 ≤ 2; omega)), nI_pred, lbs g, Option.bind_some]
    refine iter2 (F := F) (L := L_X2_loot_25 F _ b (nI (t + 1)) (nI s) g _ μ) (fun i => nI (foldF (fun k m => if canS β (eff β g) s k = true then max m (eff β g k + lsF β (lo β t) (updN (eff β g) k 0) s) else m) 0 i (lsF β (lo β t) (eff β g) s))) (fun i => nI i) (N := cl β) (by omega) (fun i hi n => ?_) (fun n => ?_)
    · rw [L_X2_loot_25_s, X_cells h, Option.bind_some, if_neg (fun z => by have := (nIle (by omega) (by omega)).mp z; omega), X_canSteal h w hs hi, Option.bind_some, foldF_n, Nat.zero_add]
      by_cases e : canS β (eff β g) s i = true
      · have he : eff β g i = β (13 + i) := by
          unfold canS eff at e
          unfold eff
          split
          · rename_i q; rw [if_pos q] at e; simp at e
          · rfl
        have hls : lsF β (lo β t) (eff β (g ||| ((1 : Int32) <<< (nI i &&& 31)))) s = lsF β (lo β t) (updN (eff β g) i 0) s := lsF_cong (lo_cong t (fun j hj => eff_or w hi hj))
        have hb1 : lsF β (lo β t) (updN (eff β g) i 0) s ≤ 9 * t := by rw [← hls]; exact lsF_le (hl _)
        have hd9 := eff_le w (g := g) hi
        have hb2 : foldF (fun k m => if canS β (eff β g) s k = true then max m (eff β g k + lsF β (lo β t) (updN (eff β g) k 0) s) else m) 0 i (lsF β (lo β t) (eff β g) s) ≤ 100 := by
          refine foldF_inv (P := fun m => m ≤ 100) ?_ (fun k y h1 h2 hy => ?_)
          · have := lsF_le (β := β) (s := s) (hl g); omega
          · have hk : k < cl β := by omega
            have hq : lsF β (lo β t) (updN (eff β g) k 0) s ≤ 9 * t := lsF_le (lo_le t (fun j hj => by unfold updN; split; omega; exact eff_le w hj))
            have := eff_le w (g := g) hk
            show (if canS β (eff β g) s k = true then max y (eff β g k + lsF β (lo β t) (updN (eff β g) k 0) s) else y) ≤ 100
            split
            · exact Nat.max_le.mpr ⟨hy, by omega⟩
            · exact hy
        rw [if_pos e, if_pos e, h.rD w hi, Option.bind_some, nI_pred, lbs, Option.bind_some, hls, nI_add, ← he, max_n (by omega) (by omega), Option.bind_some, nI_1]
      · rw [if_neg e, if_neg e, nI_1]
    · rw [L_X2_loot_25_s, X_cells h, Option.bind_some, if_pos ((nIle (by omega) (by omega)).mpr (by omega))]
      rfl
theorem eff_0 {k : Nat} (hk : k < 32) : eff β 0 k = dgs β k := by
  unfold eff dgs
  rw [bit_z hk, if_neg (by decide)]
/-! the reference -/
def gm (β d : Nat → Nat) (s j : Nat) : Nat := if j = 7 then s else if 13 ≤ j ∧ j < 13 + cl β then d (j - 13) else β j
theorem gm_self : gm β (dgs β) (β 7) = β := by
  funext j
  unfold gm dgs
  split
  · rename_i e; rw [e]
  · split
    · congr 1; omega
    · rfl
theorem gm_7 {d : Nat → Nat} {s : Nat} : gm β d s 7 = s := rfl
theorem gm_lo {d : Nat → Nat} {s j : Nat} (h : j < 13) (h7 : j ≠ 7) : gm β d s j = β j := by unfold gm; rw [if_neg h7, if_neg (by omega)]
theorem gm_d {d : Nat → Nat} {s k : Nat} (h : k < cl β) : gm β d s (13 + k) = d k := by unfold gm; rw [if_neg (by omega), if_pos (by omega)]; congr 1; omega
theorem gm_cl {d : Nat → Nat} {s : Nat} : cl (gm β d s) = cl β := by unfold cl; rw [gm_lo (by omega) (by omega), gm_lo (by omega) (by omega)]
theorem gm_ud {d : Nat → Nat} {s k x : Nat} (h : k < cl β) : updN (gm β d s) (13 + k) x = gm β (updN d k x) s := by
  funext j
  unfold updN gm
  by_cases e : j = 13 + k
  · rw [if_pos e, if_neg (by omega), if_pos (by omega)]
    show x = if j - 13 = k then x else d (j - 13)
    rw [if_pos (by omega)]
  · rw [if_neg e]
    split
    · rfl
    · split
      · show d (j - 13) = if j - 13 = k then x else d (j - 13)
        rw [if_neg (by omega)]
      · rfl
theorem gm_us {d : Nat → Nat} {s x : Nat} : updN (gm β d s) 7 x = gm β d x := by
  funext j
  unfold updN gm
  by_cases e : j = 7
  · rw [if_pos e, if_pos e]
  · rw [if_neg e, if_neg e, if_neg e]
theorem gm_wf (w : WF β) {d : Nat → Nat} {s : Nat} (hd : ∀ k, k < cl β → d k ≤ 9) (hs : s < cl β) : WF (gm β d s) := by
  have hc := w.cl_le
  obtain ⟨⟨w0, w1, w2, w3, w4, w5, w6, w7, w8⟩, wk, wd, wl⟩ := id w
  have g : ∀ j, j < 13 → j ≠ 7 → gm β d s j = β j := fun j h1 h2 => gm_lo h1 h2
  have gh : ∀ j, 38 ≤ j → gm β d s j = β j := fun j h1 => by unfold gm; rw [if_neg (by omega), if_neg (by omega)]
  refine ⟨⟨by rw [g 0 (by omega) (by omega)]; exact w0, by rw [g 2 (by omega) (by omega)]; exact w1, by rw [g 2 (by omega) (by omega)]; exact w2, by rw [g 1 (by omega) (by omega)]; exact w3, by rw [g 3 (by omega) (by omega)]; exact w4, by rw [g 3 (by omega) (by omega)]; exact w5, by rw [g 4 (by omega) (by omega)]; exact w6, by rw [g 5 (by omega) (by omega)]; exact w7, Or.inl (by rw [gm_cl]; exact hs)⟩, ?_, ?_, ?_⟩
  · intro a ha; rw [g _ (by omega) (by omega)]; exact wk a ha
  · intro k hk
    obtain ⟨d1, d2, d3⟩ := wd k hk
    refine ⟨?_, by rw [gh _ (by omega)]; exact d2, by rw [gh _ (by omega)]; exact d3⟩
    by_cases e : k < cl β
    · rw [gm_d e]; exact hd k e
    · unfold gm; rw [if_neg (by omega), if_neg (by omega)]; exact d1
  · intro l hl; rw [gh _ (by omega), gh _ (by omega), gh _ (by omega), gh _ (by omega)]; exact wl l hl
theorem gm_far {d : Nat → Nat} {s s' k : Nat} : farN (gm β d s) s' k = farN β s' k := by unfold farN; rw [gm_lo (by omega) (by omega)]
theorem gm_bes {d : Nat → Nat} {s k p : Nat} : bes (gm β d s) k p = bes β k p := by unfold bes; rw [gm_cl, gm_lo (by omega) (by omega)]
theorem gm_way {d : Nat → Nat} {s k v : Nat} : wayF (gm β d s) k v = wayF β k v := by unfold wayF; rw [gm_bes]
/-- least of what has been seen -/
def mn1 (o : Option Nat) (x : Nat) : Option Nat := match o with | none => some x | some m => some (min m x)
def mx1 (o : Option Nat) (x : Nat) : Option Nat := match o with | none => some x | some m => some (max m x)
theorem mn_end {f : Nat → Option Nat} (x0 : Nat) : ∀ {n i : Nat} {o : Option Nat}, mn1 (foldF (fun v o => match f v with | none => o | some x => mn1 o x) i n o) x0 = some (foldF (fun v m => match f v with | none => m | some x => min m x) i n (match o with | none => x0 | some m => min m x0))
  | 0, i, o => by cases o <;> rfl
  | n + 1, i, o => by
    rw [foldF_s, mn_end x0, foldF_s]
    congr 2
    cases f i with
    | none => rfl
    | some x =>
      cases o with
      | none => show min x x0 = min x0 x; exact Nat.min_comm _ _
      | some m => show min (min m x) x0 = min (min m x0) x; rw [Nat.min_assoc, Nat.min_assoc, Nat.min_comm x]
theorem M_watches (w : WF β) (hF : 2000000 ≤ F) {rc : Int32 → Int32 → Mm → Option (Int32 × Mm)} {t s n : Nat} {d : Nat → Nat} {f : (Nat → Nat) → Nat → Nat} (ht : t ≤ 2) (hs : s < cl β) (hd : ∀ k, k < cl β → d k ≤ 9) (hn : n < 1000) (hf : ∀ s, f d s ≤ n) (hr : ∀ s μ, s < cl β → CB μ (gm β d s) → ∃ ν, rc (nI t) 0 μ = some (nI (f d s), ν) ∧ CB ν (gm β d s) ∧ Ag (fun a k => a = 146 ∧ k < 128) μ ν) (h : CB μ (gm β d s)) : ∃ ν, f_X12_watches F rc (nI (t + 1)) μ = some (nI (lsF β f d s), ν) ∧ CB ν (gm β d s) ∧ Ag (fun a k => a = 146 ∧ k < 128) μ ν := by
  have hc := w.cl_le
  have rd7 : rdA μ 146 2000 7 = some (nI s) := by rw [h.rl 7 (by omega), gm_7]
  unfold f_X12_watches
  rw [rd7, Option.bind_some]
  let g : Nat → Option Nat := fun v => match wayF β s v with | none => none | some j => some (f d j)
  have hb : ∀ i, ∀ m, foldF (fun v o => match g v with | none => o | some x => mn1 o x) 0 i none = some m → m ≤ n := by
    intro i
    refine foldF_inv (P := fun o : Option Nat => ∀ m, o = some m → m ≤ n) (fun m q => by cases q) (fun j y _ _ hy m q => ?_)
    cases hw : wayF β s j with
    | none =>
      have : g j = none := by show (match wayF β s j with | none => none | some j => some (f d j)) = _; rw [hw]
      rw [this] at q
      exact hy m q
    | some k =>
      have : g j = some (f d k) := by show (match wayF β s j with | none => none | some j => some (f d j)) = _; rw [hw]
      rw [this] at q
      cases y with
      | none => cases q; exact hf k
      | some m' =>
        cases q
        exact Nat.le_trans (Nat.min_le_left _ _) (hy m' rfl)
  have step : ∀ i v2 v4 ν, i < 5 → (v4 = nI i ∧ v2 = oI (foldF (fun v o => match g v with | none => o | some x => mn1 o x) 0 i none) ∧ (∃ s', s' < cl β ∧ CB ν (gm β d s')) ∧ Ag (fun a k => a = 146 ∧ k < 128) μ ν) → ∃ v2' v4' ν', (v4' = nI (i + 1) ∧ v2' = oI (foldF (fun v o => match g v with | none => o | some x => mn1 o x) 0 (i + 1) none) ∧ (∃ s', s' < cl β ∧ CB ν' (gm β d s')) ∧ Ag (fun a k => a = 146 ∧ k < 128) μ ν') ∧ ∀ m, L_X12_watches_13 F rc (nI (t + 1)) (nI s) (fun u9 μ10 => (wrA μ10 146 2000 7 (nI s)).bind fun μ11 => some (u9, μ11)) (m + 1) v2 v4 ν = L_X12_watches_13 F rc (nI (t + 1)) (nI s) (fun u9 μ10 => (wrA μ10 146 2000 7 (nI s)).bind fun μ11 => some (u9, μ11)) m v2' v4' ν' := by
    rintro i v2 v4 ν hi ⟨rfl, rfl, ⟨s', hs', h2⟩, h3⟩
    have hwf := gm_wf w hd hs'
    have hway := M_wayFrom h2 hwf (k := s) (v := i) (by rw [gm_cl]; exact hs) (by omega)
    rw [gm_way] at hway
    rw [foldF_n, Nat.zero_add]
    have hbi := hb i
    cases hw : wayF β s i with
    | none =>
      have hg : g i = none := by show (match wayF β s i with | none => none | some j => some (f d j)) = _; rw [hw]
      refine ⟨_, nI (i + 1), ν, ⟨rfl, rfl, ⟨s', hs', h2⟩, h3⟩, fun m => ?_⟩
      rw [L_X12_watches_13_s, if_neg (fun z => by have z2 : 4 < i := (Llt (n := 4) (by omega) (by decide)).mp z; omega), hway, hw, hg, Option.bind_some, if_neg (by decide), nI_1]
    | some j =>
      have hg : g i = some (f d j) := by show (match wayF β s i with | none => none | some j => some (f d j)) = _; rw [hw]
      have hj := wayF_lt w hs hw
      have c7 : CB (sA ν 146 7 (nI j)) (gm β d j) := by rw [← gm_us (s := s')]; exact h2.wr (by omega) j
      obtain ⟨ξ, e1, e2, e3⟩ := hr j _ hj c7
      have w7 : wrA ν 146 2000 7 (nI j) = some (sA ν 146 7 (nI j)) := wrA_n (k := 7) (by omega) (by omega)
      refine ⟨_, nI (i + 1), ξ, ⟨rfl, rfl, ⟨j, hj, e2⟩, (h3.tr (Ag.sA ⟨rfl, by omega⟩)).tr e3⟩, fun m => ?_⟩
      rw [L_X12_watches_13_s, if_neg (fun z => by have z2 : 4 < i := (Llt (n := 4) (by omega) (by decide)).mp z; omega), hway, hw, Option.bind_some, oI_some, if_pos (nI_pos' (by omega)), w7, Option.bind_some, nI_pred, e1, bd_some, hg, nI_1]
      have hfj := hf j
      cases ho : foldF (fun v o => match g v with | none => o | some x => mn1 o x) 0 i none with
      | none => rw [oI_none, if_neg (by decide)]; rfl
      | some m' =>
        have := hbi m' ho
        rw [oI_some, if_pos (nI_pos' (by omega)), min_n (by omega) (by omega)]
        rfl
  obtain ⟨v2, v4, ν, m, ⟨h1, h2, ⟨s', hs', h3⟩, h4⟩, e⟩ := iterI3 (L := L_X12_watches_13 F rc (nI (t + 1)) (nI s) (fun u9 μ10 => (wrA μ10 146 2000 7 (nI s)).bind fun μ11 => some (u9, μ11))) (F := F) (N := 5) (fun i v2 v4 ν => v4 = nI i ∧ v2 = oI (foldF (fun v o => match g v with | none => o | some x => mn1 o x) 0 i none) ∧ (∃ s', s' < cl β ∧ CB ν (gm β d s')) ∧ Ag (fun a k => a = 146 ∧ k < 128) μ ν) (by omega) step (a := -1) (b := 0) (c := μ) ⟨rfl, rfl, ⟨s, hs, h⟩, Ag.rf⟩
  have hlast : foldF (fun v o => match g v with | none => o | some x => mn1 o x) 0 5 none = some (lsF β f d s) := by
    rw [foldF_n]
    have hg4 : g (0 + 4) = some (f d s) := rfl
    rw [hg4]
    have := mn_end (f := g) (f d s) (n := 4) (i := 0) (o := none)
    refine this.trans ?_
    congr 1
    unfold lsF
    refine foldF_cong (fun v m _ _ => ?_)
    show (match (match wayF β s v with | none => none | some j => some (f d j)) with | none => m | some x => min m x) = _
    cases wayF β s v <;> rfl
  rw [hlast, oI_some] at h2
  refine ⟨sA ν 146 7 (nI s), ?_, by rw [← gm_us (s := s')]; exact h3.wr (by omega) s, h4.tr (Ag.sA ⟨rfl, by omega⟩)⟩
  have w7 : wrA ν 146 2000 7 (nI s) = some (sA ν 146 7 (nI s)) := wrA_n (k := 7) (by omega) (by omega)
  rw [e, L_X12_watches_13_s, h1, h2, if_pos (by decide), w7]
  rfl
theorem fmax_spec {p : Nat → Bool} {a : Nat → Nat} : ∀ {n i x : Nat}, x ≤ foldF (fun k m => if p k = true then max m (a k) else m) i n x ∧ (∀ j, i ≤ j → j < i + n → p j = true → a j ≤ foldF (fun k m => if p k = true then max m (a k) else m) i n x) ∧ (foldF (fun k m => if p k = true then max m (a k) else m) i n x = x ∨ ∃ j, i ≤ j ∧ j < i + n ∧ p j = true ∧ foldF (fun k m => if p k = true then max m (a k) else m) i n x = a j)
  | 0, i, x => ⟨Nat.le_refl _, fun j h1 h2 => by omega, Or.inl rfl⟩
  | n + 1, i, x => by
    rw [foldF_s]
    obtain ⟨h1, h2, h3⟩ := fmax_spec (p := p) (a := a) (n := n) (i := i + 1) (x := if p i = true then max x (a i) else x)
    by_cases e : p i = true
    · rw [if_pos e] at h1 h2 h3 ⊢
      have m1 := Nat.le_max_left x (a i)
      have m2 := Nat.le_max_right x (a i)
      refine ⟨by omega, fun j a1 a2 a3 => ?_, ?_⟩
      · by_cases q : j = i
        · subst q; omega
        · exact h2 j (by omega) (by omega) a3
      · rcases h3 with h3 | ⟨j, a1, a2, a3, a4⟩
        · rcases Nat.le_total x (a i) with q | q
          · rw [Nat.max_eq_right q] at h3 ⊢
            exact Or.inr ⟨i, by omega, by omega, e, h3⟩
          · rw [Nat.max_eq_left q] at h3 ⊢
            exact Or.inl h3
        · exact Or.inr ⟨j, by omega, by omega, a3, a4⟩
    · rw [if_neg e] at h1 h2 h3 ⊢
      refine ⟨h1, fun j a1 a2 a3 => ?_, ?_⟩
      · by_cases q : j = i
        · subst q; exact absurd a3 e
        · exact h2 j (by omega) (by omega) a3
      · rcases h3 with h3 | ⟨j, a1, a2, a3, a4⟩
        · exact Or.inl h3
        · exact Or.inr ⟨j, by omega, by omega, a3, a4⟩
theorem fnd_ext {p : Nat → Bool} : ∀ {n i : Nat}, fndF p i (n + 1) = match fndF p i n with | some l => some l | none => if p (i + n) = true then some (i + n) else none
  | 0, i => by rw [fndF_s]; rfl
  | n + 1, i => by
    rw [fndF_s, fnd_ext, fndF_s]
    by_cases e : p i = true
    · rw [if_pos e, if_pos e]
    · rw [if_neg e, if_neg e, show i + 1 + n = i + (n + 1) by omega]
theorem fnd_no {p : Nat → Bool} : ∀ {n i : Nat}, (∀ j, i ≤ j → j < i + n → p j = false) → fndF p i n = none
  | 0, i, _ => rfl
  | n + 1, i, h => by rw [fndF_s, if_neg (by rw [h i (by omega) (by omega)]; decide), fnd_no (fun j h1 h2 => h j (by omega) (by omega))]
/-- the reference's best theft -/
def bestW (β d : Nat → Nat) (W : (Nat → Nat) → Nat) (s L : Nat) : Nat := match fndF (fun c => canS β d s c && decide (d c + W (updN d c 0) = L)) 0 (cl β) with | some c => c | none => cl β
theorem M_thL (w : WF β) (hF : 2000000 ≤ F) {rc : Int32 → Mm → Option (Int32 × Mm)} {v1 v2 : Int32} {s : Nat} {d : Nat → Nat} {W : (Nat → Nat) → Nat} (hs : s < cl β) (hd : ∀ k, k < cl β → d k ≤ 9) (hW : ∀ d', (∀ k, k < cl β → d' k ≤ 9) → W d' ≤ 100) (hr : ∀ d' μ, (∀ k, k < cl β → d' k ≤ 9) → CB μ (gm β d' s) → ∃ ν, rc v1 μ = some (nI (W d'), ν) ∧ CB ν (gm β d' s) ∧ Ag (fun a k => a = 146 ∧ k < 128) μ ν) (h : CB μ (gm β d s)) {kk : Int32 → Int32 → Mm → Option (Int32 × Mm)} : ∃ ν, L_X12_thieves_14 F rc v1 v2 kk F (-1) (-1) 0 μ = kk (nI (foldF (fun k m => if canS β d s k = true then max m (d k + W (updN d k 0)) else m) 0 (cl β) (W d))) (nI (bestW β d W s (foldF (fun k m => if canS β d s k = true then max m (d k + W (updN d k 0)) else m) 0 (cl β) (W d)))) ν ∧ CB ν (gm β d s) ∧ Ag (fun a k => a = 146 ∧ k < 128) μ ν := by
  have hc := w.cl_le
  have hu : ∀ k, ∀ j, j < cl β → updN d k 0 j ≤ 9 := fun k j hj => by unfold updN; split; omega; exact hd j hj
  have hwf := gm_wf w hd hs
  let a : Nat → Nat := fun k => d k + W (updN d k 0)
  have step : ∀ i v3 v4 v5 ν, i < cl β → (v5 = nI i ∧ CB ν (gm β d s) ∧ Ag (fun a k => a = 146 ∧ k < 128) μ ν ∧ ((v3 = -1 ∧ v4 = -1 ∧ ∀ j, j < i → canS β d s j = false) ∨ ∃ m wi, m ≤ 200 ∧ v3 = nI m ∧ v4 = nI wi ∧ (∀ j, j < i → canS β d s j = true → a j ≤ m) ∧ fndF (fun c => canS β d s c && decide (a c = m)) 0 i = some wi)) → ∃ v3' v4' v5' ν', (v5' = nI (i + 1) ∧ CB ν' (gm β d s) ∧ Ag (fun a k => a = 146 ∧ k < 128) μ ν' ∧ ((v3' = -1 ∧ v4' = -1 ∧ ∀ j, j < i + 1 → canS β d s j = false) ∨ ∃ m wi, m ≤ 200 ∧ v3' = nI m ∧ v4' = nI wi ∧ (∀ j, j < i + 1 → canS β d s j = true → a j ≤ m) ∧ fndF (fun c => canS β d s c && decide (a c = m)) 0 (i + 1) = some wi)) ∧ ∀ m, L_X12_thieves_14 F rc v1 v2 kk (m + 1) v3 v4 v5 ν = L_X12_thieves_14 F rc v1 v2 kk m v3' v4' v5' ν' := by
    rintro i v3 v4 v5 ν hi ⟨rfl, h2, h3, h4⟩
    have hcc : f_X12_cells ν = some (nI (cl β)) := by rw [M_cells h2, gm_cl]
    have hne : (nI i = nI (cl β)) = False := eq_false (fun z => by have := (nIeq (by omega) (by omega)).mp z; omega)
    have rdd : rdA ν 146 2000 ((13 : Int32) + nI i) = some (nI (d i)) := by rw [lit 13 i, h2.rd (by omega), gm_d hi]
    have hfar : f_X12_farOf (nI i) ν = some (nI (farN β s i)) := by rw [M_farOf h2 hwf (by omega) (by rw [gm_7]; omega), gm_far, gm_7]
    have hfl := farN_lt w hs hi
    have hdi := hd i hi
    have head : ∀ m, L_X12_thieves_14 F rc v1 v2 kk (m + 1) v3 v4 (nI i) ν = if d i = 0 then L_X12_thieves_14 F rc v1 v2 kk m v3 v4 (nI (i + 1)) ν else if 2 ≤ farN β s i then (wrA ν 146 2000 ((13 : Int32) + nI i) 0).bind fun a36 => bd (rc v1 a36) fun x37 μ38 => (wrA μ38 146 2000 ((13 : Int32) + nI i) (nI (d i))).bind fun μ47 => L_X12_thieves_14 F rc v1 v2 kk m (if v3 < (nI (d i) + x37) then (nI (d i) + x37) else v3) (if v3 < (nI (d i) + x37) then nI i else v4) (nI (i + 1)) μ47 else L_X12_thieves_14 F rc v1 v2 kk m v3 v4 (nI (i + 1)) ν := by
      intro m
      rw [L_X12_thieves_14_s]
      unfold jn
      rw [hcc, Option.bind_some, if_neg (fun z => by have := (nIlt (by omega) (by omega)).mp z; omega), Option.bind_some]
      simp (disch := omega) only [hne, if_false, eq_self, if_true, rdd, hfar, Option.bind_some, eqL, Lle, addL]
    by_cases e : canS β d s i = true
    · have e' : d i ≠ 0 ∧ 2 ≤ farN β s i := by unfold canS at e; simpa using e
      have c1 : CB (sA ν 146 (13 + i) (nI 0)) (gm β (updN d i 0) s) := by rw [← gm_ud hi]; exact h2.wr (by omega) 0
      obtain ⟨ξ, x1, x2, x3⟩ := hr (updN d i 0) _ (hu i) c1
      have c2 : CB (sA ξ 146 (13 + i) (nI (d i))) (gm β d s) := by
        have := x2.wr (k := 13 + i) (by omega) (d i)
        rw [gm_ud hi] at this
        have he : updN (updN d i 0) i (d i) = d := by
          funext j
          unfold updN
          split
          · rename_i q; rw [q]
          · rfl
        rw [he] at this
        exact this
      have w1 : wrA ν 146 2000 ((13 : Int32) + nI i) 0 = some (sA ν 146 (13 + i) (nI 0)) := by rw [lit 13 i]; exact wrA_n (by omega) (by omega)
      have w2 : wrA ξ 146 2000 ((13 : Int32) + nI i) (nI (d i)) = some (sA ξ 146 (13 + i) (nI (d i))) := by rw [lit 13 i]; exact wrA_n (by omega) (by omega)
      have hWb := hW (updN d i 0) (hu i)
      have hai : nI (d i) + nI (W (updN d i 0)) = nI (a i) := nI_add _ _
      have hal : a i ≤ 200 := by show d i + W (updN d i 0) ≤ 200; omega
      refine ⟨_, _, nI (i + 1), sA ξ 146 (13 + i) (nI (d i)), ⟨rfl, c2, ((h3.tr (Ag.sA ⟨rfl, by omega⟩)).tr x3).tr (Ag.sA ⟨rfl, by omega⟩), ?_⟩, fun m => by rw [head, if_neg e'.1, if_pos e'.2, w1, Option.bind_some, x1, bd_some, w2, Option.bind_some, hai]⟩
      right
      rcases h4 with ⟨rfl, rfl, hno⟩ | ⟨m, wi, hm, rfl, rfl, hle, hfn⟩
      · refine ⟨a i, i, hal, ?_, ?_, fun j hj q => ?_, ?_⟩
        · rw [if_pos]
          rw [fa_lt, nI_ti (by omega)]
          have : (-1 : Int32).toInt = -1 := by decide
          omega
        · rw [if_pos]
          rw [fa_lt, nI_ti (by omega)]
          have : (-1 : Int32).toInt = -1 := by decide
          omega
        · by_cases z : j = i
          · rw [z]; exact Nat.le_refl _
          · rw [hno j (by omega)] at q; cases q
        · rw [fnd_ext, fnd_no (fun j _ hj => by rw [hno j (by omega)]; rfl), Nat.zero_add]
          show (if (canS β d s i && decide (a i = a i)) = true then _ else _) = _
          rw [if_pos (by simp [e])]
      · by_cases z : m < a i
        · refine ⟨a i, i, hal, if_pos ((nIlt (by omega) (by omega)).mpr z), if_pos ((nIlt (by omega) (by omega)).mpr z), fun j hj q => ?_, ?_⟩
          · by_cases y : j = i
            · rw [y]; exact Nat.le_refl _
            · have := hle j (by omega) q; omega
          · rw [fnd_ext, fnd_no (fun j _ hj => ?_), Nat.zero_add]
            · show (if (canS β d s i && decide (a i = a i)) = true then _ else _) = _
              rw [if_pos (by simp [e])]
            · cases q : canS β d s j with
              | false => rfl
              | true =>
                have := hle j (by omega) q
                show (true && decide (a j = a i)) = false
                rw [Bool.true_and]
                exact decide_eq_false (by omega)
        · refine ⟨m, wi, hm, if_neg (fun y => z ((nIlt (by omega) (by omega)).mp y)), if_neg (fun y => z ((nIlt (by omega) (by omega)).mp y)), fun j hj q => ?_, ?_⟩
          · by_cases y : j = i
            · rw [y]; omega
            · exact hle j (by omega) q
          · rw [fnd_ext, hfn]
    · have e2 : canS β d s i = false := by cases hh : canS β d s i; rfl; exact absurd hh e
      have skip : ∀ m, L_X12_thieves_14 F rc v1 v2 kk (m + 1) v3 v4 (nI i) ν = L_X12_thieves_14 F rc v1 v2 kk m v3 v4 (nI (i + 1)) ν := by
        intro m
        rw [head]
        by_cases z : d i = 0
        · rw [if_pos z]
        · rw [if_neg z, if_neg]
          intro y
          apply e
          unfold canS
          simp [z, y]
      refine ⟨v3, v4, nI (i + 1), ν, ⟨rfl, h2, h3, ?_⟩, skip⟩
      rcases h4 with ⟨q1, q2, hno⟩ | ⟨m, wi, hm, q1, q2, hle, hfn⟩
      · refine Or.inl ⟨q1, q2, fun j hj => ?_⟩
        by_cases y : j = i
        · rw [y]; exact e2
        · exact hno j (by omega)
      · refine Or.inr ⟨m, wi, hm, q1, q2, fun j hj q => ?_, ?_⟩
        · by_cases y : j = i
          · rw [y, e2] at q; cases q
          · exact hle j (by omega) q
        · rw [fnd_ext, hfn]
  have it4 : ∃ v3 v4 v5 ν n, (v5 = nI (cl β) ∧ CB ν (gm β d s) ∧ Ag (fun a k => a = 146 ∧ k < 128) μ ν ∧ ((v3 = -1 ∧ v4 = -1 ∧ ∀ j, j < cl β → canS β d s j = false) ∨ ∃ m wi, m ≤ 200 ∧ v3 = nI m ∧ v4 = nI wi ∧ (∀ j, j < cl β → canS β d s j = true → a j ≤ m) ∧ fndF (fun c => canS β d s c && decide (a c = m)) 0 (cl β) = some wi)) ∧ L_X12_thieves_14 F rc v1 v2 kk F (-1) (-1) 0 μ = L_X12_thieves_14 F rc v1 v2 kk (n + 2) v3 v4 v5 ν := by
    have key : ∀ q i v3 v4 v5 ν, i + q = cl β → (v5 = nI i ∧ CB ν (gm β d s) ∧ Ag (fun a k => a = 146 ∧ k < 128) μ ν ∧ ((v3 = -1 ∧ v4 = -1 ∧ ∀ j, j < i → canS β d s j = false) ∨ ∃ m wi, m ≤ 200 ∧ v3 = nI m ∧ v4 = nI wi ∧ (∀ j, j < i → canS β d s j = true → a j ≤ m) ∧ fndF (fun c => canS β d s c && decide (a c = m)) 0 i = some wi)) → ∃ v3' v4' v5' ν', (v5' = nI (cl β) ∧ CB ν' (gm β d s) ∧ Ag (fun a k => a = 146 ∧ k < 128) μ ν' ∧ ((v3' = -1 ∧ v4' = -1 ∧ ∀ j, j < cl β → canS β d s j = false) ∨ ∃ m wi, m ≤ 200 ∧ v3' = nI m ∧ v4' = nI wi ∧ (∀ j, j < cl β → canS β d s j = true → a j ≤ m) ∧ fndF (fun c => canS β d s c && decide (a c = m)) 0 (cl β) = some wi)) ∧ ∀ n, L_X12_thieves_14 F rc v1 v2 kk (n + q) v3 v4 v5 ν = L_X12_thieves_14 F rc v1 v2 kk n v3' v4' v5' ν' := by
      intro q
      induction q with
      | zero => intro i v3 v4 v5 ν hi hI; rw [show i = cl β by omega] at hI; exact ⟨v3, v4, v5, ν, hI, fun n => rfl⟩
      | succ q ih =>
        intro i v3 v4 v5 ν hi hI
        obtain ⟨b1, b2, b3, b4, hI', e1⟩ := step i v3 v4 v5 ν (by omega) hI
        obtain ⟨c1, c2, c3, c4, hI2, e2⟩ := ih (i + 1) b1 b2 b3 b4 (by omega) hI'
        exact ⟨c1, c2, c3, c4, hI2, fun n => by rw [show n + (q + 1) = (n + q) + 1 by omega, e1, e2]⟩
    obtain ⟨c1, c2, c3, c4, hI2, e2⟩ := key (cl β) 0 (-1) (-1) 0 μ (by omega) ⟨rfl, h, Ag.rf, Or.inl ⟨rfl, rfl, fun j hj => by omega⟩⟩
    refine ⟨c1, c2, c3, c4, F - cl β - 2, hI2, ?_⟩
    rw [← e2, show F - cl β - 2 + 2 + cl β = F by omega]
  obtain ⟨v3, v4, v5, ν, n, ⟨rfl, h2, h3, h4⟩, e⟩ := it4
  have hcc : f_X12_cells ν = some (nI (cl β)) := by rw [M_cells h2, gm_cl]
  obtain ⟨ξ, x1, x2, x3⟩ := hr d ν hd h2
  have hcc2 : f_X12_cells ξ = some (nI (cl β)) := by rw [M_cells x2, gm_cl]
  refine ⟨ξ, ?_, x2, h3.tr x3⟩
  have h0W : (0 : Int32) + nI (W d) = nI (W d) := Int32.zero_add _
  have hWd := hW d hd
  have last : L_X12_thieves_14 F rc v1 v2 kk (n + 2) v3 v4 (nI (cl β)) ν = kk (if v3 < nI (W d) then nI (W d) else v3) (if v3 < nI (W d) then nI (cl β) else v4) ξ := by
    rw [L_X12_thieves_14_s]
    unfold jn
    rw [hcc, Option.bind_some, if_neg (fun z => by have := (nIlt (by omega) (by omega)).mp z; omega), Option.bind_some]
    simp only [eq_self, if_true]
    rw [if_neg (by decide), if_neg (by decide), if_neg (by decide), x1, bd_some]
    simp only [if_neg (show ¬ (1 : Int32) = 0 by decide)]
    rw [h0W, L_X12_thieves_14_s, hcc2, Option.bind_some, nI_1, if_pos ((nIlt (by omega) (by omega)).mpr (by omega))]
  rw [e, last]
  obtain ⟨f1, f2, f3⟩ := fmax_spec (p := canS β d s) (a := a) (n := cl β) (i := 0) (x := W d)
  have hfold : foldF (fun k m => if canS β d s k = true then max m (d k + W (updN d k 0)) else m) 0 (cl β) (W d) = foldF (fun k m => if canS β d s k = true then max m (a k) else m) 0 (cl β) (W d) := rfl
  rw [hfold]
  generalize foldF (fun k m => if canS β d s k = true then max m (a k) else m) 0 (cl β) (W d) = L at *
  have hbest : bestW β d W s L = match fndF (fun c => canS β d s c && decide (a c = L)) 0 (cl β) with | some c => c | none => cl β := rfl
  rw [hbest]
  rcases h4 with ⟨rfl, rfl, hno⟩ | ⟨m, wi, hm, rfl, rfl, hle, hfn⟩
  · have hL : L = W d := by
      rcases f3 with f3 | ⟨j, -, hj, hp, -⟩
      · exact f3
      · rw [hno j (by omega)] at hp; cases hp
    have hlt : (-1 : Int32) < nI (W d) := by
      rw [fa_lt, nI_ti (by omega)]
      have : (-1 : Int32).toInt = -1 := by decide
      omega
    rw [if_pos hlt, if_pos hlt, hL, fnd_no (fun j _ hj => by rw [hno j (by omega)]; rfl)]
  · obtain ⟨g1, g2, g3⟩ := fndF_some hfn
    have hcw : canS β d s wi = true ∧ a wi = m := by
      have : (canS β d s wi && decide (a wi = m)) = true := g3
      rw [Bool.and_eq_true] at this
      exact ⟨this.1, of_decide_eq_true this.2⟩
    have hmL : m ≤ L := by rw [← hcw.2]; exact f2 wi g1 (by omega) hcw.1
    by_cases z : m < W d
    · have hL : L = W d := by
        rcases f3 with f3 | ⟨j, -, hj, hp, hq⟩
        · exact f3
        · have := hle j (by omega) hp; omega
      rw [if_pos ((nIlt (by omega) (by omega)).mpr z), if_pos ((nIlt (by omega) (by omega)).mpr z), hL, fnd_no (fun j _ hj => ?_)]
      cases q : canS β d s j with
      | false => rfl
      | true =>
        have := hle j (by omega) q
        show (true && decide (a j = W d)) = false
        rw [Bool.true_and]
        exact decide_eq_false (by omega)
    · have hL : L = m := by
        rcases f3 with f3 | ⟨j, -, hj, hp, hq⟩
        · omega
        · have := hle j (by omega) hp; omega
      rw [if_neg (fun y => z ((nIlt (by omega) (by omega)).mp y)), if_neg (fun y => z ((nIlt (by omega) (by omega)).mp y)), hL, hfn]
end GAME
