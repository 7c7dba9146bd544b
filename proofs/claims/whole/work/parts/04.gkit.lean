/-- the globals: launch; class numbers and slots; array classes; address of cell 0; addresses of the two static rows -/
abbrev GG : Type := Launch × (va_G × ((Nat → ClassId) × (Nat × (Nat × Nat))))
def gD (g : GG) : va_G := g.2.1
def gc (g : GG) : Nat → ClassId := g.2.2.1
def gb (g : GG) : Nat := g.2.2.2.1
def gW (g : GG) : Nat := g.2.2.2.2.1
def gT (g : GG) : Nat := g.2.2.2.2.2
def gA (g : GG) : Nat → Prop := fun q => gb g ≤ q
def gty (g : GG) : List (ClassId × FieldType) := [(gc g 0, .int), (gc g 1, .long), (gc g 2, .byte), (gc g 3, .object RX0), (gc g 4, .object RX5), (gc g 5, .array .int), (gc g 6, .array .long)]
/-- the memory: int fields, long fields, int rows, long rows, byte rows, the eight references that move -/
abbrev Mm : Type := (Nat → Nat → Int32) × ((Nat → Nat → Int64) × ((Nat → Nat → Int32) × ((Nat → Nat → Int64) × ((Nat → Nat → Int32) × (Nat → Nat)))))
def mI (μ : Mm) : Nat → Nat → Int32 := μ.1
def mJ (μ : Mm) : Nat → Nat → Int64 := μ.2.1
def mA (μ : Mm) : Nat → Nat → Int32 := μ.2.2.1
def mL (μ : Mm) : Nat → Nat → Int64 := μ.2.2.2.1
def mB (μ : Mm) : Nat → Nat → Int32 := μ.2.2.2.2.1
def mR (μ : Mm) : Nat → Nat := μ.2.2.2.2.2
def up2 {α : Type} (f : Nat → Nat → α) (a k : Nat) (x : α) : Nat → Nat → α := fun b j => if b = a then (if j = k then x else f b j) else f b j
def upr {α : Type} (f : Nat → Nat → α) (a : Nat) (r : Nat → α) : Nat → Nat → α := fun b => if b = a then r else f b
def up1 (f : Nat → Nat) (a x : Nat) : Nat → Nat := fun b => if b = a then x else f b
def sI (μ : Mm) (a k : Nat) (x : Int32) : Mm := (up2 μ.1 a k x, μ.2)
def sJ (μ : Mm) (a k : Nat) (x : Int64) : Mm := (μ.1, up2 μ.2.1 a k x, μ.2.2)
def sA (μ : Mm) (a k : Nat) (x : Int32) : Mm := (μ.1, μ.2.1, up2 μ.2.2.1 a k x, μ.2.2.2)
def sL (μ : Mm) (a k : Nat) (x : Int64) : Mm := (μ.1, μ.2.1, μ.2.2.1, up2 μ.2.2.2.1 a k x, μ.2.2.2.2)
def sB (μ : Mm) (a k : Nat) (x : Int32) : Mm := (μ.1, μ.2.1, μ.2.2.1, μ.2.2.2.1, up2 μ.2.2.2.2.1 a k x, μ.2.2.2.2.2)
def sR (μ : Mm) (a x : Nat) : Mm := (μ.1, μ.2.1, μ.2.2.1, μ.2.2.2.1, μ.2.2.2.2.1, up1 μ.2.2.2.2.2 a x)
/-- a whole row -/
def rA (μ : Mm) (a : Nat) (r : Nat → Int32) : Mm := (μ.1, μ.2.1, upr μ.2.2.1 a r, μ.2.2.2)
def rL (μ : Mm) (a : Nat) (r : Nat → Int64) : Mm := (μ.1, μ.2.1, μ.2.2.1, upr μ.2.2.2.1 a r, μ.2.2.2.2)

def SH : List (Nat × Nat) := [(20, 18), (19, 3), (6, 4), (1, 60), (1, 60), (1, 60), (1, 60), (0, 4), (0, 4), (18, 12), (2, 900), (1, 28), (11, 2), (15, 3), (0, 3), (10, 14), (12, 5), (0, 10), (0, 10), (0, 10), (0, 10), (0, 5), (1, 5), (0, 25), (0, 25), (0, 25), (0, 25), (10, 14), (12, 5), (0, 10), (0, 10), (0, 10), (0, 10), (0, 5), (1, 5), (0, 25), (0, 25), (0, 25), (0, 25), (14, 8), (0, 60), (0, 60), (0, 60), (0, 60), (0, 60), (14, 8), (0, 60), (0, 60), (0, 60), (0, 60), (0, 60), (3, 3), (4, 3), (10, 14), (12, 5), (0, 10), (0, 10), (0, 10), (0, 10), (0, 5), (1, 5), (0, 25), (0, 25), (0, 25), (0, 25), (14, 8), (0, 60), (0, 60), (0, 60), (0, 60), (0, 60), (10, 14), (12, 5), (0, 10), (0, 10), (0, 10), (0, 10), (0, 5), (1, 5), (0, 25), (0, 25), (0, 25), (0, 25), (14, 8), (0, 60), (0, 60), (0, 60), (0, 60), (0, 60), (10, 14), (12, 5), (0, 10), (0, 10), (0, 10), (0, 10), (0, 5), (1, 5), (0, 25), (0, 25), (0, 25), (0, 25), (14, 8), (0, 60), (0, 60), (0, 60), (0, 60), (0, 60), (17, 9), (0, 5), (0, 5), (5, 6), (0, 25), (0, 25), (0, 25), (0, 25), (0, 25), (0, 25), (5, 6), (0, 25), (0, 25), (0, 25), (0, 25), (0, 25), (0, 25), (5, 6), (0, 25), (0, 25), (0, 25), (0, 25), (0, 25), (0, 25), (16, 7), (0, 25), (0, 110), (0, 110), (0, 110), (0, 110), (13, 9), (0, 60), (13, 9), (0, 60), (21, 49), (0, 4), (0, 4), (1, 240), (2, 900), (0, 2000), (0, 128), (0, 128), (1, 25), (0, 25), (0, 768), (0, 5), (0, 5), (0, 5), (1, 13), (0, 5)]
def shp (i : Nat) : Nat × Nat := SH.getD i (99, 0)
def nfd (c : Nat) : Nat := [14, 2, 5, 9, 8, 3, 7, 9, 12, 3, 18, 49].getD c 0
def FT : List (List Nat) := [[0, 0, 0, 0, 0, 0, 0, 2, 2, 2, 2, 2, 2, 2], [2, 0], [0, 2, 2, 2, 2], [0, 0, 0, 0, 0, 0, 0, 0, 2], [0, 0, 0, 2, 2, 2, 2, 2], [2, 2, 0], [0, 0, 2, 2, 2, 2, 2], [0, 2, 0, 0, 0, 2, 2, 2, 2], [2, 0, 0, 0, 0, 0, 1, 0, 2, 0, 0, 0], [2, 2, 2], [0, 1, 1, 0, 2, 2, 2, 2, 2, 2, 2, 2, 2, 2, 2, 2, 2, 2], [0, 0, 1, 1, 2, 2, 2, 2, 0, 0, 0, 0, 0, 0, 0, 0, 0, 0, 0, 1, 2, 2, 2, 2, 0, 0, 0, 2, 2, 2, 2, 0, 0, 2, 0, 0, 0, 0, 2, 2, 0, 0, 0, 0, 0, 0, 0, 0, 0]]
def ftc (c k : Nat) : Nat := (FT.getD c []).getD k 9
def rf0 (μ : Mm) (i : Nat) (k : Nat) : Nat := match k with
  | 7 => i + 1
  | 8 => i + 6
  | 9 => i + 7
  | 10 => i + 8
  | 11 => i + 9
  | 12 => i + 10
  | 13 => i + 11
  | _ => 0
def rf1 (μ : Mm) (i : Nat) (k : Nat) : Nat := match k with
  | 0 => 9
  | _ => 0
def rf2 (μ : Mm) (i : Nat) (k : Nat) : Nat := match k with
  | 1 => i + 1
  | 2 => i + 2
  | 3 => i + 3
  | 4 => i + 4
  | _ => 0
def rf3 (μ : Mm) (i : Nat) (k : Nat) : Nat := match k with
  | 8 => i + 1
  | _ => 0
def rf4 (μ : Mm) (i : Nat) (k : Nat) : Nat := match k with
  | 3 => i + 1
  | 4 => i + 2
  | 5 => i + 3
  | 6 => i + 4
  | 7 => i + 5
  | _ => 0
def rf5 (μ : Mm) (i : Nat) (k : Nat) : Nat := match k with
  | 0 => 9
  | 1 => 14
  | _ => 0
def rf6 (μ : Mm) (i : Nat) (k : Nat) : Nat := match k with
  | 2 => 132
  | 3 => mR μ 4
  | 4 => mR μ 5
  | 5 => mR μ 6
  | 6 => mR μ 7
  | _ => 0
def rf7 (μ : Mm) (i : Nat) (k : Nat) : Nat := match k with
  | 1 => 108
  | 5 => 109
  | 6 => 110
  | 7 => 117
  | 8 => 124
  | _ => 0
def rf8 (μ : Mm) (i : Nat) (k : Nat) : Nat := match k with
  | 0 => 10
  | 8 => 11
  | _ => 0
def rf9 (μ : Mm) (i : Nat) (k : Nat) : Nat := match k with
  | 0 => 2
  | 1 => 7
  | 2 => 8
  | _ => 0
def rf10 (μ : Mm) (i : Nat) (k : Nat) : Nat := match k with
  | 4 => 1
  | 5 => 9
  | 6 => 12
  | 7 => 13
  | 8 => mR μ 0
  | 9 => mR μ 1
  | 10 => mR μ 2
  | 11 => mR μ 3
  | 12 => 51
  | 13 => 52
  | 14 => 107
  | 15 => 131
  | 16 => 137
  | 17 => 139
  | _ => 0
def rf11 (μ : Mm) (i : Nat) (k : Nat) : Nat := match k with
  | 4 => 142
  | 5 => 143
  | 6 => 144
  | 7 => 145
  | 20 => 146
  | 21 => 147
  | 22 => 148
  | 23 => 149
  | 27 => 150
  | 28 => 151
  | 29 => 152
  | 30 => 153
  | 33 => 154
  | 38 => 155
  | 39 => 156
  | _ => 0
def rfv (μ : Mm) (c i k : Nat) : Nat := match c with
  | 0 => rf0 μ i k
  | 1 => rf1 μ i k
  | 2 => rf2 μ i k
  | 3 => rf3 μ i k
  | 4 => rf4 μ i k
  | 5 => rf5 μ i k
  | 6 => rf6 μ i k
  | 7 => rf7 μ i k
  | 8 => rf8 μ i k
  | 9 => rf9 μ i k
  | 10 => rf10 μ i k
  | 11 => rf11 μ i k
  | _ => 0
def elm (i j : Nat) : Nat := match i with
  | 2 => 3 + j
  | 51 => 53 + 18 * j
  | 52 => 65 + 18 * j
  | 110 => 111 + j
  | 117 => 118 + j
  | _ => 125 + j
def fval (g : GG) (μ : Mm) (c i k : Nat) : Value := match ftc c k with
  | 0 => .int (mI μ i k)
  | 1 => .long (mJ μ i k)
  | _ => .ref (gb g + rfv μ c i k)
def cellS (g : GG) (μ : Mm) (i : Nat) (z : Nat × Nat) : va_E := match z.1 with
  | 0 => .inl (gc g 0, z.2, .inl (mA μ i))
  | 1 => .inl (gc g 1, z.2, .inr (.inl (mL μ i)))
  | 2 => .inl (gc g 2, z.2, .inl (mB μ i))
  | 3 => .inl (gc g 3, z.2, .inr (.inr (.inr (.inr (fun j => some (gb g + elm i j))))))
  | 4 => .inl (gc g 4, z.2, .inr (.inr (.inr (.inr (fun j => some (gb g + elm i j))))))
  | 5 => .inl (gc g 5, z.2, .inr (.inr (.inr (.inr (fun j => some (gb g + elm i j))))))
  | 6 => .inl (gc g 6, z.2, .inr (.inr (.inr (.inr (fun j => some (gb g + elm i j))))))
  | t => .inr (t - 10, (List.range (nfd (t - 10))).map (fval g μ (t - 10) i))
def cellE (g : GG) (μ : Mm) (i : Nat) : va_E := cellS g μ i (shp i)
def WL (g : GG) (μ : Mm) : va_W := (List.range 157).map (fun i => (gb g + i, cellE g μ i))
theorem WL_at (g : GG) (μ : Mm) {i : Nat} (h : i < 157) : (WL g μ)[i]? = some (gb g + i, cellE g μ i) := by
  unfold WL
  rw [List.getElem?_map, List.getElem?_range h]
  rfl
theorem WL_atE (g : GG) (μ : Mm) {i : Nat} {e : va_E} (h : i < 157) (he : cellE g μ i = e) : (WL g μ)[i]? = some (gb g + i, e) := by
  rw [WL_at g μ h, he]
theorem WL_set (g : GG) (μ μ' : Mm) {i : Nat} {e : va_E} (h : i < 157) (he : cellE g μ' i = e) (ho : ∀ j, j ≠ i → cellE g μ' j = cellE g μ j) : (WL g μ).set i (gb g + i, e) = WL g μ' := by
  apply List.ext_getElem?
  intro j
  by_cases hj : j = i
  · subst hj
    rw [List.getElem?_set_self (by unfold WL; rw [List.length_map, List.length_range]; exact h), WL_at g μ' h, he]
  · rw [List.getElem?_set_ne (Ne.symm hj)]
    unfold WL
    rw [List.getElem?_map, List.getElem?_map]
    cases hr : (List.range 157)[j]? with
    | none => rfl
    | some z =>
      have hz : z = j := by
        have h2 := List.getElem?_eq_some_iff.mp hr
        obtain ⟨h3, h4⟩ := h2
        rw [List.getElem_range] at h4
        exact h4.symm
      subst hz
      show some (gb g + z, cellE g μ z) = some (gb g + z, cellE g μ' z)
      rw [ho z hj]
theorem WL_D (g : GG) (μ : Mm) : va_D (gA g) (WL g μ) := by
  have key : ∀ (k : Nat) (q : Nat × va_E), (WL g μ)[k]? = some q → q.1 = gb g + k := by
    intro k q hq
    unfold WL at hq
    rw [List.getElem?_map] at hq
    cases hr : (List.range 157)[k]? with
    | none => rw [hr] at hq; cases hq
    | some z =>
      rw [hr] at hq
      obtain ⟨h3, h4⟩ := List.getElem?_eq_some_iff.mp hr
      rw [List.getElem_range] at h4
      cases hq
      rw [h4]
  refine ⟨fun i j p q hi hj hpq => ?_, fun k q hk => ?_⟩
  · have h1 := key i p hi
    have h2 := key j q hj
    omega
  · have h1 := key k q hk
    show gb g ≤ q.1
    omega
theorem shp_lt {i : Nat} {z : Nat × Nat} (h : shp i = z) (hz : z.1 ≠ 99) : i < 157 := by
  by_cases hi : i < 157
  · exact hi
  · exfalso
    apply hz
    rw [← h]
    unfold shp
    have : SH[i]? = none := List.getElem?_eq_none (by have : SH.length = 157 := by decide +kernel
                                                      omega)
    rw [List.getD_eq_getElem?_getD, this]
    rfl
def HP (g : GG) (μ : Mm) (H : Heap) : Prop := va_P (gD g) vwCl (WL g μ) H
def lw_good : List Cond := lw_tbl.filter goodWord
def lw_isN : Cond → Bool
  | .fieldLinkNest _ _ _ _ _ _ => true
  | .methodLinkNest _ _ _ _ => true
  | _ => false
theorem in_good {w : Cond} (h : w ∈ lw_tbl) (hg : goodWord w = true) : w ∈ lw_good := List.mem_filter.mpr ⟨h, hg⟩
def NWs (U : State) : Prop := ∀ w ∈ lw_tbl, lw_isN w = true → va_Nw w U
theorem NWs.warm {s U : State} (h : NWs s) (hW : s.WarmedH U.vm) : NWs U := by
  intro w hw hn
  have h1 := h w hw hn
  cases w <;> first | (cases hn; done) | exact va_Nw.warmF hW h1 | exact va_Nw.warmM hW h1
def xW (i : Nat) : Int32 := [4, 2, 3, 0, 1].getD i 0
def xT (i : Nat) : Int32 := [1, 10, 100, 1000, 10000, 100000].getD i 0
def ZK (g : GG) (U : State) (H : Heap) : Prop := (va_Z "SumsNightwatch" "WAY_TO_PLACE" "[I" (.ref (gW g)) (gA g) U H ∧ va_Z "SumsNightwatch" "TENS" "[I" (.ref (gT g)) (gA g) U H) ∧ (va_X (gW g) 5 xW U H ∧ va_X (gT g) 6 xT U H) ∧ (gW g < gb g ∧ gT g < gb g ∧ gb g ≤ H.size) ∧ NWs U
theorem ZK.go {g : GG} {s U : State} {H0 H : Heap} {locs : List Loc} (h : ZK g s H0) (hS : va_S (gA g) H0 H locs) (hW : s.WarmedH U.vm) : ZK g U H := by
  obtain ⟨⟨z1, z2⟩, ⟨x1, x2⟩, ⟨b1, b2, b3⟩, hn⟩ := h
  have hk : ∀ a : Nat, a < H0.size → ¬ gA g a → H[a]? = H0[a]? := fun a h1 h2 => hS.2.1 a h1 h2
  have n1 : ¬ gA g (gW g) := fun q => Nat.lt_irrefl _ (Nat.lt_of_lt_of_le b1 q)
  have n2 : ¬ gA g (gT g) := fun q => Nat.lt_irrefl _ (Nat.lt_of_lt_of_le b2 q)
  exact ⟨⟨(z1.moved hW.alike).kept hk, (z2.moved hW.alike).kept hk⟩, ⟨(x1.moved hW.alike).kept (hk _ (by omega) n1), (x2.moved hW.alike).kept (hk _ (by omega) n2)⟩, ⟨b1, b2, Nat.le_trans b3 hS.1⟩, hn.warm hW⟩
def Cx (g : GG) (own : String) (cc : ByteArray) (n : Nat) (p : Program) (s : State) (m : MethodId) (args : Array Value) (c : Code) : Prop :=
  p.tables.exec = Jvm.exec ∧ c.code = cc ∧ c.maxLocals = n ∧ s.vm.findClass own = some m.cls ∧ (∀ w ∈ lw_good, w.before args s = true) ∧ va_K (gD g) vwCl (gty g) s ∧ ZK g s s.heap
def Rm (d : Nat) (R : Room) (cells slots : Nat) : Prop := d ≤ R.frames ∧ 64 * d ≤ R.locals ∧ cells ≤ R.cells ∧ slots ≤ R.slots
/-- from this frame, over this memory, the method returns what o says -/
def Go {ρ : Type} (g : GG) (own : String) (cc : ByteArray) (n : Nat) (rk : Instr) (d : Nat) (cv : ρ → Option Value × Mm) (pc : Nat) (lv : List (Nat × Value)) (st : List Value) (μ : Mm) (o : Option ρ) : Prop :=
  ∀ r, o = some r → ∀ (p : Program) (e : Env) (s : State) (m : MethodId) (args : Array Value) (below : List Frame) (meth : Method) (c : Code) (H : Heap) (locs : List Loc) (ls : Array Slot) (R : Room) (cells slots : Nat) (Q : State → Prop), Cx g own cc n p s m args c → Rm d R cells slots → HP g μ H → va_S (gA g) s.heap H locs → lv_has ls n lv →
    (∀ (H' : Heap) (locs' : List Loc) (pc' : Nat) (ls' : Array Slot), HP g (cv r).2 H' → va_S (gA g) s.heap H' locs' → decode cc pc' = .ok (rk, 1) → W p g.1 e R s m args below meth c H' locs' cells slots Q (F0 m pc' ls' (cv r).1.toList)) →
    W p g.1 e R s m args below meth c H locs cells slots Q (F0 m pc ls st)
def cvI (r : Int32 × Mm) : Option Value × Mm := (some (.int r.1), r.2)
def cvJ (r : Int64 × Mm) : Option Value × Mm := (some (.long r.1), r.2)
def cvV (r : Mm) : Option Value × Mm := (none, r)
def bI (b : Bool) : Int32 := if b = true then 1 else 0
def cvZ (r : Bool × Mm) : Option Value × Mm := (some (.int (bI r.1)), r.2)
def cvR (g : GG) (r : Nat × Mm) : Option Value × Mm := (some (.ref (gb g + r.1)), r.2)
def rmv (d : Nat) : Room := { frames := d, cells := 0, slots := 0, locals := 64 * d }
def PK (g : GG) (μ : Mm) (U : State) : Prop := va_K (gD g) vwCl (gty g) U ∧ ZK g U U.heap ∧ HP g μ U.heap
def Ct {ρ : Type} (g : GG) (y : MethodName) (cc : ByteArray) (n : Nat) (ret : Option FieldType) (d : Nat) (cv : ρ → Option Value × Mm) (as : List Value) (μ : Mm) (o : Option ρ) : Prop :=
  ∀ r, o = some r → Met g.1 y (Cond.code y cc n ret :: lw_good) (rmv d) (va_Pc as (PK g μ)) (fun _ st oc t => oc = .returned (cv r).1 ∧ HP g (cv r).2 t.heap ∧ va_F (gA g) st t) 0 0 (gA g)
theorem pk_blind (g : GG) (as : List Value) (μ : Mm) : FrameBlind (va_Pc as (PK g μ)) := fun a U f mk q => ⟨q.1, va_K.moved (u := U) (U := U.calling f mk a) (Vm.Alike.refl U.vm) q.2.1, ZK.go (U := U.calling f mk a) (H := U.heap) q.2.2.1 va_S.rf (State.WarmedH.refl U), q.2.2.2⟩

section GR
variable {ρ : Type} {g : GG} {own : String} {cc : ByteArray} {n : Nat} {rk : Instr} {d : Nat} {cv : ρ → Option Value × Mm} {pc : Nat} {lv lv' : List (Nat × Value)} {st : List Value} {μ μ' : Mm} {o o1 o2 : Option ρ}
theorem g_none : Go g own cc n rk d cv pc lv st μ none := fun r hr => by cases hr
theorem g_iconst {z : Int} {v : Int32} (hd : decode cc pc = .ok (.iconst z, 1)) (hv : Int32.ofInt z = v) (k : Go g own cc n rk d cv (pc + 1) lv (.int v :: st) μ o) : Go g own cc n rk d cv pc lv st μ o := by
  intro r hr p e s m args below meth c H locs ls R cells slots Q X hR hP hS hl hq
  exact lv_iconst X.1 X.2.1 hd hv (k r hr p e s m args below meth c H locs ls R cells slots Q X hR hP hS hl hq)
theorem g_bipush {z : Int} {v : Int32} (hd : decode cc pc = .ok (.bipush z, 2)) (hv : (Int8.ofInt z).toInt32 = v) (k : Go g own cc n rk d cv (pc + 2) lv (.int v :: st) μ o) : Go g own cc n rk d cv pc lv st μ o := by
  intro r hr p e s m args below meth c H locs ls R cells slots Q X hR hP hS hl hq
  exact lv_bipush X.1 X.2.1 hd hv (k r hr p e s m args below meth c H locs ls R cells slots Q X hR hP hS hl hq)
theorem g_sipush {z : Int} {v : Int32} (hd : decode cc pc = .ok (.sipush z, 3)) (hv : (Int16.ofInt z).toInt32 = v) (k : Go g own cc n rk d cv (pc + 3) lv (.int v :: st) μ o) : Go g own cc n rk d cv pc lv st μ o := by
  intro r hr p e s m args below meth c H locs ls R cells slots Q X hR hP hS hl hq
  exact lv_sipush X.1 X.2.1 hd hv (k r hr p e s m args below meth c H locs ls R cells slots Q X hR hP hS hl hq)
theorem g_lconst {z : Fin 2} {v : Int64} (hd : decode cc pc = .ok (.lconst z, 1)) (hv : Int64.ofNat (z : Nat) = v) (k : Go g own cc n rk d cv (pc + 1) lv (.long v :: st) μ o) : Go g own cc n rk d cv pc lv st μ o := by
  intro r hr p e s m args below meth c H locs ls R cells slots Q X hR hP hS hl hq
  exact lv_lconst X.1 X.2.1 hd hv (k r hr p e s m args below meth c H locs ls R cells slots Q X hR hP hS hl hq)
theorem g_iload_n {k0 : Fin 4} {x : Int32} (hd : decode cc pc = .ok (.iload_n k0, 1)) (q : Nat) (hk : lv[q]? = some ((k0 : Nat), .int x)) (k : Go g own cc n rk d cv (pc + 1) lv (.int x :: st) μ o) : Go g own cc n rk d cv pc lv st μ o := by
  intro r hr p e s m args below meth c H locs ls R cells slots Q X hR hP hS hl hq
  exact lv_iload_n X.1 X.2.1 hd rfl (lv_at hl q hk) (k r hr p e s m args below meth c H locs ls R cells slots Q X hR hP hS hl hq)
theorem g_iload {i : Nat} {x : Int32} (hd : decode cc pc = .ok (.iload i, 2)) (q : Nat) (hk : lv[q]? = some (i, .int x)) (k : Go g own cc n rk d cv (pc + 2) lv (.int x :: st) μ o) : Go g own cc n rk d cv pc lv st μ o := by
  intro r hr p e s m args below meth c H locs ls R cells slots Q X hR hP hS hl hq
  exact lv_iload X.1 X.2.1 hd (lv_at hl q hk) (k r hr p e s m args below meth c H locs ls R cells slots Q X hR hP hS hl hq)
theorem g_lload_n {k0 : Fin 4} {x : Int64} (hd : decode cc pc = .ok (.lload_n k0, 1)) (q : Nat) (hk : lv[q]? = some ((k0 : Nat), .long x)) (k : Go g own cc n rk d cv (pc + 1) lv (.long x :: st) μ o) : Go g own cc n rk d cv pc lv st μ o := by
  intro r hr p e s m args below meth c H locs ls R cells slots Q X hR hP hS hl hq
  exact lv_lload_n X.1 X.2.1 hd rfl (lv_at hl q hk) (k r hr p e s m args below meth c H locs ls R cells slots Q X hR hP hS hl hq)
theorem g_lload {i : Nat} {x : Int64} (hd : decode cc pc = .ok (.lload i, 2)) (q : Nat) (hk : lv[q]? = some (i, .long x)) (k : Go g own cc n rk d cv (pc + 2) lv (.long x :: st) μ o) : Go g own cc n rk d cv pc lv st μ o := by
  intro r hr p e s m args below meth c H locs ls R cells slots Q X hR hP hS hl hq
  exact lv_lload X.1 X.2.1 hd (lv_at hl q hk) (k r hr p e s m args below meth c H locs ls R cells slots Q X hR hP hS hl hq)
theorem g_aload_n {k0 : Fin 4} {x : Nat} (hd : decode cc pc = .ok (.aload_n k0, 1)) (q : Nat) (hk : lv[q]? = some ((k0 : Nat), .ref x)) (k : Go g own cc n rk d cv (pc + 1) lv (.ref x :: st) μ o) : Go g own cc n rk d cv pc lv st μ o := by
  intro r hr p e s m args below meth c H locs ls R cells slots Q X hR hP hS hl hq
  exact lv_aload_n X.1 X.2.1 hd rfl (lv_at hl q hk) (k r hr p e s m args below meth c H locs ls R cells slots Q X hR hP hS hl hq)
theorem g_aload {i : Nat} {x : Nat} (hd : decode cc pc = .ok (.aload i, 2)) (q : Nat) (hk : lv[q]? = some (i, .ref x)) (k : Go g own cc n rk d cv (pc + 2) lv (.ref x :: st) μ o) : Go g own cc n rk d cv pc lv st μ o := by
  intro r hr p e s m args below meth c H locs ls R cells slots Q X hR hP hS hl hq
  exact lv_aload X.1 X.2.1 hd (lv_at hl q hk) (k r hr p e s m args below meth c H locs ls R cells slots Q X hR hP hS hl hq)
theorem g_istore_n {x : Int32} {k0 : Fin 4} {i : Nat} (hd : decode cc pc = .ok (.istore_n k0, 1)) (hi : (k0 : Nat) = i) (hn : i < n) (hv : (i, Value.int x) :: lv.filter (fun q => !(q.1 == i) && !(q.1 + 1 == i && q.2.category == 2)) = lv') (k : Go g own cc n rk d cv (pc + 1) lv' st μ o) : Go g own cc n rk d cv pc lv (.int x :: st) μ o := by
  intro r hr p e s m args below meth c H locs ls R cells slots Q X hR hP hS hl hq
  exact lv_istore_n X.1 X.2.1 hd hi hl hn hv (fun ls hl => k r hr p e s m args below meth c H locs ls R cells slots Q X hR hP hS hl hq)
theorem g_istore {x : Int32} {i : Nat} (hd : decode cc pc = .ok (.istore i, 2))  (hn : i < n) (hv : (i, Value.int x) :: lv.filter (fun q => !(q.1 == i) && !(q.1 + 1 == i && q.2.category == 2)) = lv') (k : Go g own cc n rk d cv (pc + 2) lv' st μ o) : Go g own cc n rk d cv pc lv (.int x :: st) μ o := by
  intro r hr p e s m args below meth c H locs ls R cells slots Q X hR hP hS hl hq
  exact lv_istore X.1 X.2.1 hd  hl hn hv (fun ls hl => k r hr p e s m args below meth c H locs ls R cells slots Q X hR hP hS hl hq)
theorem g_lstore_n {x : Int64} {k0 : Fin 4} {i : Nat} (hd : decode cc pc = .ok (.lstore_n k0, 1)) (hi : (k0 : Nat) = i) (hn : i + 1 < n) (hv : (i, Value.long x) :: lv.filter (fun q => !(q.1 == i) && (!(q.1 == i + 1) && !(q.1 + 1 == i && q.2.category == 2))) = lv') (k : Go g own cc n rk d cv (pc + 1) lv' st μ o) : Go g own cc n rk d cv pc lv (.long x :: st) μ o := by
  intro r hr p e s m args below meth c H locs ls R cells slots Q X hR hP hS hl hq
  exact lv_lstore_n X.1 X.2.1 hd hi hl hn hv (fun ls hl => k r hr p e s m args below meth c H locs ls R cells slots Q X hR hP hS hl hq)
theorem g_lstore {x : Int64} {i : Nat} (hd : decode cc pc = .ok (.lstore i, 2))  (hn : i + 1 < n) (hv : (i, Value.long x) :: lv.filter (fun q => !(q.1 == i) && (!(q.1 == i + 1) && !(q.1 + 1 == i && q.2.category == 2))) = lv') (k : Go g own cc n rk d cv (pc + 2) lv' st μ o) : Go g own cc n rk d cv pc lv (.long x :: st) μ o := by
  intro r hr p e s m args below meth c H locs ls R cells slots Q X hR hP hS hl hq
  exact lv_lstore X.1 X.2.1 hd  hl hn hv (fun ls hl => k r hr p e s m args below meth c H locs ls R cells slots Q X hR hP hS hl hq)
theorem g_astore_n {x : Nat} {k0 : Fin 4} {i : Nat} (hd : decode cc pc = .ok (.astore_n k0, 1)) (hi : (k0 : Nat) = i) (hn : i < n) (hv : (i, Value.ref x) :: lv.filter (fun q => !(q.1 == i) && !(q.1 + 1 == i && q.2.category == 2)) = lv') (k : Go g own cc n rk d cv (pc + 1) lv' st μ o) : Go g own cc n rk d cv pc lv (.ref x :: st) μ o := by
  intro r hr p e s m args below meth c H locs ls R cells slots Q X hR hP hS hl hq
  exact lv_astore_n X.1 X.2.1 hd hi hl hn hv (fun ls hl => k r hr p e s m args below meth c H locs ls R cells slots Q X hR hP hS hl hq)
theorem g_astore {x : Nat} {i : Nat} (hd : decode cc pc = .ok (.astore i, 2))  (hn : i < n) (hv : (i, Value.ref x) :: lv.filter (fun q => !(q.1 == i) && !(q.1 + 1 == i && q.2.category == 2)) = lv') (k : Go g own cc n rk d cv (pc + 2) lv' st μ o) : Go g own cc n rk d cv pc lv (.ref x :: st) μ o := by
  intro r hr p e s m args below meth c H locs ls R cells slots Q X hR hP hS hl hq
  exact lv_astore X.1 X.2.1 hd  hl hn hv (fun ls hl => k r hr p e s m args below meth c H locs ls R cells slots Q X hR hP hS hl hq)
theorem g_iinc {i : Nat} {z : Int} {x v : Int32} (hd : decode cc pc = .ok (.iinc i z, 3)) (q : Nat) (hk : lv[q]? = some (i, .int x)) (he : x + Int32.ofInt z = v) (hn : i < n) (hv : (i, Value.int v) :: lv.filter (fun q => !(q.1 == i) && !(q.1 + 1 == i && q.2.category == 2)) = lv') (k : Go g own cc n rk d cv (pc + 3) lv' st μ o) : Go g own cc n rk d cv pc lv st μ o := by
  intro r hr p e s m args below meth c H locs ls R cells slots Q X hR hP hS hl hq
  exact lv_iinc X.1 X.2.1 hd hl hk he hn hv (fun ls hl => k r hr p e s m args below meth c H locs ls R cells slots Q X hR hP hS hl hq)
theorem g_lv (ks : List Nat) (h : lv_pick lv ks = lv') (k : Go g own cc n rk d cv pc lv' st μ o) : Go g own cc n rk d cv pc lv st μ o := by
  intro r hr p e s m args below meth c H locs ls R cells slots Q X hR hP hS hl hq
  exact k r hr p e s m args below meth c H locs ls R cells slots Q X hR hP hS (lv_sub hl ks h) hq
theorem g_eqo (h : o = o1) (k : Go g own cc n rk d cv pc lv st μ o1) : Go g own cc n rk d cv pc lv st μ o := h ▸ k
theorem g_iadd {x y : Int32} (hd : decode cc pc = .ok (.iadd, 1))  (k : Go g own cc n rk d cv (pc + 1) lv (.int (x + y) :: st) μ o) : Go g own cc n rk d cv pc lv (.int y :: .int x :: st) μ o := by
  intro r hr p e s m args below meth c H locs ls R cells slots Q X hR hP hS hl hq
  exact lv_iadd X.1 X.2.1 hd  (k r hr p e s m args below meth c H locs ls R cells slots Q X hR hP hS hl hq)
theorem g_isub {x y : Int32} (hd : decode cc pc = .ok (.isub, 1))  (k : Go g own cc n rk d cv (pc + 1) lv (.int (x - y) :: st) μ o) : Go g own cc n rk d cv pc lv (.int y :: .int x :: st) μ o := by
  intro r hr p e s m args below meth c H locs ls R cells slots Q X hR hP hS hl hq
  exact lv_isub X.1 X.2.1 hd  (k r hr p e s m args below meth c H locs ls R cells slots Q X hR hP hS hl hq)
theorem g_imul {x y : Int32} (hd : decode cc pc = .ok (.imul, 1))  (k : Go g own cc n rk d cv (pc + 1) lv (.int (x * y) :: st) μ o) : Go g own cc n rk d cv pc lv (.int y :: .int x :: st) μ o := by
  intro r hr p e s m args below meth c H locs ls R cells slots Q X hR hP hS hl hq
  exact lv_imul X.1 X.2.1 hd  (k r hr p e s m args below meth c H locs ls R cells slots Q X hR hP hS hl hq)
theorem g_iand {x y : Int32} (hd : decode cc pc = .ok (.iand, 1))  (k : Go g own cc n rk d cv (pc + 1) lv (.int (x &&& y) :: st) μ o) : Go g own cc n rk d cv pc lv (.int y :: .int x :: st) μ o := by
  intro r hr p e s m args below meth c H locs ls R cells slots Q X hR hP hS hl hq
  exact lv_iand X.1 X.2.1 hd  (k r hr p e s m args below meth c H locs ls R cells slots Q X hR hP hS hl hq)
theorem g_ior {x y : Int32} (hd : decode cc pc = .ok (.ior, 1))  (k : Go g own cc n rk d cv (pc + 1) lv (.int (x ||| y) :: st) μ o) : Go g own cc n rk d cv pc lv (.int y :: .int x :: st) μ o := by
  intro r hr p e s m args below meth c H locs ls R cells slots Q X hR hP hS hl hq
  exact lv_ior X.1 X.2.1 hd  (k r hr p e s m args below meth c H locs ls R cells slots Q X hR hP hS hl hq)
theorem g_ishl {x y : Int32} (hd : decode cc pc = .ok (.ishl, 1))  (k : Go g own cc n rk d cv (pc + 1) lv (.int (x <<< (y &&& 31)) :: st) μ o) : Go g own cc n rk d cv pc lv (.int y :: .int x :: st) μ o := by
  intro r hr p e s m args below meth c H locs ls R cells slots Q X hR hP hS hl hq
  exact lv_ishl X.1 X.2.1 hd  (k r hr p e s m args below meth c H locs ls R cells slots Q X hR hP hS hl hq)
theorem g_ishr {x y : Int32} (hd : decode cc pc = .ok (.ishr, 1))  (k : Go g own cc n rk d cv (pc + 1) lv (.int (x >>> (y &&& 31)) :: st) μ o) : Go g own cc n rk d cv pc lv (.int y :: .int x :: st) μ o := by
  intro r hr p e s m args below meth c H locs ls R cells slots Q X hR hP hS hl hq
  exact lv_ishr X.1 X.2.1 hd  (k r hr p e s m args below meth c H locs ls R cells slots Q X hR hP hS hl hq)
theorem g_iushr {x y : Int32} (hd : decode cc pc = .ok (.iushr, 1))  (k : Go g own cc n rk d cv (pc + 1) lv (.int ((x.toUInt32 >>> (y.toUInt32 &&& Int32.toUInt32 31)).toInt32) :: st) μ o) : Go g own cc n rk d cv pc lv (.int y :: .int x :: st) μ o := by
  intro r hr p e s m args below meth c H locs ls R cells slots Q X hR hP hS hl hq
  exact lv_iushr X.1 X.2.1 hd rfl (k r hr p e s m args below meth c H locs ls R cells slots Q X hR hP hS hl hq)
theorem g_ineg {x : Int32} (hd : decode cc pc = .ok (.ineg, 1))  (k : Go g own cc n rk d cv (pc + 1) lv (.int (-x) :: st) μ o) : Go g own cc n rk d cv pc lv (.int x :: st) μ o := by
  intro r hr p e s m args below meth c H locs ls R cells slots Q X hR hP hS hl hq
  exact lv_ineg X.1 X.2.1 hd  (k r hr p e s m args below meth c H locs ls R cells slots Q X hR hP hS hl hq)
theorem g_lneg {x : Int64} (hd : decode cc pc = .ok (.lneg, 1))  (k : Go g own cc n rk d cv (pc + 1) lv (.long (-x) :: st) μ o) : Go g own cc n rk d cv pc lv (.long x :: st) μ o := by
  intro r hr p e s m args below meth c H locs ls R cells slots Q X hR hP hS hl hq
  exact lv_lneg X.1 X.2.1 hd  (k r hr p e s m args below meth c H locs ls R cells slots Q X hR hP hS hl hq)
theorem g_ladd {x y : Int64} (hd : decode cc pc = .ok (.ladd, 1))  (k : Go g own cc n rk d cv (pc + 1) lv (.long (x + y) :: st) μ o) : Go g own cc n rk d cv pc lv (.long y :: .long x :: st) μ o := by
  intro r hr p e s m args below meth c H locs ls R cells slots Q X hR hP hS hl hq
  exact lv_ladd X.1 X.2.1 hd  (k r hr p e s m args below meth c H locs ls R cells slots Q X hR hP hS hl hq)
theorem g_lsub {x y : Int64} (hd : decode cc pc = .ok (.lsub, 1))  (k : Go g own cc n rk d cv (pc + 1) lv (.long (x - y) :: st) μ o) : Go g own cc n rk d cv pc lv (.long y :: .long x :: st) μ o := by
  intro r hr p e s m args below meth c H locs ls R cells slots Q X hR hP hS hl hq
  exact lv_lsub X.1 X.2.1 hd  (k r hr p e s m args below meth c H locs ls R cells slots Q X hR hP hS hl hq)
theorem g_lmul {x y : Int64} (hd : decode cc pc = .ok (.lmul, 1))  (k : Go g own cc n rk d cv (pc + 1) lv (.long (x * y) :: st) μ o) : Go g own cc n rk d cv pc lv (.long y :: .long x :: st) μ o := by
  intro r hr p e s m args below meth c H locs ls R cells slots Q X hR hP hS hl hq
  exact lv_lmul X.1 X.2.1 hd  (k r hr p e s m args below meth c H locs ls R cells slots Q X hR hP hS hl hq)
theorem g_land {x y : Int64} (hd : decode cc pc = .ok (.land, 1))  (k : Go g own cc n rk d cv (pc + 1) lv (.long (x &&& y) :: st) μ o) : Go g own cc n rk d cv pc lv (.long y :: .long x :: st) μ o := by
  intro r hr p e s m args below meth c H locs ls R cells slots Q X hR hP hS hl hq
  exact lv_land X.1 X.2.1 hd  (k r hr p e s m args below meth c H locs ls R cells slots Q X hR hP hS hl hq)
theorem g_lor {x y : Int64} (hd : decode cc pc = .ok (.lor, 1))  (k : Go g own cc n rk d cv (pc + 1) lv (.long (x ||| y) :: st) μ o) : Go g own cc n rk d cv pc lv (.long y :: .long x :: st) μ o := by
  intro r hr p e s m args below meth c H locs ls R cells slots Q X hR hP hS hl hq
  exact lv_lor X.1 X.2.1 hd  (k r hr p e s m args below meth c H locs ls R cells slots Q X hR hP hS hl hq)
theorem g_lshl {x : Int64} {y : Int32} (hd : decode cc pc = .ok (.lshl, 1))  (k : Go g own cc n rk d cv (pc + 1) lv (.long (x <<< (y.toInt64 &&& 63)) :: st) μ o) : Go g own cc n rk d cv pc lv (.int y :: .long x :: st) μ o := by
  intro r hr p e s m args below meth c H locs ls R cells slots Q X hR hP hS hl hq
  exact lv_lshl X.1 X.2.1 hd rfl (k r hr p e s m args below meth c H locs ls R cells slots Q X hR hP hS hl hq)
theorem g_i2l {x : Int32} (hd : decode cc pc = .ok (.i2l, 1))  (k : Go g own cc n rk d cv (pc + 1) lv (.long x.toInt64 :: st) μ o) : Go g own cc n rk d cv pc lv (.int x :: st) μ o := by
  intro r hr p e s m args below meth c H locs ls R cells slots Q X hR hP hS hl hq
  exact lv_i2l X.1 X.2.1 hd rfl (k r hr p e s m args below meth c H locs ls R cells slots Q X hR hP hS hl hq)
theorem g_l2i {x : Int64} (hd : decode cc pc = .ok (.l2i, 1))  (k : Go g own cc n rk d cv (pc + 1) lv (.int x.toInt32 :: st) μ o) : Go g own cc n rk d cv pc lv (.long x :: st) μ o := by
  intro r hr p e s m args below meth c H locs ls R cells slots Q X hR hP hS hl hq
  exact lv_l2i X.1 X.2.1 hd rfl (k r hr p e s m args below meth c H locs ls R cells slots Q X hR hP hS hl hq)
theorem g_i2b {x : Int32} (hd : decode cc pc = .ok (.i2b, 1))  (k : Go g own cc n rk d cv (pc + 1) lv (.int x.toInt8.toInt32 :: st) μ o) : Go g own cc n rk d cv pc lv (.int x :: st) μ o := by
  intro r hr p e s m args below meth c H locs ls R cells slots Q X hR hP hS hl hq
  exact lv_i2b X.1 X.2.1 hd rfl (k r hr p e s m args below meth c H locs ls R cells slots Q X hR hP hS hl hq)
theorem g_i2s {x : Int32} (hd : decode cc pc = .ok (.i2s, 1))  (k : Go g own cc n rk d cv (pc + 1) lv (.int x.toInt16.toInt32 :: st) μ o) : Go g own cc n rk d cv pc lv (.int x :: st) μ o := by
  intro r hr p e s m args below meth c H locs ls R cells slots Q X hR hP hS hl hq
  exact lv_i2s X.1 X.2.1 hd rfl (k r hr p e s m args below meth c H locs ls R cells slots Q X hR hP hS hl hq)
theorem g_i2c {x : Int32} (hd : decode cc pc = .ok (.i2c, 1))  (k : Go g own cc n rk d cv (pc + 1) lv (.int ((x.toUInt32 % 65536).toInt32) :: st) μ o) : Go g own cc n rk d cv pc lv (.int x :: st) μ o := by
  intro r hr p e s m args below meth c H locs ls R cells slots Q X hR hP hS hl hq
  exact lv_i2c X.1 X.2.1 hd rfl (k r hr p e s m args below meth c H locs ls R cells slots Q X hR hP hS hl hq)
theorem g_lcmp {x y : Int64} (hd : decode cc pc = .ok (.lcmp, 1))  (k : Go g own cc n rk d cv (pc + 1) lv (.int (lg_cmp x y) :: st) μ o) : Go g own cc n rk d cv pc lv (.long y :: .long x :: st) μ o := by
  intro r hr p e s m args below meth c H locs ls R cells slots Q X hR hP hS hl hq
  exact W.lcmp X.1 X.2.1 hd  (k r hr p e s m args below meth c H locs ls R cells slots Q X hR hP hS hl hq)
theorem g_dup {va : Value} (hd : decode cc pc = .ok (.dup, 1)) (h1 : va.category = 1) (k : Go g own cc n rk d cv (pc + 1) lv (va :: va :: st) μ o) : Go g own cc n rk d cv pc lv (va :: st) μ o := by
  intro r hr p e s m args below meth c H locs ls R cells slots Q X hR hP hS hl hq
  exact lv_dup X.1 X.2.1 hd h1 (k r hr p e s m args below meth c H locs ls R cells slots Q X hR hP hS hl hq)
theorem g_pop {va : Value} (hd : decode cc pc = .ok (.pop, 1)) (h1 : va.category = 1) (k : Go g own cc n rk d cv (pc + 1) lv st μ o) : Go g own cc n rk d cv pc lv (va :: st) μ o := by
  intro r hr p e s m args below meth c H locs ls R cells slots Q X hR hP hS hl hq
  exact lv_pop X.1 X.2.1 hd h1 (k r hr p e s m args below meth c H locs ls R cells slots Q X hR hP hS hl hq)
theorem g_dup2 {va vb : Value} (hd : decode cc pc = .ok (.dup2, 1)) (h1 : va.category = 1) (h2 : vb.category = 1) (k : Go g own cc n rk d cv (pc + 1) lv (va :: vb :: va :: vb :: st) μ o) : Go g own cc n rk d cv pc lv (va :: vb :: st) μ o := by
  intro r hr p e s m args below meth c H locs ls R cells slots Q X hR hP hS hl hq
  exact lv_dup2_11 X.1 X.2.1 hd h1 h2 (k r hr p e s m args below meth c H locs ls R cells slots Q X hR hP hS hl hq)
theorem g_idiv {x y : Int32} (hd : decode cc pc = .ok (.idiv, 1)) (k : Go g own cc n rk d cv (pc + 1) lv (.int (x / y) :: st) μ o) : Go g own cc n rk d cv pc lv (.int y :: .int x :: st) μ (if y = 0 then none else o) := by
  intro r hr p e s m args below meth c H locs ls R cells slots Q X hR hP hS hl hq
  by_cases h : y = 0
  · rw [if_pos h] at hr; cases hr
  · rw [if_neg h] at hr
    exact lv_idiv X.1 X.2.1 hd h (k r hr p e s m args below meth c H locs ls R cells slots Q X hR hP hS hl hq)
theorem g_irem {x y : Int32} (hd : decode cc pc = .ok (.irem, 1)) (k : Go g own cc n rk d cv (pc + 1) lv (.int (x - x / y * y) :: st) μ o) : Go g own cc n rk d cv pc lv (.int y :: .int x :: st) μ (if y = 0 then none else o) := by
  intro r hr p e s m args below meth c H locs ls R cells slots Q X hR hP hS hl hq
  by_cases h : y = 0
  · rw [if_pos h] at hr; cases hr
  · rw [if_neg h] at hr
    exact lv_irem X.1 X.2.1 hd h (k r hr p e s m args below meth c H locs ls R cells slots Q X hR hP hS hl hq)
theorem g_ldiv {x y : Int64} (hd : decode cc pc = .ok (.ldiv, 1)) (k : Go g own cc n rk d cv (pc + 1) lv (.long (x / y) :: st) μ o) : Go g own cc n rk d cv pc lv (.long y :: .long x :: st) μ (if y = 0 then none else o) := by
  intro r hr p e s m args below meth c H locs ls R cells slots Q X hR hP hS hl hq
  by_cases h : y = 0
  · rw [if_pos h] at hr; cases hr
  · rw [if_neg h] at hr
    exact lv_ldiv X.1 X.2.1 hd h (k r hr p e s m args below meth c H locs ls R cells slots Q X hR hP hS hl hq)
theorem g_lrem {x y : Int64} (hd : decode cc pc = .ok (.lrem, 1)) (k : Go g own cc n rk d cv (pc + 1) lv (.long (x - x / y * y) :: st) μ o) : Go g own cc n rk d cv pc lv (.long y :: .long x :: st) μ (if y = 0 then none else o) := by
  intro r hr p e s m args below meth c H locs ls R cells slots Q X hR hP hS hl hq
  by_cases h : y = 0
  · rw [if_pos h] at hr; cases hr
  · rw [if_neg h] at hr
    exact lv_lrem X.1 X.2.1 hd h (k r hr p e s m args below meth c H locs ls R cells slots Q X hR hP hS hl hq)
theorem g_if_ne {x : Int32} {off : Int} {tgt : Nat} (hd : decode cc pc = .ok (.ifCond .ne off, 3)) (ht : (pc : Int) + off = (tgt : Int)) (kt : ¬ x = 0 → Go g own cc n rk d cv tgt lv st μ o2) (kf : x = 0 → Go g own cc n rk d cv (pc + 3) lv st μ o1) : Go g own cc n rk d cv pc lv (.int x :: st) μ (if x = 0 then o1 else o2) := by
  intro r hr p e s m args below meth c H locs ls R cells slots Q X hR hP hS hl hq
  by_cases h : x = 0
  · rw [if_pos h] at hr
    exact lv_if_ne X.1 X.2.1 hd ht (fun h2 => absurd h h2) (fun _ => kf h r hr p e s m args below meth c H locs ls R cells slots Q X hR hP hS hl hq)
  · rw [if_neg h] at hr
    exact lv_if_ne X.1 X.2.1 hd ht (fun _ => kt h r hr p e s m args below meth c H locs ls R cells slots Q X hR hP hS hl hq) (fun h2 => absurd h2 h)
theorem g_icmp_ne {x y : Int32} {off : Int} {tgt : Nat} (hd : decode cc pc = .ok (.if_icmp .ne off, 3)) (ht : (pc : Int) + off = (tgt : Int)) (kt : ¬ x = y → Go g own cc n rk d cv tgt lv st μ o2) (kf : x = y → Go g own cc n rk d cv (pc + 3) lv st μ o1) : Go g own cc n rk d cv pc lv (.int y :: .int x :: st) μ (if x = y then o1 else o2) := by
  intro r hr p e s m args below meth c H locs ls R cells slots Q X hR hP hS hl hq
  by_cases h : x = y
  · rw [if_pos h] at hr
    exact lv_icmp_ne X.1 X.2.1 hd ht (fun h2 => absurd h h2) (fun _ => kf h r hr p e s m args below meth c H locs ls R cells slots Q X hR hP hS hl hq)
  · rw [if_neg h] at hr
    exact lv_icmp_ne X.1 X.2.1 hd ht (fun _ => kt h r hr p e s m args below meth c H locs ls R cells slots Q X hR hP hS hl hq) (fun h2 => absurd h2 h)
theorem g_if_eq {x : Int32} {off : Int} {tgt : Nat} (hd : decode cc pc = .ok (.ifCond .eq off, 3)) (ht : (pc : Int) + off = (tgt : Int)) (kt : x = 0 → Go g own cc n rk d cv tgt lv st μ o1) (kf : ¬ x = 0 → Go g own cc n rk d cv (pc + 3) lv st μ o2) : Go g own cc n rk d cv pc lv (.int x :: st) μ (if x = 0 then o1 else o2) := by
  intro r hr p e s m args below meth c H locs ls R cells slots Q X hR hP hS hl hq
  by_cases h : x = 0
  · rw [if_pos h] at hr
    exact lv_if_eq X.1 X.2.1 hd ht (fun _ => kt h r hr p e s m args below meth c H locs ls R cells slots Q X hR hP hS hl hq) (fun h2 => absurd h h2)
  · rw [if_neg h] at hr
    exact lv_if_eq X.1 X.2.1 hd ht (fun h2 => absurd h2 h) (fun _ => kf h r hr p e s m args below meth c H locs ls R cells slots Q X hR hP hS hl hq)
theorem g_icmp_eq {x y : Int32} {off : Int} {tgt : Nat} (hd : decode cc pc = .ok (.if_icmp .eq off, 3)) (ht : (pc : Int) + off = (tgt : Int)) (kt : x = y → Go g own cc n rk d cv tgt lv st μ o1) (kf : ¬ x = y → Go g own cc n rk d cv (pc + 3) lv st μ o2) : Go g own cc n rk d cv pc lv (.int y :: .int x :: st) μ (if x = y then o1 else o2) := by
  intro r hr p e s m args below meth c H locs ls R cells slots Q X hR hP hS hl hq
  by_cases h : x = y
  · rw [if_pos h] at hr
    exact lv_icmp_eq X.1 X.2.1 hd ht (fun _ => kt h r hr p e s m args below meth c H locs ls R cells slots Q X hR hP hS hl hq) (fun h2 => absurd h h2)
  · rw [if_neg h] at hr
    exact lv_icmp_eq X.1 X.2.1 hd ht (fun h2 => absurd h2 h) (fun _ => kf h r hr p e s m args below meth c H locs ls R cells slots Q X hR hP hS hl hq)
theorem g_if_lt {x : Int32} {off : Int} {tgt : Nat} (hd : decode cc pc = .ok (.ifCond .lt off, 3)) (ht : (pc : Int) + off = (tgt : Int)) (kt : x < 0 → Go g own cc n rk d cv tgt lv st μ o1) (kf : ¬ x < 0 → Go g own cc n rk d cv (pc + 3) lv st μ o2) : Go g own cc n rk d cv pc lv (.int x :: st) μ (if x < 0 then o1 else o2) := by
  intro r hr p e s m args below meth c H locs ls R cells slots Q X hR hP hS hl hq
  by_cases h : x < 0
  · rw [if_pos h] at hr
    exact lv_if_lt X.1 X.2.1 hd ht (fun _ => kt h r hr p e s m args below meth c H locs ls R cells slots Q X hR hP hS hl hq) (fun h2 => absurd h h2)
  · rw [if_neg h] at hr
    exact lv_if_lt X.1 X.2.1 hd ht (fun h2 => absurd h2 h) (fun _ => kf h r hr p e s m args below meth c H locs ls R cells slots Q X hR hP hS hl hq)
theorem g_icmp_lt {x y : Int32} {off : Int} {tgt : Nat} (hd : decode cc pc = .ok (.if_icmp .lt off, 3)) (ht : (pc : Int) + off = (tgt : Int)) (kt : x < y → Go g own cc n rk d cv tgt lv st μ o1) (kf : ¬ x < y → Go g own cc n rk d cv (pc + 3) lv st μ o2) : Go g own cc n rk d cv pc lv (.int y :: .int x :: st) μ (if x < y then o1 else o2) := by
  intro r hr p e s m args below meth c H locs ls R cells slots Q X hR hP hS hl hq
  by_cases h : x < y
  · rw [if_pos h] at hr
    exact lv_icmp_lt X.1 X.2.1 hd ht (fun _ => kt h r hr p e s m args below meth c H locs ls R cells slots Q X hR hP hS hl hq) (fun h2 => absurd h h2)
  · rw [if_neg h] at hr
    exact lv_icmp_lt X.1 X.2.1 hd ht (fun h2 => absurd h2 h) (fun _ => kf h r hr p e s m args below meth c H locs ls R cells slots Q X hR hP hS hl hq)
theorem g_if_ge {x : Int32} {off : Int} {tgt : Nat} (hd : decode cc pc = .ok (.ifCond .ge off, 3)) (ht : (pc : Int) + off = (tgt : Int)) (kt : 0 ≤ x → Go g own cc n rk d cv tgt lv st μ o1) (kf : ¬ 0 ≤ x → Go g own cc n rk d cv (pc + 3) lv st μ o2) : Go g own cc n rk d cv pc lv (.int x :: st) μ (if 0 ≤ x then o1 else o2) := by
  intro r hr p e s m args below meth c H locs ls R cells slots Q X hR hP hS hl hq
  by_cases h : 0 ≤ x
  · rw [if_pos h] at hr
    exact lv_if_ge X.1 X.2.1 hd ht (fun _ => kt h r hr p e s m args below meth c H locs ls R cells slots Q X hR hP hS hl hq) (fun h2 => absurd h h2)
  · rw [if_neg h] at hr
    exact lv_if_ge X.1 X.2.1 hd ht (fun h2 => absurd h2 h) (fun _ => kf h r hr p e s m args below meth c H locs ls R cells slots Q X hR hP hS hl hq)
theorem g_icmp_ge {x y : Int32} {off : Int} {tgt : Nat} (hd : decode cc pc = .ok (.if_icmp .ge off, 3)) (ht : (pc : Int) + off = (tgt : Int)) (kt : y ≤ x → Go g own cc n rk d cv tgt lv st μ o1) (kf : ¬ y ≤ x → Go g own cc n rk d cv (pc + 3) lv st μ o2) : Go g own cc n rk d cv pc lv (.int y :: .int x :: st) μ (if y ≤ x then o1 else o2) := by
  intro r hr p e s m args below meth c H locs ls R cells slots Q X hR hP hS hl hq
  by_cases h : y ≤ x
  · rw [if_pos h] at hr
    exact lv_icmp_ge X.1 X.2.1 hd ht (fun _ => kt h r hr p e s m args below meth c H locs ls R cells slots Q X hR hP hS hl hq) (fun h2 => absurd h h2)
  · rw [if_neg h] at hr
    exact lv_icmp_ge X.1 X.2.1 hd ht (fun h2 => absurd h2 h) (fun _ => kf h r hr p e s m args below meth c H locs ls R cells slots Q X hR hP hS hl hq)
theorem g_if_gt {x : Int32} {off : Int} {tgt : Nat} (hd : decode cc pc = .ok (.ifCond .gt off, 3)) (ht : (pc : Int) + off = (tgt : Int)) (kt : 0 < x → Go g own cc n rk d cv tgt lv st μ o1) (kf : ¬ 0 < x → Go g own cc n rk d cv (pc + 3) lv st μ o2) : Go g own cc n rk d cv pc lv (.int x :: st) μ (if 0 < x then o1 else o2) := by
  intro r hr p e s m args below meth c H locs ls R cells slots Q X hR hP hS hl hq
  by_cases h : 0 < x
  · rw [if_pos h] at hr
    exact lv_if_gt X.1 X.2.1 hd ht (fun _ => kt h r hr p e s m args below meth c H locs ls R cells slots Q X hR hP hS hl hq) (fun h2 => absurd h h2)
  · rw [if_neg h] at hr
    exact lv_if_gt X.1 X.2.1 hd ht (fun h2 => absurd h2 h) (fun _ => kf h r hr p e s m args below meth c H locs ls R cells slots Q X hR hP hS hl hq)
theorem g_icmp_gt {x y : Int32} {off : Int} {tgt : Nat} (hd : decode cc pc = .ok (.if_icmp .gt off, 3)) (ht : (pc : Int) + off = (tgt : Int)) (kt : y < x → Go g own cc n rk d cv tgt lv st μ o1) (kf : ¬ y < x → Go g own cc n rk d cv (pc + 3) lv st μ o2) : Go g own cc n rk d cv pc lv (.int y :: .int x :: st) μ (if y < x then o1 else o2) := by
  intro r hr p e s m args below meth c H locs ls R cells slots Q X hR hP hS hl hq
  by_cases h : y < x
  · rw [if_pos h] at hr
    exact lv_icmp_gt X.1 X.2.1 hd ht (fun _ => kt h r hr p e s m args below meth c H locs ls R cells slots Q X hR hP hS hl hq) (fun h2 => absurd h h2)
  · rw [if_neg h] at hr
    exact lv_icmp_gt X.1 X.2.1 hd ht (fun h2 => absurd h2 h) (fun _ => kf h r hr p e s m args below meth c H locs ls R cells slots Q X hR hP hS hl hq)
theorem g_if_le {x : Int32} {off : Int} {tgt : Nat} (hd : decode cc pc = .ok (.ifCond .le off, 3)) (ht : (pc : Int) + off = (tgt : Int)) (kt : x ≤ 0 → Go g own cc n rk d cv tgt lv st μ o1) (kf : ¬ x ≤ 0 → Go g own cc n rk d cv (pc + 3) lv st μ o2) : Go g own cc n rk d cv pc lv (.int x :: st) μ (if x ≤ 0 then o1 else o2) := by
  intro r hr p e s m args below meth c H locs ls R cells slots Q X hR hP hS hl hq
  by_cases h : x ≤ 0
  · rw [if_pos h] at hr
    exact lv_if_le X.1 X.2.1 hd ht (fun _ => kt h r hr p e s m args below meth c H locs ls R cells slots Q X hR hP hS hl hq) (fun h2 => absurd h h2)
  · rw [if_neg h] at hr
    exact lv_if_le X.1 X.2.1 hd ht (fun h2 => absurd h2 h) (fun _ => kf h r hr p e s m args below meth c H locs ls R cells slots Q X hR hP hS hl hq)
theorem g_icmp_le {x y : Int32} {off : Int} {tgt : Nat} (hd : decode cc pc = .ok (.if_icmp .le off, 3)) (ht : (pc : Int) + off = (tgt : Int)) (kt : x ≤ y → Go g own cc n rk d cv tgt lv st μ o1) (kf : ¬ x ≤ y → Go g own cc n rk d cv (pc + 3) lv st μ o2) : Go g own cc n rk d cv pc lv (.int y :: .int x :: st) μ (if x ≤ y then o1 else o2) := by
  intro r hr p e s m args below meth c H locs ls R cells slots Q X hR hP hS hl hq
  by_cases h : x ≤ y
  · rw [if_pos h] at hr
    exact lv_icmp_le X.1 X.2.1 hd ht (fun _ => kt h r hr p e s m args below meth c H locs ls R cells slots Q X hR hP hS hl hq) (fun h2 => absurd h h2)
  · rw [if_neg h] at hr
    exact lv_icmp_le X.1 X.2.1 hd ht (fun h2 => absurd h2 h) (fun _ => kf h r hr p e s m args below meth c H locs ls R cells slots Q X hR hP hS hl hq)
theorem bI_0 {b : Bool} : bI b = 0 ↔ ¬ b = true := by cases b <;> decide
theorem g_ifeqB {b : Bool} {off : Int} {tgt : Nat} (hd : decode cc pc = .ok (.ifCond .eq off, 3)) (ht : (pc : Int) + off = (tgt : Int)) (kt : ¬ b = true → Go g own cc n rk d cv tgt lv st μ o2) (kf : b = true → Go g own cc n rk d cv (pc + 3) lv st μ o1) : Go g own cc n rk d cv pc lv (.int (bI b) :: st) μ (if b = true then o1 else o2) := by
  intro r hr p e s m args below meth c H locs ls R cells slots Q X hR hP hS hl hq
  by_cases h : b = true
  · rw [if_pos h] at hr
    exact lv_if_eq X.1 X.2.1 hd ht (fun h2 => absurd h (bI_0.mp h2)) (fun _ => kf h r hr p e s m args below meth c H locs ls R cells slots Q X hR hP hS hl hq)
  · rw [if_neg h] at hr
    exact lv_if_eq X.1 X.2.1 hd ht (fun _ => kt h r hr p e s m args below meth c H locs ls R cells slots Q X hR hP hS hl hq) (fun h2 => absurd (bI_0.mpr h) h2)
theorem bI_n0 {b : Bool} : ¬ bI b = 0 ↔ b = true := by cases b <;> decide
theorem g_ifneB {b : Bool} {off : Int} {tgt : Nat} (hd : decode cc pc = .ok (.ifCond .ne off, 3)) (ht : (pc : Int) + off = (tgt : Int)) (kt : b = true → Go g own cc n rk d cv tgt lv st μ o1) (kf : ¬ b = true → Go g own cc n rk d cv (pc + 3) lv st μ o2) : Go g own cc n rk d cv pc lv (.int (bI b) :: st) μ (if b = true then o1 else o2) := by
  intro r hr p e s m args below meth c H locs ls R cells slots Q X hR hP hS hl hq
  by_cases h : b = true
  · rw [if_pos h] at hr
    exact lv_if_ne X.1 X.2.1 hd ht (fun _ => kt h r hr p e s m args below meth c H locs ls R cells slots Q X hR hP hS hl hq) (fun h2 => absurd h2 (bI_n0.mpr h))
  · rw [if_neg h] at hr
    exact lv_if_ne X.1 X.2.1 hd ht (fun h2 => absurd (bI_n0.mp h2) h) (fun _ => kf h r hr p e s m args below meth c H locs ls R cells slots Q X hR hP hS hl hq)
theorem g_if {q : Prop} [Decidable q] (kt : q → Go g own cc n rk d cv pc lv st μ o1) (kf : ¬ q → Go g own cc n rk d cv pc lv st μ o2) : Go g own cc n rk d cv pc lv st μ (if q then o1 else o2) := by
  by_cases h : q
  · rw [if_pos h]; exact kt h
  · rw [if_neg h]; exact kf h
theorem g_goto {off : Int} {tgt : Nat} (hd : decode cc pc = .ok (.goto off, 3)) (ht : (pc : Int) + off = (tgt : Int)) (k : Go g own cc n rk d cv tgt lv st μ o) : Go g own cc n rk d cv pc lv st μ o := by
  intro r hr p e s m args below meth c H locs ls R cells slots Q X hR hP hS hl hq
  exact lv_goto X.1 X.2.1 hd ht (k r hr p e s m args below meth c H locs ls R cells slots Q X hR hP hS hl hq)
theorem g_tswIn {x : Int32} (v : Int32) {dflt lo hi off : Int} {offs : Array Int} {len tgt : Nat} (hd : decode cc pc = .ok (.tableswitch dflt lo hi offs, len)) (hx : x = v) (h1 : ¬ v.toInt < lo) (h2 : ¬ hi < v.toInt) (ho : offs[(v.toInt - lo).toNat]? = some off) (ht : (pc : Int) + off = (tgt : Int)) (k : Go g own cc n rk d cv tgt lv st μ o) : Go g own cc n rk d cv pc lv (.int x :: st) μ o := by
  intro r hr p e s m args below meth c H locs ls R cells slots Q X hR hP hS hl hq
  subst hx
  exact lv_tableIn X.1 X.2.1 hd h1 h2 ho ht (k r hr p e s m args below meth c H locs ls R cells slots Q X hR hP hS hl hq)
theorem g_tswOut {x : Int32} {dflt lo hi : Int} {offs : Array Int} {len tgt : Nat} (hd : decode cc pc = .ok (.tableswitch dflt lo hi offs, len)) (h : x.toInt < lo ∨ hi < x.toInt) (ht : (pc : Int) + dflt = (tgt : Int)) (k : Go g own cc n rk d cv tgt lv st μ o) : Go g own cc n rk d cv pc lv (.int x :: st) μ o := by
  intro r hr p e s m args below meth c H locs ls R cells slots Q X hR hP hS hl hq
  exact lv_tableOut X.1 X.2.1 hd h ht (k r hr p e s m args below meth c H locs ls R cells slots Q X hR hP hS hl hq)
theorem g_lookup {x : Int32} {dflt off : Int} {ps : Array (Int × Int)} {len tgt : Nat} (hd : decode cc pc = .ok (.lookupswitch dflt ps, len)) (hp : (ps.toList.zip (ps.toList.drop 1)).all (fun (a, next) => a.1 < next.1) = true) (ho : Op.lookupswitch.offset ps.toList dflt x.toInt = off) (ht : (pc : Int) + off = (tgt : Int)) (k : Go g own cc n rk d cv tgt lv st μ o) : Go g own cc n rk d cv pc lv (.int x :: st) μ o := by
  intro r hr p e s m args below meth c H locs ls R cells slots Q X hR hP hS hl hq
  exact lv_lookup X.1 X.2.1 hd hp ho ht (k r hr p e s m args below meth c H locs ls R cells slots Q X hR hP hS hl hq)
theorem g_ldc2 {i : Nat} {v : Int64} (hw : Cond.constantLong own i v ∈ lw_good) (hd : decode cc pc = .ok (.ldc2_w i, 3)) (k : Go g own cc n rk d cv (pc + 3) lv (.long v :: st) μ o) : Go g own cc n rk d cv pc lv st μ o := by
  intro r hr p e s m args below meth c H locs ls R cells slots Q X hR hP hS hl hq
  exact lv_ldc2 X.1 X.2.1 X.2.2.2.1 (X.2.2.2.2.1 _ hw) hd (k r hr p e s m args below meth c H locs ls R cells slots Q X hR hP hS hl hq)
theorem g_ldcw {i : Nat} {v : Int32} (hw : Cond.constant own i v ∈ lw_good) (hd : decode cc pc = .ok (.ldc_w i, 3)) (k : Go g own cc n rk d cv (pc + 3) lv (.int v :: st) μ o) : Go g own cc n rk d cv pc lv st μ o := by
  intro r hr p e s m args below meth c H locs ls R cells slots Q X hR hP hS hl hq
  exact lv_ldcw X.1 X.2.1 X.2.2.2.1 (X.2.2.2.2.1 _ hw) hd (k r hr p e s m args below meth c H locs ls R cells slots Q X hR hP hS hl hq)
theorem g_ldc {i : Nat} {v : Int32} (hw : Cond.constant own i v ∈ lw_good) (hd : decode cc pc = .ok (.ldc i, 2)) (k : Go g own cc n rk d cv (pc + 2) lv (.int v :: st) μ o) : Go g own cc n rk d cv pc lv st μ o := by
  intro r hr p e s m args below meth c H locs ls R cells slots Q X hR hP hS hl hq
  exact lv_ldc X.1 X.2.1 X.2.2.2.1 (X.2.2.2.2.1 _ hw) hd (k r hr p e s m args below meth c H locs ls R cells slots Q X hR hP hS hl hq)

def Fl (own : String) (idx ci k : Nat) (t : FieldType) (fin : Bool) : Prop := ∃ (C : String) (T : u_T) (N : Nat) (ty : Nat → FieldType), vwCl[ci]? = some (C, T, N) ∧ (∀ w ∈ u_ws C T N, w ∈ lw_good) ∧ (∀ j, j < N → parseFieldDescriptor (T j).2.2.1 = some (ty j)) ∧ (∀ a, a < N → ∀ b, b < N → a ≠ b → (T a).2.1 ≠ (T b).2.1) ∧ k < N ∧ ty k = t ∧ (T k).2.2.2 = fin ∧ nfd ci = N ∧ Cond.fieldLink own idx (T k).1 (T k).2.1 (T k).2.2.1 ∈ lw_good
theorem cell_ob {μ : Mm} {a ci w : Nat} (h : shp a = (10 + ci, w)) : cellE g μ a = .inr (ci, (List.range (nfd ci)).map (fval g μ ci a)) := by
  unfold cellE
  rw [h]
  have e : 10 + ci - 10 = ci := by omega
  have q : cellS g μ a (10 + ci, w) = .inr (10 + ci - 10, (List.range (nfd (10 + ci - 10))).map (fval g μ (10 + ci - 10) a)) := by
    rw [show 10 + ci = ci + 10 by omega]
    rfl
  rw [q, e]
theorem rng_at {α : Type} {f : Nat → α} {k N : Nat} (h : k < N) : ((List.range N).map f)[k]? = some (f k) := by
  rw [List.getElem?_map, List.getElem?_range h]
  rfl
theorem rng_set {α : Type} {f f' : Nat → α} {k N : Nat} {v : α} (hv : f' k = v) (ho : ∀ j, j ≠ k → f' j = f j) : ((List.range N).map f).set k v = (List.range N).map f' := by
  apply List.ext_getElem?
  intro j
  by_cases hj : j = k
  · subst hj
    by_cases hN : j < N
    · rw [List.getElem?_set_self (by rw [List.length_map, List.length_range]; exact hN), rng_at hN, hv]
    · rw [List.getElem?_eq_none (by rw [List.length_set, List.length_map, List.length_range]; omega), List.getElem?_eq_none (by rw [List.length_map, List.length_range]; omega)]
  · rw [List.getElem?_set_ne (Ne.symm hj)]
    by_cases hN : j < N
    · rw [rng_at hN, rng_at hN, ho j hj]
    · rw [List.getElem?_eq_none (by rw [List.length_map, List.length_range]; omega), List.getElem?_eq_none (by rw [List.length_map, List.length_range]; omega)]
theorem g_get {idx ci k a w : Nat} {t : FieldType} {fin : Bool} {v : Value} (F : Fl own idx ci k t fin) (hs : shp a = (10 + ci, w)) (hw : 10 + ci ≠ 99) (hv : fval g μ ci a k = v) (hd : decode cc pc = .ok (.getfield idx, 3)) (kk : Go g own cc n rk d cv (pc + 3) lv (v :: st) μ o) : Go g own cc n rk d cv pc lv (.ref (gb g + a) :: st) μ o := by
  intro r hr p e s m args below meth c H locs ls R cells slots Q X hR hP hS hl hq
  obtain ⟨C, T, N, ty, h1, h2, h3, h4, h5, h6, h7, h8, h9⟩ := F
  have hl0 : a < 157 := shp_lt hs hw
  refine va_get (v := v) X.1 X.2.1 X.2.2.2.2.1 h2 X.2.2.2.1 X.2.2.2.2.2.1 hP a (WL_atE g μ hl0 (cell_ob hs)) h1 k h5 (X.2.2.2.2.1 _ h9) (fun _ h => h) ?_ hd (kk r hr p e s m args below meth c H locs ls R cells slots Q X hR hP hS hl hq)
  rw [rng_at (by rw [h8]; exact h5), hv]
theorem fv_I {μ : Mm} {ci a k : Nat} (h : ftc ci k = 0) : fval g μ ci a k = .int (mI μ a k) := by unfold fval; rw [h]; rfl
theorem fv_J {μ : Mm} {ci a k : Nat} (h : ftc ci k = 1) : fval g μ ci a k = .long (mJ μ a k) := by unfold fval; rw [h]; rfl
theorem fv_R {μ : Mm} {ci a k b : Nat} (h : ftc ci k = 2) (hb : rfv μ ci a k = b) : fval g μ ci a k = .ref (gb g + b) := by unfold fval; rw [h, hb]; rfl
theorem g_getI {idx ci k a w : Nat} {t : FieldType} {fin : Bool} (F : Fl own idx ci k t fin) (hs : shp a = (10 + ci, w)) (hw : 10 + ci ≠ 99) (ht : ftc ci k = 0) (hd : decode cc pc = .ok (.getfield idx, 3)) (kk : Go g own cc n rk d cv (pc + 3) lv (.int (mI μ a k) :: st) μ o) : Go g own cc n rk d cv pc lv (.ref (gb g + a) :: st) μ o := g_get F hs hw (fv_I ht) hd kk
theorem g_getJ {idx ci k a w : Nat} {t : FieldType} {fin : Bool} (F : Fl own idx ci k t fin) (hs : shp a = (10 + ci, w)) (hw : 10 + ci ≠ 99) (ht : ftc ci k = 1) (hd : decode cc pc = .ok (.getfield idx, 3)) (kk : Go g own cc n rk d cv (pc + 3) lv (.long (mJ μ a k) :: st) μ o) : Go g own cc n rk d cv pc lv (.ref (gb g + a) :: st) μ o := g_get F hs hw (fv_J ht) hd kk
theorem g_getR {idx ci k a w b : Nat} {t : FieldType} {fin : Bool} (F : Fl own idx ci k t fin) (hs : shp a = (10 + ci, w)) (hw : 10 + ci ≠ 99) (ht : ftc ci k = 2) (hb : rfv μ ci a k = b) (hd : decode cc pc = .ok (.getfield idx, 3)) (kk : Go g own cc n rk d cv (pc + 3) lv (.ref (gb g + b) :: st) μ o) : Go g own cc n rk d cv pc lv (.ref (gb g + a) :: st) μ o := g_get F hs hw (fv_R ht hb) hd kk
theorem ce_ne {μ μ' : Mm} {j : Nat} (hI : mI μ' j = mI μ j) (hJ : mJ μ' j = mJ μ j) (hA : mA μ' j = mA μ j) (hL : mL μ' j = mL μ j) (hB : mB μ' j = mB μ j) (hR : ∀ ci k, rfv μ' ci j k = rfv μ ci j k) : cellE g μ' j = cellE g μ j := by
  have hf : ∀ ci, fval g μ' ci j = fval g μ ci j := fun ci => by
    funext k
    unfold fval
    rw [hI, hJ, hR]
  unfold cellE cellS
  rw [hA, hL, hB]
  simp only [hf]
theorem rf_eq {μ μ' : Mm} (h : mR μ' = mR μ) (ci j k : Nat) : rfv μ' ci j k = rfv μ ci j k := by
  unfold rfv
  split <;> first | rfl | (unfold rf6; rw [h]) | (unfold rf10; rw [h])
theorem up2_ne {α : Type} {f : Nat → Nat → α} {a k j : Nat} {x : α} (h : j ≠ a) : up2 f a k x j = f j := by funext i; unfold up2; rw [if_neg h]
theorem up2_eq {α : Type} {f : Nat → Nat → α} {a k : Nat} {x : α} (j : Nat) : up2 f a k x a j = if j = k then x else f a j := by unfold up2; rw [if_pos rfl]
theorem upr_ne {α : Type} {f : Nat → Nat → α} {a j : Nat} {x : Nat → α} (h : j ≠ a) : upr f a x j = f j := by unfold upr; rw [if_neg h]
theorem upr_eq {α : Type} {f : Nat → Nat → α} {a : Nat} {x : Nat → α} : upr f a x a = x := by unfold upr; rw [if_pos rfl]
theorem g_putv {idx ci k a w : Nat} {t : FieldType} {v : Value} (F : Fl own idx ci k t false) (hs : shp a = (10 + ci, w)) (hw : 10 + ci ≠ 99) (hn : narrow t v = v) (hf : fits t v = true) (hv : fval g μ' ci a k = v) (ho : ∀ j, j ≠ k → fval g μ' ci a j = fval g μ ci a j) (hc : ∀ j, j ≠ a → cellE g μ' j = cellE g μ j) (hd : decode cc pc = .ok (.putfield idx, 3)) (kk : Go g own cc n rk d cv (pc + 3) lv st μ' o) : Go g own cc n rk d cv pc lv (v :: .ref (gb g + a) :: st) μ o := by
  intro r hr p e s m args below meth c H locs ls R cells slots Q X hR hP hS hl hq
  obtain ⟨C, T, N, ty, h1, h2, h3, h4, h5, h6, h7, h8, h9⟩ := F
  have hl0 : a < 157 := shp_lt hs hw
  refine va_put X.1 X.2.1 X.2.2.2.2.1 h2 ty h3 h4 X.2.2.2.1 X.2.2.2.2.2.1 hP (WL_D g μ) hS a (WL_atE g μ hl0 (cell_ob hs)) h1 k h5 (X.2.2.2.2.1 _ h9) (fun _ h => h) h7 (h3 k h5) (by rw [h6]; exact hn) (by rw [h6]; exact hf) (by rw [List.length_map, List.length_range, h8]; exact h5) hd (fun H1 locs1 hP1 _ hS1 => ?_)
  rw [WL_set g μ μ' hl0 ((cell_ob hs).trans (congrArg (fun z => Sum.inr (ci, z)) (rng_set hv ho).symm)) hc] at hP1
  exact kk r hr p e s m args below meth c H1 locs1 ls R cells slots Q X hR hP1 hS1 hl hq
theorem g_putI {idx ci k a w : Nat} {x : Int32} (F : Fl own idx ci k .int false) (hs : shp a = (10 + ci, w)) (hw : 10 + ci ≠ 99) (ht : ftc ci k = 0) (hd : decode cc pc = .ok (.putfield idx, 3)) (kk : Go g own cc n rk d cv (pc + 3) lv st (sI μ a k x) o) : Go g own cc n rk d cv pc lv (.int x :: .ref (gb g + a) :: st) μ o := by
  refine g_putv (μ' := sI μ a k x) F hs hw rfl rfl ?_ (fun j hj => ?_) (fun j hj => ?_) hd kk
  · rw [fv_I ht]
    show Value.int (up2 μ.1 a k x a k) = _
    rw [up2_eq, if_pos rfl]
  · unfold fval
    rw [rf_eq (show mR (sI μ a k x) = mR μ from rfl)]
    show (match ftc ci j with | 0 => Value.int (up2 μ.1 a k x a j) | 1 => .long (mJ μ a j) | _ => _) = _
    rw [up2_eq, if_neg hj]
    rfl
  · exact ce_ne (up2_ne hj) rfl rfl rfl rfl (fun ci k2 => rf_eq (μ := μ) rfl ci j k2)
theorem g_putZ {idx ci k a w : Nat} {x : Int32} (F : Fl own idx ci k .boolean false) (hs : shp a = (10 + ci, w)) (hw : 10 + ci ≠ 99) (ht : ftc ci k = 0) (hd : decode cc pc = .ok (.putfield idx, 3)) (kk : Go g own cc n rk d cv (pc + 3) lv st (sI μ a k x) o) : Go g own cc n rk d cv pc lv (.int x :: .ref (gb g + a) :: st) μ (if x = 0 ∨ x = 1 then o else none) := by
  refine g_if (fun hx => ?_) (fun _ => g_none)
  refine g_putv (μ' := sI μ a k x) F hs hw ?_ ?_ ?_ (fun j hj => ?_) (fun j hj => ?_) hd kk
  · rcases hx with rfl | rfl <;> decide
  · rcases hx with rfl | rfl <;> decide
  · rw [fv_I ht]
    show Value.int (up2 μ.1 a k x a k) = _
    rw [up2_eq, if_pos rfl]
  · unfold fval
    rw [rf_eq (show mR (sI μ a k x) = mR μ from rfl)]
    show (match ftc ci j with | 0 => Value.int (up2 μ.1 a k x a j) | 1 => .long (mJ μ a j) | _ => _) = _
    rw [up2_eq, if_neg hj]
    rfl
  · exact ce_ne (up2_ne hj) rfl rfl rfl rfl (fun ci k2 => rf_eq (μ := μ) rfl ci j k2)
theorem g_putJ {idx ci k a w : Nat} {x : Int64} (F : Fl own idx ci k .long false) (hs : shp a = (10 + ci, w)) (hw : 10 + ci ≠ 99) (ht : ftc ci k = 1) (hd : decode cc pc = .ok (.putfield idx, 3)) (kk : Go g own cc n rk d cv (pc + 3) lv st (sJ μ a k x) o) : Go g own cc n rk d cv pc lv (.long x :: .ref (gb g + a) :: st) μ o := by
  refine g_putv (μ' := sJ μ a k x) F hs hw rfl rfl ?_ (fun j hj => ?_) (fun j hj => ?_) hd kk
  · rw [fv_J ht]
    show Value.long (up2 μ.2.1 a k x a k) = _
    rw [up2_eq, if_pos rfl]
  · unfold fval
    rw [rf_eq (show mR (sJ μ a k x) = mR μ from rfl)]
    show (match ftc ci j with | 0 => Value.int (mI μ a j) | 1 => .long (up2 μ.2.1 a k x a j) | _ => _) = _
    rw [up2_eq, if_neg hj]
    rfl
  · exact ce_ne rfl (up2_ne hj) rfl rfl rfl (fun ci k2 => rf_eq (μ := μ) rfl ci j k2)
/-- a reference that moves: field k of cell a is place q of mR -/
theorem g_putR {idx ci k a w q b : Nat} {t : FieldType} (F : Fl own idx ci k t false) (hs : shp a = (10 + ci, w)) (hw : 10 + ci ≠ 99) (ht : ftc ci k = 2) (hn : narrow t (.ref (gb g + b)) = .ref (gb g + b)) (hf : fits t (.ref (gb g + b)) = true) (hq0 : ∀ ν : Mm, rfv ν ci a k = mR ν q) (hq1 : ∀ j, j ≠ k → rfv (sR μ q b) ci a j = rfv μ ci a j) (hq2 : ∀ j, j ≠ a → cellE g (sR μ q b) j = cellE g μ j) (hd : decode cc pc = .ok (.putfield idx, 3)) (kk : Go g own cc n rk d cv (pc + 3) lv st (sR μ q b) o) : Go g own cc n rk d cv pc lv (.ref (gb g + b) :: .ref (gb g + a) :: st) μ o := by
  refine g_putv (μ' := sR μ q b) F hs hw hn hf ?_ (fun j hj => ?_) hq2 hd kk
  · refine fv_R ht ((hq0 _).trans ?_)
    show up1 μ.2.2.2.2.2 q b q = b
    unfold up1
    rw [if_pos rfl]
  · unfold fval
    rw [hq1 j hj]
    rfl

/-- rows: reading and writing a place -/
def rdA (μ : Mm) (a N : Nat) (i : Int32) : Option Int32 := if i < 0 ∨ N ≤ i.toNatClampNeg then none else some (mA μ a i.toNatClampNeg)
def rdL (μ : Mm) (a N : Nat) (i : Int32) : Option Int64 := if i < 0 ∨ N ≤ i.toNatClampNeg then none else some (mL μ a i.toNatClampNeg)
def rdB (μ : Mm) (a N : Nat) (i : Int32) : Option Int32 := if i < 0 ∨ N ≤ i.toNatClampNeg then none else some (mB μ a i.toNatClampNeg)
def rdE (a N : Nat) (i : Int32) : Option Nat := if i < 0 ∨ N ≤ i.toNatClampNeg then none else some (elm a i.toNatClampNeg)
def rdX (f : Nat → Int32) (N : Nat) (i : Int32) : Option Int32 := if i < 0 ∨ N ≤ i.toNatClampNeg then none else some (f i.toNatClampNeg)
def wrA (μ : Mm) (a N : Nat) (i : Int32) (x : Int32) : Option Mm := if i < 0 ∨ N ≤ i.toNatClampNeg then none else some (sA μ a i.toNatClampNeg x)
def wrL (μ : Mm) (a N : Nat) (i : Int32) (x : Int64) : Option Mm := if i < 0 ∨ N ≤ i.toNatClampNeg then none else some (sL μ a i.toNatClampNeg x)
def wrB (μ : Mm) (a N : Nat) (i : Int32) (x : Int32) : Option Mm := if i < 0 ∨ N ≤ i.toNatClampNeg then none else some (sB μ a i.toNatClampNeg (vp_nar .byte x))
theorem cell_A {μ : Mm} {a N : Nat} (h : shp a = (0, N)) : cellE g μ a = .inl (gc g 0, N, .inl (mA μ a)) := by unfold cellE; rw [h]; rfl
theorem cell_L {μ : Mm} {a N : Nat} (h : shp a = (1, N)) : cellE g μ a = .inl (gc g 1, N, .inr (.inl (mL μ a))) := by unfold cellE; rw [h]; rfl
theorem cell_B {μ : Mm} {a N : Nat} (h : shp a = (2, N)) : cellE g μ a = .inl (gc g 2, N, .inl (mB μ a)) := by unfold cellE; rw [h]; rfl
theorem cell_3 {μ : Mm} {a N : Nat} (h : shp a = (3, N)) : cellE g μ a = .inl (gc g 3, N, .inr (.inr (.inr (.inr (fun j => some (gb g + elm a j)))))) := by unfold cellE; rw [h]; rfl
theorem cell_4 {μ : Mm} {a N : Nat} (h : shp a = (4, N)) : cellE g μ a = .inl (gc g 4, N, .inr (.inr (.inr (.inr (fun j => some (gb g + elm a j)))))) := by unfold cellE; rw [h]; rfl
theorem cell_5 {μ : Mm} {a N : Nat} (h : shp a = (5, N)) : cellE g μ a = .inl (gc g 5, N, .inr (.inr (.inr (.inr (fun j => some (gb g + elm a j)))))) := by unfold cellE; rw [h]; rfl
theorem cell_6 {μ : Mm} {a N : Nat} (h : shp a = (6, N)) : cellE g μ a = .inl (gc g 6, N, .inr (.inr (.inr (.inr (fun j => some (gb g + elm a j)))))) := by unfold cellE; rw [h]; rfl

theorem g_iaload {a N : Nat} {i : Int32} {f : Int32 → Option ρ} (hs : shp a = (0, N)) (hd : decode cc pc = .ok (.iaload, 1)) (kk : ∀ x : Int32, Go g own cc n rk d cv (pc + 1) lv (.int x :: st) μ (f x)) : Go g own cc n rk d cv pc lv (.int i :: .ref (gb g + a) :: st) μ ((rdA μ a N i).bind f) := by
  intro r hr p e s m args below meth c H locs ls R cells slots Q X hR hP hS hl hq
  unfold rdA at hr
  by_cases h : i < 0 ∨ N ≤ i.toNatClampNeg
  · rw [if_pos h] at hr; cases hr
  rw [if_neg h] at hr
  exact va_iald X.1 X.2.1 X.2.2.2.2.2.1 hP a 0 (WL_atE g μ (shp_lt hs (by simp)) (cell_A hs)) rfl h hd (kk _ r hr p e s m args below meth c H locs ls R cells slots Q X hR hP hS hl hq)
theorem g_laload {a N : Nat} {i : Int32} {f : Int64 → Option ρ} (hs : shp a = (1, N)) (hd : decode cc pc = .ok (.laload, 1)) (kk : ∀ x : Int64, Go g own cc n rk d cv (pc + 1) lv (.long x :: st) μ (f x)) : Go g own cc n rk d cv pc lv (.int i :: .ref (gb g + a) :: st) μ ((rdL μ a N i).bind f) := by
  intro r hr p e s m args below meth c H locs ls R cells slots Q X hR hP hS hl hq
  unfold rdL at hr
  by_cases h : i < 0 ∨ N ≤ i.toNatClampNeg
  · rw [if_pos h] at hr; cases hr
  rw [if_neg h] at hr
  exact va_lald X.1 X.2.1 X.2.2.2.2.2.1 hP a 1 (WL_atE g μ (shp_lt hs (by simp)) (cell_L hs)) rfl h hd (kk _ r hr p e s m args below meth c H locs ls R cells slots Q X hR hP hS hl hq)
theorem g_baload {a N : Nat} {i : Int32} {f : Int32 → Option ρ} (hs : shp a = (2, N)) (hd : decode cc pc = .ok (.baload, 1)) (kk : ∀ x : Int32, Go g own cc n rk d cv (pc + 1) lv (.int x :: st) μ (f x)) : Go g own cc n rk d cv pc lv (.int i :: .ref (gb g + a) :: st) μ ((rdB μ a N i).bind f) := by
  intro r hr p e s m args below meth c H locs ls R cells slots Q X hR hP hS hl hq
  unfold rdB at hr
  by_cases h : i < 0 ∨ N ≤ i.toNatClampNeg
  · rw [if_pos h] at hr; cases hr
  rw [if_neg h] at hr
  exact va_bald X.1 X.2.1 X.2.2.2.2.2.1 hP a 2 (WL_atE g μ (shp_lt hs (by simp)) (cell_B hs)) rfl h hd (kk _ r hr p e s m args below meth c H locs ls R cells slots Q X hR hP hS hl hq)
theorem g_iastore {a N : Nat} {i : Int32} {x : Int32} {f : Mm → Option ρ} (hs : shp a = (0, N)) (hd : decode cc pc = .ok (.iastore, 1)) (kk : ∀ μ' : Mm, Go g own cc n rk d cv (pc + 1) lv st μ' (f μ')) : Go g own cc n rk d cv pc lv (.int x :: .int i :: .ref (gb g + a) :: st) μ ((wrA μ a N i x).bind f) := by
  intro r hr p e s m args below meth c H locs ls R cells slots Q X hR hP hS hl hq
  unfold wrA at hr
  by_cases h : i < 0 ∨ N ≤ i.toNatClampNeg
  · rw [if_pos h] at hr; cases hr
  rw [if_neg h] at hr
  refine va_iast X.1 X.2.1 X.2.2.2.2.2.1 hP (WL_D g μ) hS a 0 (WL_atE g μ (shp_lt hs (by simp)) (cell_A hs)) rfl h hd (fun H1 locs1 hP1 _ hS1 => ?_)
  have hE : cellE g (sA μ a i.toNatClampNeg x) a = (fun z => (Sum.inl (gc g 0, N, Sum.inl z) : va_E)) (upd (mA μ a) i.toNatClampNeg x) := by
    rw [cell_A hs]
    refine congrArg (fun z => (Sum.inl (gc g 0, N, Sum.inl z) : va_E)) (funext fun j => ?_)
    show up2 μ.2.2.1 a i.toNatClampNeg x a j = _
    rw [up2_eq]
    rfl
  rw [WL_set g μ (sA μ a i.toNatClampNeg x) (shp_lt hs (by simp)) hE (fun j hj => ce_ne rfl rfl (up2_ne hj) rfl rfl (fun ci k2 => rf_eq (μ := μ) rfl ci j k2))] at hP1
  exact kk _ r hr p e s m args below meth c H1 locs1 ls R cells slots Q X hR hP1 hS1 hl hq
theorem g_lastore {a N : Nat} {i : Int32} {x : Int64} {f : Mm → Option ρ} (hs : shp a = (1, N)) (hd : decode cc pc = .ok (.lastore, 1)) (kk : ∀ μ' : Mm, Go g own cc n rk d cv (pc + 1) lv st μ' (f μ')) : Go g own cc n rk d cv pc lv (.long x :: .int i :: .ref (gb g + a) :: st) μ ((wrL μ a N i x).bind f) := by
  intro r hr p e s m args below meth c H locs ls R cells slots Q X hR hP hS hl hq
  unfold wrL at hr
  by_cases h : i < 0 ∨ N ≤ i.toNatClampNeg
  · rw [if_pos h] at hr; cases hr
  rw [if_neg h] at hr
  refine va_last X.1 X.2.1 X.2.2.2.2.2.1 hP (WL_D g μ) hS a 1 (WL_atE g μ (shp_lt hs (by simp)) (cell_L hs)) rfl h hd (fun H1 locs1 hP1 _ hS1 => ?_)
  have hE : cellE g (sL μ a i.toNatClampNeg x) a = (fun z => (Sum.inl (gc g 1, N, Sum.inr (Sum.inl z)) : va_E)) (vp_updL (mL μ a) i.toNatClampNeg x) := by
    rw [cell_L hs]
    refine congrArg (fun z => (Sum.inl (gc g 1, N, Sum.inr (Sum.inl z)) : va_E)) (funext fun j => ?_)
    show up2 μ.2.2.2.1 a i.toNatClampNeg x a j = _
    rw [up2_eq]
    rfl
  rw [WL_set g μ (sL μ a i.toNatClampNeg x) (shp_lt hs (by simp)) hE (fun j hj => ce_ne rfl rfl rfl (up2_ne hj) rfl (fun ci k2 => rf_eq (μ := μ) rfl ci j k2))] at hP1
  exact kk _ r hr p e s m args below meth c H1 locs1 ls R cells slots Q X hR hP1 hS1 hl hq
theorem g_bastore {a N : Nat} {i : Int32} {x : Int32} {f : Mm → Option ρ} (hs : shp a = (2, N)) (hd : decode cc pc = .ok (.bastore, 1)) (kk : ∀ μ' : Mm, Go g own cc n rk d cv (pc + 1) lv st μ' (f μ')) : Go g own cc n rk d cv pc lv (.int x :: .int i :: .ref (gb g + a) :: st) μ ((wrB μ a N i x).bind f) := by
  intro r hr p e s m args below meth c H locs ls R cells slots Q X hR hP hS hl hq
  unfold wrB at hr
  by_cases h : i < 0 ∨ N ≤ i.toNatClampNeg
  · rw [if_pos h] at hr; cases hr
  rw [if_neg h] at hr
  refine va_bast X.1 X.2.1 X.2.2.2.2.2.1 hP (WL_D g μ) hS a 2 (WL_atE g μ (shp_lt hs (by simp)) (cell_B hs)) rfl h hd (fun H1 locs1 hP1 _ hS1 => ?_)
  have hE : cellE g (sB μ a i.toNatClampNeg (vp_nar .byte x)) a = (fun z => (Sum.inl (gc g 2, N, Sum.inl z) : va_E)) (upd (mB μ a) i.toNatClampNeg (vp_nar .byte x)) := by
    rw [cell_B hs]
    refine congrArg (fun z => (Sum.inl (gc g 2, N, Sum.inl z) : va_E)) (funext fun j => ?_)
    show up2 μ.2.2.2.2.1 a i.toNatClampNeg (vp_nar .byte x) a j = _
    rw [up2_eq]
    rfl
  rw [WL_set g μ (sB μ a i.toNatClampNeg (vp_nar .byte x)) (shp_lt hs (by simp)) hE (fun j hj => ce_ne rfl rfl rfl rfl (up2_ne hj) (fun ci k2 => rf_eq (μ := μ) rfl ci j k2))] at hP1
  exact kk _ r hr p e s m args below meth c H1 locs1 ls R cells slots Q X hR hP1 hS1 hl hq
theorem g_aaload3 {a N : Nat} {i : Int32} {f : Nat → Option ρ} (hs : shp a = (3, N)) (hd : decode cc pc = .ok (.aaload, 1)) (kk : ∀ x : Nat, rdE a N i = some x → Go g own cc n rk d cv (pc + 1) lv (.ref (gb g + x) :: st) μ (f x)) : Go g own cc n rk d cv pc lv (.int i :: .ref (gb g + a) :: st) μ ((rdE a N i).bind f) := by
  intro r hr p e s m args below meth c H locs ls R cells slots Q X hR hP hS hl hq
  by_cases h : i < 0 ∨ N ≤ i.toNatClampNeg
  · unfold rdE at hr; rw [if_pos h] at hr; cases hr
  have he : rdE a N i = some (elm a i.toNatClampNeg) := by unfold rdE; rw [if_neg h]
  rw [he] at hr
  have hlt : i.toNatClampNeg < N := Nat.not_le.mp fun q => h (Or.inr q)
  exact W.aald (v := .ref (gb g + elm a i.toNatClampNeg)) (ty := .object RX0) X.1 X.2.1 (hP a _ (WL_atE g μ (shp_lt hs (by simp)) (cell_3 hs))) ((X.2.2.2.2.2.1.2 3 _ rfl).1 N (fun j => va_rf (some (gb g + elm a j)))) rfl (fun q => by cases q) (by show ¬ (i < 0 ∨ (arrV _ _ _).slots.size ≤ _); rw [arrV_size]; exact h) (by show (arrV _ _ _).slots[_]? = _; rw [arrV_read _ _ hlt]; rfl) rfl rfl hd (kk _ he r hr p e s m args below meth c H locs ls R cells slots Q X hR hP hS hl hq)
theorem g_aaload4 {a N : Nat} {i : Int32} {f : Nat → Option ρ} (hs : shp a = (4, N)) (hd : decode cc pc = .ok (.aaload, 1)) (kk : ∀ x : Nat, rdE a N i = some x → Go g own cc n rk d cv (pc + 1) lv (.ref (gb g + x) :: st) μ (f x)) : Go g own cc n rk d cv pc lv (.int i :: .ref (gb g + a) :: st) μ ((rdE a N i).bind f) := by
  intro r hr p e s m args below meth c H locs ls R cells slots Q X hR hP hS hl hq
  by_cases h : i < 0 ∨ N ≤ i.toNatClampNeg
  · unfold rdE at hr; rw [if_pos h] at hr; cases hr
  have he : rdE a N i = some (elm a i.toNatClampNeg) := by unfold rdE; rw [if_neg h]
  rw [he] at hr
  have hlt : i.toNatClampNeg < N := Nat.not_le.mp fun q => h (Or.inr q)
  exact W.aald (v := .ref (gb g + elm a i.toNatClampNeg)) (ty := .object RX5) X.1 X.2.1 (hP a _ (WL_atE g μ (shp_lt hs (by simp)) (cell_4 hs))) ((X.2.2.2.2.2.1.2 4 _ rfl).1 N (fun j => va_rf (some (gb g + elm a j)))) rfl (fun q => by cases q) (by show ¬ (i < 0 ∨ (arrV _ _ _).slots.size ≤ _); rw [arrV_size]; exact h) (by show (arrV _ _ _).slots[_]? = _; rw [arrV_read _ _ hlt]; rfl) rfl rfl hd (kk _ he r hr p e s m args below meth c H locs ls R cells slots Q X hR hP hS hl hq)
theorem g_aaload5 {a N : Nat} {i : Int32} {f : Nat → Option ρ} (hs : shp a = (5, N)) (hd : decode cc pc = .ok (.aaload, 1)) (kk : ∀ x : Nat, rdE a N i = some x → Go g own cc n rk d cv (pc + 1) lv (.ref (gb g + x) :: st) μ (f x)) : Go g own cc n rk d cv pc lv (.int i :: .ref (gb g + a) :: st) μ ((rdE a N i).bind f) := by
  intro r hr p e s m args below meth c H locs ls R cells slots Q X hR hP hS hl hq
  by_cases h : i < 0 ∨ N ≤ i.toNatClampNeg
  · unfold rdE at hr; rw [if_pos h] at hr; cases hr
  have he : rdE a N i = some (elm a i.toNatClampNeg) := by unfold rdE; rw [if_neg h]
  rw [he] at hr
  have hlt : i.toNatClampNeg < N := Nat.not_le.mp fun q => h (Or.inr q)
  exact W.aald (v := .ref (gb g + elm a i.toNatClampNeg)) (ty := .array .int) X.1 X.2.1 (hP a _ (WL_atE g μ (shp_lt hs (by simp)) (cell_5 hs))) ((X.2.2.2.2.2.1.2 5 _ rfl).1 N (fun j => va_rf (some (gb g + elm a j)))) rfl (fun q => by cases q) (by show ¬ (i < 0 ∨ (arrV _ _ _).slots.size ≤ _); rw [arrV_size]; exact h) (by show (arrV _ _ _).slots[_]? = _; rw [arrV_read _ _ hlt]; rfl) rfl rfl hd (kk _ he r hr p e s m args below meth c H locs ls R cells slots Q X hR hP hS hl hq)
theorem g_aaload6 {a N : Nat} {i : Int32} {f : Nat → Option ρ} (hs : shp a = (6, N)) (hd : decode cc pc = .ok (.aaload, 1)) (kk : ∀ x : Nat, rdE a N i = some x → Go g own cc n rk d cv (pc + 1) lv (.ref (gb g + x) :: st) μ (f x)) : Go g own cc n rk d cv pc lv (.int i :: .ref (gb g + a) :: st) μ ((rdE a N i).bind f) := by
  intro r hr p e s m args below meth c H locs ls R cells slots Q X hR hP hS hl hq
  by_cases h : i < 0 ∨ N ≤ i.toNatClampNeg
  · unfold rdE at hr; rw [if_pos h] at hr; cases hr
  have he : rdE a N i = some (elm a i.toNatClampNeg) := by unfold rdE; rw [if_neg h]
  rw [he] at hr
  have hlt : i.toNatClampNeg < N := Nat.not_le.mp fun q => h (Or.inr q)
  exact W.aald (v := .ref (gb g + elm a i.toNatClampNeg)) (ty := .array .long) X.1 X.2.1 (hP a _ (WL_atE g μ (shp_lt hs (by simp)) (cell_6 hs))) ((X.2.2.2.2.2.1.2 6 _ rfl).1 N (fun j => va_rf (some (gb g + elm a j)))) rfl (fun q => by cases q) (by show ¬ (i < 0 ∨ (arrV _ _ _).slots.size ≤ _); rw [arrV_size]; exact h) (by show (arrV _ _ _).slots[_]? = _; rw [arrV_read _ _ hlt]; rfl) rfl rfl hd (kk _ he r hr p e s m args below meth c H locs ls R cells slots Q X hR hP hS hl hq)
theorem g_static {nm host : String} {idx q : Nat} (hn : (nm, q) = ("WAY_TO_PLACE", gW g) ∨ (nm, q) = ("TENS", gT g)) (hw : Cond.fieldLinkNest own idx "SumsNightwatch" nm "[I" host ∈ lw_tbl) (hd : decode cc pc = .ok (.getstatic idx, 3)) (kk : Go g own cc n rk d cv (pc + 3) lv (.ref q :: st) μ o) : Go g own cc n rk d cv pc lv st μ o := by
  intro r hr p e s m args below meth c H locs ls R cells slots Q X hR hP hS hl hq
  have hN := X.2.2.2.2.2.2.2.2.2 _ hw rfl
  rcases hn with hn | hn <;> cases hn
  · exact va_getsN X.1 X.2.1 X.2.2.2.2.2.2.1.1 hS X.2.2.2.1 (va_Nw.use rfl hN) (fun _ h => h) hd (kk r hr p e s m args below meth c H locs ls R cells slots Q X hR hP hS hl hq)
  · exact va_getsN X.1 X.2.1 X.2.2.2.2.2.2.1.2 hS X.2.2.2.1 (va_Nw.use rfl hN) (fun _ h => h) hd (kk r hr p e s m args below meth c H locs ls R cells slots Q X hR hP hS hl hq)
theorem g_wayld {i : Int32} {f : Int32 → Option ρ} (hd : decode cc pc = .ok (.iaload, 1)) (kk : ∀ x : Int32, Go g own cc n rk d cv (pc + 1) lv (.int x :: st) μ (f x)) : Go g own cc n rk d cv pc lv (.int i :: .ref (gW g) :: st) μ ((rdX xW 5 i).bind f) := by
  intro r hr p e s m args below meth c H locs ls R cells slots Q X hR hP hS hl hq
  unfold rdX at hr
  by_cases h : i < 0 ∨ 5 ≤ i.toNatClampNeg
  · rw [if_pos h] at hr; cases hr
  rw [if_neg h] at hr
  obtain ⟨-, ⟨x1, x2⟩, ⟨b1, b2, b3⟩, -⟩ := X.2.2.2.2.2.2
  exact va_sld X.1 X.2.1 x1 (Nat.lt_of_lt_of_le b1 b3) (fun q => Nat.lt_irrefl _ (Nat.lt_of_lt_of_le b1 q)) hS h hd (kk _ r hr p e s m args below meth c H locs ls R cells slots Q X hR hP hS hl hq)
theorem g_tenld {i : Int32} {f : Int32 → Option ρ} (hd : decode cc pc = .ok (.iaload, 1)) (kk : ∀ x : Int32, Go g own cc n rk d cv (pc + 1) lv (.int x :: st) μ (f x)) : Go g own cc n rk d cv pc lv (.int i :: .ref (gT g) :: st) μ ((rdX xT 6 i).bind f) := by
  intro r hr p e s m args below meth c H locs ls R cells slots Q X hR hP hS hl hq
  unfold rdX at hr
  by_cases h : i < 0 ∨ 6 ≤ i.toNatClampNeg
  · rw [if_pos h] at hr; cases hr
  rw [if_neg h] at hr
  obtain ⟨-, ⟨x1, x2⟩, ⟨b1, b2, b3⟩, -⟩ := X.2.2.2.2.2.2
  exact va_sld X.1 X.2.1 x2 (Nat.lt_of_lt_of_le b2 b3) (fun q => Nat.lt_irrefl _ (Nat.lt_of_lt_of_le b2 q)) hS h hd (kk _ r hr p e s m args below meth c H locs ls R cells slots Q X hR hP hS hl hq)

theorem good_self {w : Cond} (h : w ∈ lw_good) : GoodIn lw_good (w :: lw_good) := by
  have k : ∀ z ∈ lw_good, z ∈ lw_good ∧ ((z.onTables && z.keeps) = true ∨ ∃ ty, z = .arrayClass ty) := fun z hz => ⟨hz, good_of_word (List.mem_filter.mp hz).2⟩
  intro z hz
  rcases List.mem_cons.mp hz with rfl | hz
  · exact k _ h
  · exact k _ hz
theorem g_of_run {p : Program} {e : Env} {s : State} {m : MethodId} {args : Array Value} {below : List Frame} {meth : Method} {c : Code} {H : Heap} {locs : List Loc} {ls : Array Slot} {R : Room} {cells slots : Nat} {Q : State → Prop} {st0 rest : List Value} {v0 : Option Value}
    (hrun : va_Run p g.1 e R s m args below meth c H locs cells slots 0 0 (F0 m pc ls st0) rest (fun st oc t => oc = .returned v0 ∧ HP g μ' t.heap ∧ va_F (gA g) st t) (gA g)) (hS : va_S (gA g) s.heap H locs)
    (kk : ∀ (H1 : Heap) (locs1 : List Loc), HP g μ' H1 → va_S (gA g) s.heap H1 locs1 → W p g.1 e R s m args below meth c H1 locs1 cells slots Q (F0 m (pc + 3) ls (v0.toList ++ rest))) : W p g.1 e R s m args below meth c H locs cells slots Q (F0 m pc ls st0) := by
  intro T hT X
  obtain ⟨v, st₀, t, T', L, h0, X', hL, e1, e2, ⟨hv, hp, hz, hk⟩, st⟩ := hrun T hT X
  cases hv
  rw [h0] at hz hk
  obtain ⟨t2, a1, b1⟩ := kk T'.heap (locs ++ L) (by rw [e1]; exact hp) ⟨Nat.le_trans hS.1 (by rw [e1]; exact hz), fun q h1 h2 => by rw [e1, hk q (Nat.lt_of_lt_of_le h1 hS.1) h2]; exact hS.2.1 q h1 h2, fun q hq => by
      rcases List.mem_append.mp hq with h | h
      · exact hS.2.2 q h
      · exact hL q h⟩ T' rfl X'
  exact ⟨t2, st t2 a1, b1⟩
def MyV (ci : Nat) (y : MethodName) (c2 : ByteArray) (n2 : Nat) (ret : Option FieldType) (np : Nat) : Prop := Cond.instanceMethod y ∈ lw_good ∧ Cond.selects y.cls y y ∈ lw_good ∧ Cond.initialized y.cls ∈ lw_good ∧ Cond.code y c2 n2 ret ∈ lw_good ∧ (y.cls ≠ "java/lang/invoke/MethodHandle" ∧ y.cls ≠ "java/lang/invoke/VarHandle" ∧ (parseMethodDescriptor y.desc).map (fun d => d.parameters.length) = some np) ∧ n2 ≤ 45 ∧ ∃ q : vw_C, vwCl[ci]? = some q ∧ q.1 = y.cls
def MwV (own : String) (idx ci : Nat) (y : MethodName) (c2 : ByteArray) (n2 : Nat) (ret : Option FieldType) (np : Nat) : Prop := Cond.methodLink own idx y ∈ lw_good ∧ MyV ci y c2 n2 ret np
theorem rm_call {d2 n2 : Nat} {R : Room} {cells slots : Nat} (h : d2 + 1 ≤ d) (hn : n2 ≤ 45) (hR : Rm d R cells slots) : (rmv d2).frames + 1 ≤ R.frames ∧ 8 + (n2 + 11) + (rmv d2).locals ≤ R.locals := by
  obtain ⟨h1, h2, -, -⟩ := hR
  refine ⟨?_, ?_⟩
  · show d2 + 1 ≤ R.frames
    omega
  · show 8 + (n2 + 11) + 64 * d2 ≤ R.locals
    omega
theorem g_callV {σ : Type} {cv2 : σ → Option Value × Mm} {f : σ → Option ρ} {o2 : Option σ} {y : MethodName} {c2 : ByteArray} {n2 np d2 idx b ci w : Nat} {ret : Option FieldType} {st0 : List Value} (As rest : List Value) (M : MwV own idx ci y c2 n2 ret np) (hC : Ct g y c2 n2 ret d2 cv2 (.ref (gb g + b) :: As) μ o2) (hdd : d2 + 1 ≤ d) (hs : shp b = (10 + ci, w)) (hw : 10 + ci ≠ 99) (hn : As.length = np) (hst : st0 = As.reverse ++ .ref (gb g + b) :: rest) (hrm : (rest.map fun v => v.category).sum ≤ 8) (hd : decode cc pc = .ok (.invokevirtual idx, 3))
    (kk : ∀ r2, o2 = some r2 → Go g own cc n rk d cv (pc + 3) lv ((cv2 r2).1.toList ++ rest) (cv2 r2).2 (f r2)) : Go g own cc n rk d cv pc lv st0 μ (o2.bind f) := by
  intro r hr p e s m args below meth c H locs ls R cells slots Q X hR hP hS hl hq
  obtain ⟨r2, h2, hr⟩ := Option.bind_eq_some_iff.mp hr
  have hM := hC r2 h2
  obtain ⟨w1, w2, w3, w4, w5, w6, w7, q, w8, w9⟩ := M
  have ht := X.2.2.2.2.1
  have hcw : CallW R s args own y.cls idx y c2 n2 ret (Cond.code y c2 n2 ret :: lw_good) (rmv d2) 0 0 np := ⟨callB_of np ht (good_self w5) rfl rfl rfl (ht _ w4) (ht _ w1) w6 (rm_call hdd w7 hR), ht _ w2, ht _ w3⟩
  have hrun := va_runV (g := F0 m pc ls st0) (e := e) (below := below) (meth := meth) (locs := locs) (cells := cells) (slots := slots) (rest := rest) (As := As) ⟨X.1, X.2.1, X.2.2.1, X.2.2.2.1, ht⟩ hM hcw ⟨pk_blind g _ μ, by have h9 := va_recv X.2.2.2.2.2.1 hP w8 (WL_atE g μ (shp_lt hs hw) (cell_ob hs)); rw [w9] at h9; exact h9, fun U hU hW => ⟨rfl, va_K.moved hW.alike X.2.2.2.2.2.1, by rw [hU]; exact ZK.go X.2.2.2.2.2.2 hS hW, by rw [hU]; exact hP⟩⟩ rfl hn hl.1 hst (lv_room hrm) hd ⟨hR.2.2.1, hR.2.2.2⟩
  exact g_of_run hrun hS (fun H1 locs1 hP1 hS1 => kk r2 h2 r hr p e s m args below meth c H1 locs1 ls R cells slots Q X hR hP1 hS1 hl hq)
def MyS (y : MethodName) (c2 : ByteArray) (n2 : Nat) (ret : Option FieldType) (np : Nat) : Prop := Cond.static y ∈ lw_good ∧ Cond.initialized y.cls ∈ lw_good ∧ Cond.code y c2 n2 ret ∈ lw_good ∧ (y.cls ≠ "java/lang/invoke/MethodHandle" ∧ y.cls ≠ "java/lang/invoke/VarHandle" ∧ (parseMethodDescriptor y.desc).map (fun d => d.parameters.length) = some np) ∧ n2 ≤ 45
def MwS (own : String) (idx : Nat) (y : MethodName) (c2 : ByteArray) (n2 : Nat) (ret : Option FieldType) (np : Nat) : Prop := (Cond.methodLink own idx y ∈ lw_good ∨ ∃ host, Cond.methodLinkNest own idx y host ∈ lw_tbl) ∧ MyS y c2 n2 ret np
theorem g_callS {σ : Type} {cv2 : σ → Option Value × Mm} {f : σ → Option ρ} {o2 : Option σ} {y : MethodName} {c2 : ByteArray} {n2 np d2 idx : Nat} {ret : Option FieldType} {st0 : List Value} (As rest : List Value) (M : MwS own idx y c2 n2 ret np) (hC : Ct g y c2 n2 ret d2 cv2 As μ o2) (hdd : d2 + 1 ≤ d) (hn : As.length = np) (hst : st0 = As.reverse ++ rest) (hrm : (rest.map fun v => v.category).sum ≤ 8) (hd : decode cc pc = .ok (.invokestatic idx, 3))
    (kk : ∀ r2, o2 = some r2 → Go g own cc n rk d cv (pc + 3) lv ((cv2 r2).1.toList ++ rest) (cv2 r2).2 (f r2)) : Go g own cc n rk d cv pc lv st0 μ (o2.bind f) := by
  intro r hr p e s m args below meth c H locs ls R cells slots Q X hR hP hS hl hq
  obtain ⟨r2, h2, hr⟩ := Option.bind_eq_some_iff.mp hr
  have hM := hC r2 h2
  obtain ⟨w1, w3, w4, w5, w6, w7⟩ := M
  have ht := X.2.2.2.2.1
  have hpre : PreS s H (va_Pc As (PK g μ)) As := ⟨pk_blind g _ μ, fun U hU hW => ⟨rfl, va_K.moved hW.alike X.2.2.2.2.2.1, by rw [hU]; exact ZK.go X.2.2.2.2.2.2 hS hW, by rw [hU]; exact hP⟩⟩
  have hrun : va_Run p g.1 e R s m args below meth c H locs cells slots 0 0 (F0 m pc ls st0) rest (fun st oc t => oc = .returned (cv2 r2).1 ∧ HP g (cv2 r2).2 t.heap ∧ va_F (gA g) st t) (gA g) := by
    rcases w1 with w1 | ⟨host, w1⟩
    · exact va_runS (g := F0 m pc ls st0) (e := e) (below := below) (meth := meth) (locs := locs) (cells := cells) (slots := slots) (rest := rest) (As := As) ⟨X.1, X.2.1, X.2.2.1, X.2.2.2.1, ht⟩ hM ⟨callB_of np ht (good_self w5) rfl rfl rfl (ht _ w4) (ht _ w1) w6 (rm_call hdd w7 hR), ht _ w3⟩ hpre rfl hn hl.1 hst (lv_room hrm) hd ⟨hR.2.2.1, hR.2.2.2⟩
    · exact va_runSN (g := F0 m pc ls st0) (e := e) (below := below) (meth := meth) (locs := locs) (cells := cells) (slots := slots) (rest := rest) (As := As) ⟨X.1, X.2.1, X.2.2.1, X.2.2.2.1, ht⟩ hM ⟨va_cnB np ht (good_self w5) rfl rfl rfl (X.2.2.2.2.2.2.2.2.2 _ w1 rfl) (ht _ w4) w6 (rm_call hdd w7 hR), ht _ w3, trivial⟩ hpre rfl hn hl.1 hst (lv_room hrm) hd ⟨hR.2.2.1, hR.2.2.2⟩
  exact g_of_run hrun hS (fun H1 locs1 hP1 hS1 => kk r2 h2 r hr p e s m args below meth c H1 locs1 ls R cells slots Q X hR hP1 hS1 hl hq)
/-- returns -/
theorem g_ret {r0 : ρ} (hd : decode cc pc = .ok (rk, 1)) (hst : st = (cv r0).1.toList) (hm : (cv r0).2 = μ) : Go g own cc n rk d cv pc lv st μ (some r0) := by
  intro r hr p e s m args below meth c H locs ls R cells slots Q X hR hP hS hl hq
  cases hr
  rw [hst]
  exact hq H locs pc ls (by rw [hm]; exact hP) hS hd

/-- System.arraycopy -/
def MwC (own : String) (idx : Nat) : Prop := Cond.methodLink own idx arraycopyName ∈ lw_good ∧ Cond.native arraycopyName ∈ lw_good ∧ Cond.static arraycopyName ∈ lw_good ∧ Cond.initialized "java/lang/System" ∈ lw_good
def cpA (μ : Mm) (a0 N0 : Nat) (sp : Int32) (a N : Nat) (dp k : Int32) : Option Mm := if (sp < 0 ∨ dp < 0 ∨ k < 0) ∨ (N0 < sp.toNatClampNeg + k.toNatClampNeg ∨ N < dp.toNatClampNeg + k.toNatClampNeg) then none else some (rA μ a (va_cpy (mA μ a0) (mA μ a) sp.toNatClampNeg dp.toNatClampNeg k.toNatClampNeg))
def cpL (μ : Mm) (a0 N0 : Nat) (sp : Int32) (a N : Nat) (dp k : Int32) : Option Mm := if (sp < 0 ∨ dp < 0 ∨ k < 0) ∨ (N0 < sp.toNatClampNeg + k.toNatClampNeg ∨ N < dp.toNatClampNeg + k.toNatClampNeg) then none else some (rL μ a (va_cpy (mL μ a0) (mL μ a) sp.toNatClampNeg dp.toNatClampNeg k.toNatClampNeg))

theorem g_copyA {a0 N0 a N idx : Nat} {sp dp k : Int32} {f : Mm → Option ρ} (M : MwC own idx) (hdd : 1 ≤ d) (hs0 : shp a0 = (0, N0)) (hs : shp a = (0, N)) (hd : decode cc pc = .ok (.invokestatic idx, 3)) (kk : ∀ μ' : Mm, Go g own cc n rk d cv (pc + 3) lv [] μ' (f μ')) : Go g own cc n rk d cv pc lv (.int k :: .int dp :: .ref (gb g + a) :: .int sp :: .ref (gb g + a0) :: []) μ ((cpA μ a0 N0 sp a N dp k).bind f) := by
  intro r hr p e s m args below meth c H locs ls R cells slots Q X hR hP hS hl hq
  unfold cpA at hr
  by_cases h : (sp < 0 ∨ dp < 0 ∨ k < 0) ∨ (N0 < sp.toNatClampNeg + k.toNatClampNeg ∨ N < dp.toNatClampNeg + k.toNatClampNeg)
  · rw [if_pos h] at hr; cases hr
  rw [if_neg h] at hr
  have h1 : ¬ sp < 0 := fun q => h (Or.inl (Or.inl q))
  have h2 : ¬ dp < 0 := fun q => h (Or.inl (Or.inr (Or.inl q)))
  have h3 : ¬ k < 0 := fun q => h (Or.inl (Or.inr (Or.inr q)))
  have h4 : sp.toNatClampNeg + k.toNatClampNeg ≤ N0 := Nat.not_lt.mp fun q => h (Or.inr (Or.inl q))
  have h5 : dp.toNatClampNeg + k.toNatClampNeg ≤ N := Nat.not_lt.mp fun q => h (Or.inr (Or.inr q))
  obtain ⟨w1, w2, w3, w4⟩ := M
  have ht := X.2.2.2.2.1
  have hnf : nativeFrameWords "java/lang/System" "arraycopy" 5 ≤ 40 := by decide +kernel
  refine va_copyi X.1 X.2.1 (X.2.2.1.trans hl.1.symm) X.2.2.2.1 (ht _ w1) (ht _ w2) (ht _ w3) (ht _ w4) X.2.2.2.2.2.1 hP (WL_D g μ) hS a0 a 0 0 (WL_atE g μ (shp_lt hs0 (by simp)) (cell_A hs0)) (WL_atE g μ (shp_lt hs (by simp)) (cell_A hs)) rfl rfl rfl h1 h2 h3 h4 h5 (fun _ _ => rfl) (Nat.le_trans hdd hR.1) (by have := hR.2.1; simp; omega) hd (fun H1 locs1 hP1 _ hS1 => ?_)
  have hE : cellE g (rA μ a (va_cpy (mA μ a0) (mA μ a) sp.toNatClampNeg dp.toNatClampNeg k.toNatClampNeg)) a = (fun z => (Sum.inl (gc g 0, N, Sum.inl z) : va_E)) (va_cpy (mA μ a0) (mA μ a) sp.toNatClampNeg dp.toNatClampNeg k.toNatClampNeg) := by
    rw [cell_A hs]
    exact congrArg (fun z => (Sum.inl (gc g 0, N, Sum.inl z) : va_E)) upr_eq
  rw [WL_set g μ (rA μ a (va_cpy (mA μ a0) (mA μ a) sp.toNatClampNeg dp.toNatClampNeg k.toNatClampNeg)) (shp_lt hs (by simp)) hE (fun j hj => ce_ne rfl rfl (upr_ne hj) rfl rfl (fun ci k2 => rf_eq (μ := μ) rfl ci j k2))] at hP1
  exact kk _ r hr p e s m args below meth c H1 locs1 ls R cells slots Q X hR hP1 hS1 hl hq
theorem g_copyL {a0 N0 a N idx : Nat} {sp dp k : Int32} {f : Mm → Option ρ} (M : MwC own idx) (hdd : 1 ≤ d) (hs0 : shp a0 = (1, N0)) (hs : shp a = (1, N)) (hd : decode cc pc = .ok (.invokestatic idx, 3)) (kk : ∀ μ' : Mm, Go g own cc n rk d cv (pc + 3) lv [] μ' (f μ')) : Go g own cc n rk d cv pc lv (.int k :: .int dp :: .ref (gb g + a) :: .int sp :: .ref (gb g + a0) :: []) μ ((cpL μ a0 N0 sp a N dp k).bind f) := by
  intro r hr p e s m args below meth c H locs ls R cells slots Q X hR hP hS hl hq
  unfold cpL at hr
  by_cases h : (sp < 0 ∨ dp < 0 ∨ k < 0) ∨ (N0 < sp.toNatClampNeg + k.toNatClampNeg ∨ N < dp.toNatClampNeg + k.toNatClampNeg)
  · rw [if_pos h] at hr; cases hr
  rw [if_neg h] at hr
  have h1 : ¬ sp < 0 := fun q => h (Or.inl (Or.inl q))
  have h2 : ¬ dp < 0 := fun q => h (Or.inl (Or.inr (Or.inl q)))
  have h3 : ¬ k < 0 := fun q => h (Or.inl (Or.inr (Or.inr q)))
  have h4 : sp.toNatClampNeg + k.toNatClampNeg ≤ N0 := Nat.not_lt.mp fun q => h (Or.inr (Or.inl q))
  have h5 : dp.toNatClampNeg + k.toNatClampNeg ≤ N := Nat.not_lt.mp fun q => h (Or.inr (Or.inr q))
  obtain ⟨w1, w2, w3, w4⟩ := M
  have ht := X.2.2.2.2.1
  have hnf : nativeFrameWords "java/lang/System" "arraycopy" 5 ≤ 40 := by decide +kernel
  refine va_copyl X.1 X.2.1 (X.2.2.1.trans hl.1.symm) X.2.2.2.1 (ht _ w1) (ht _ w2) (ht _ w3) (ht _ w4) X.2.2.2.2.2.1 hP (WL_D g μ) hS a0 a 1 1 (WL_atE g μ (shp_lt hs0 (by simp)) (cell_L hs0)) (WL_atE g μ (shp_lt hs (by simp)) (cell_L hs)) rfl rfl rfl h1 h2 h3 h4 h5 (fun _ _ => rfl) (Nat.le_trans hdd hR.1) (by have := hR.2.1; simp; omega) hd (fun H1 locs1 hP1 _ hS1 => ?_)
  have hE : cellE g (rL μ a (va_cpy (mL μ a0) (mL μ a) sp.toNatClampNeg dp.toNatClampNeg k.toNatClampNeg)) a = (fun z => (Sum.inl (gc g 1, N, Sum.inr (Sum.inl z)) : va_E)) (va_cpy (mL μ a0) (mL μ a) sp.toNatClampNeg dp.toNatClampNeg k.toNatClampNeg) := by
    rw [cell_L hs]
    exact congrArg (fun z => (Sum.inl (gc g 1, N, Sum.inr (Sum.inl z)) : va_E)) upr_eq
  rw [WL_set g μ (rL μ a (va_cpy (mL μ a0) (mL μ a) sp.toNatClampNeg dp.toNatClampNeg k.toNatClampNeg)) (shp_lt hs (by simp)) hE (fun j hj => ce_ne rfl rfl rfl (upr_ne hj) rfl (fun ci k2 => rf_eq (μ := μ) rfl ci j k2))] at hP1
  exact kk _ r hr p e s m args below meth c H1 locs1 ls R cells slots Q X hR hP1 hS1 hl hq
end GR
theorem g_retZ {g : GG} {own : String} {cc : ByteArray} {n : Nat} {d pc : Nat} {lv : List (Nat × Value)} {μ : Mm} {x : Int32} (hd : decode cc pc = .ok (.ireturn, 1)) : Go g own cc n .ireturn d cvZ pc lv [.int x] μ (if x = 0 then some (false, μ) else if x = 1 then some (true, μ) else none) := by
  refine g_if (fun h => ?_) (fun _ => g_if (fun h => ?_) (fun _ => g_none))
  · subst h
    exact g_ret hd rfl rfl
  · subst h
    exact g_ret hd rfl rfl
theorem bI_nar (b : Bool) : narrow .boolean (.int (bI b)) = .int (bI b) := by cases b <;> decide
section CT
variable {g : GG} {y : MethodName} {cc : ByteArray} {n d : Nat} {as : List Value} {μ : Mm}
theorem ct_go {ρ : Type} {cv : ρ → Option Value × Mm} {o : Option ρ} {rk : Instr} {ret : Option FieldType} (hpl : plainName y.cls = true) (hlen : (lg_sl as).length ≤ n) (h : Go g y.cls cc n rk d cv 0 (lv_args 0 as) [] μ o)
    (hret : ∀ r, ∀ (p : Program) (e : Env) (s : State) (m : MethodId) (args : Array Value) (below : List Frame) (meth : Method) (c : Code) (H : Heap) (locs : List Loc) (ls : Array Slot) (pc : Nat), p.tables.exec = Jvm.exec → c.code = cc → meth.sig.returnType = ret → meth.locks = false → va_S (gA g) s.heap H locs → HP g (cv r).2 H → decode cc pc = .ok (rk, 1) → W p g.1 e (rmv d) s m args below meth c H locs 0 0 (MQ below (fun _ st oc t => oc = .returned (cv r).1 ∧ HP g (cv r).2 t.heap ∧ va_F (gA g) st t) args s 0 0 (gA g)) (F0 m pc ls (cv r).1.toList)) : Ct g y cc n ret d cv as μ o := by
  intro r hr
  refine Met.ofW (cc := cc) (maxL := n) (ret := ret) hpl rfl ?_
  intro p e s m args below meth c s₁ B hml hv
  obtain ⟨rfl, hK, hZ, hP⟩ := hv
  have hts := atoms_spec (ws := Cond.code y cc n ret :: lw_good) B.pre
  have hown : s.vm.findClass y.cls = some m.cls := findClass_of_methodNamed B.named
  have hl := lv_entry as (n := n) hlen
  rw [lg_entry_eq]
  exact h r hr p e s m as.toArray below meth c s.heap [] _ (rmv d) 0 0 _ ⟨B.exec, B.bytes, hml, hown, fun w hw => hts w (List.mem_cons_of_mem _ hw), hK, hZ⟩ ⟨Nat.le_refl _, Nat.le_refl _, Nat.le_refl _, Nat.le_refl _⟩ hP va_S.rf hl (fun H' locs' pc' ls' hP' hS' hd' => hret r p e s m as.toArray below meth c H' locs' ls' pc' B.exec B.bytes B.returns B.notSynchronized hS' hP' hd')
theorem ct_I {o : Option (Int32 × Mm)} (hpl : plainName y.cls = true) (hlen : (lg_sl as).length ≤ n) (h : Go g y.cls cc n .ireturn d cvI 0 (lv_args 0 as) [] μ o) : Ct g y cc n (some .int) d cvI as μ o :=
  ct_go hpl hlen h (fun r p e s m args below meth c H locs ls pc hx hb hr hlk hS hP hd => W.iret hx hb hr (fun t ht _ => ⟨rfl, by rw [ht]; exact hP, hS.F ht⟩) hS.2.2 hd hlk)
theorem ct_Z {o : Option (Bool × Mm)} (hpl : plainName y.cls = true) (hlen : (lg_sl as).length ≤ n) (h : Go g y.cls cc n .ireturn d cvZ 0 (lv_args 0 as) [] μ o) : Ct g y cc n (some .boolean) d cvZ as μ o :=
  ct_go hpl hlen h (fun r p e s m args below meth c H locs ls pc hx hb hr hlk hS hP hd => W.zret hx hb hr (bI_nar r.1) (fun t ht _ => ⟨rfl, by rw [ht]; exact hP, hS.F ht⟩) hS.2.2 hd hlk)
theorem ct_J {o : Option (Int64 × Mm)} (hpl : plainName y.cls = true) (hlen : (lg_sl as).length ≤ n) (h : Go g y.cls cc n .lreturn d cvJ 0 (lv_args 0 as) [] μ o) : Ct g y cc n (some .long) d cvJ as μ o :=
  ct_go hpl hlen h (fun r p e s m args below meth c H locs ls pc hx hb hr hlk hS hP hd => W.lret hx hb hr (fun t ht _ => ⟨rfl, by rw [ht]; exact hP, hS.F ht⟩) hS.2.2 hd hlk)
theorem ct_V {o : Option Mm} (hpl : plainName y.cls = true) (hlen : (lg_sl as).length ≤ n) (h : Go g y.cls cc n .return_ d cvV 0 (lv_args 0 as) [] μ o) : Ct g y cc n none d cvV as μ o :=
  ct_go hpl hlen h (fun r p e s m args below meth c H locs ls pc hx hb hr hlk hS hP hd => W.vret hx hb hr (fun t ht _ => ⟨rfl, by rw [ht]; exact hP, hS.F ht⟩) hS.2.2 hd hlk)
theorem ct_R {o : Option (Nat × Mm)} {C : String} (hpl : plainName y.cls = true) (hlen : (lg_sl as).length ≤ n) (h : Go g y.cls cc n .areturn d (cvR g) 0 (lv_args 0 as) [] μ o) : Ct g y cc n (some (.object C)) d (cvR g) as μ o :=
  ct_go hpl hlen h (fun r p e s m args below meth c H locs ls pc hx hb hr hlk hS hP hd => W.aret hx hb hr (Or.inl ⟨_, rfl⟩) (Or.inr ⟨_, rfl⟩) (fun t ht _ => ⟨rfl, by rw [ht]; exact hP, hS.F ht⟩) hS.2.2 hd hlk)
end CT

/-- two-part results -/
def bd {α ρ : Type} (o : Option (α × Mm)) (f : α → Mm → Option ρ) : Option ρ := match o with
  | none => none
  | some r => f r.1 r.2
def jn {α β : Type} (f : α) (k : α → β) : β := k f
def cvIp (μ : Mm) (r : Int32) : Option Value × Mm := (some (.int r), μ)
def cvJp (μ : Mm) (r : Int64) : Option Value × Mm := (some (.long r), μ)
def cvZp (μ : Mm) (r : Bool) : Option Value × Mm := (some (.int (bI r)), μ)
theorem bd_bind {α ρ : Type} (o : Option (α × Mm)) (f : α → Mm → Option ρ) : bd o f = o.bind (fun r => f r.1 r.2) := by cases o <;> rfl
section GW
variable {ρ : Type} {g : GG} {own : String} {cc : ByteArray} {n : Nat} {rk : Instr} {d : Nat} {cv : ρ → Option Value × Mm} {pc : Nat} {lv lv' : List (Nat × Value)} {st : List Value} {μ μ' : Mm} {o o1 o2 : Option ρ}
theorem g_same {q : Prop} [Decidable q] (k : Go g own cc n rk d cv pc lv st μ (if q then o else o)) : Go g own cc n rk d cv pc lv st μ o := by
  have e : (if q then o else o) = o := by split <;> rfl
  rw [e] at k
  exact k
theorem g_jn {α : Type} (GJ : α → Option ρ → Prop) {f : α → Option ρ} {k : (α → Option ρ) → Option ρ} (hJ : ∀ a, GJ a (f a)) (hk : ∀ F : α → Option ρ, (∀ a, GJ a (F a)) → Go g own cc n rk d cv pc lv st μ (k F)) : Go g own cc n rk d cv pc lv st μ (jn f k) := hk f hJ
theorem g_alen {a N : Nat} (kd : Nat) {ty : FieldType} {cA : ClassId} {x : vp_A} (hs : a < 157) (he : cellE g μ a = .inl (cA, x)) (ht : (gty g)[kd]? = some (cA, ty)) (hx : x.1 = N) (hd : decode cc pc = .ok (.arraylength, 1)) (k : Go g own cc n rk d cv (pc + 1) lv (.int (Int32.ofNat N) :: st) μ o) : Go g own cc n rk d cv pc lv (.ref (gb g + a) :: st) μ o := by
  intro r hr p e s m args below meth c H locs ls R cells slots Q X hR hP hS hl hq
  exact va_alen X.1 X.2.1 X.2.2.2.2.2.1 hP a kd (WL_atE g μ hs he) ht (by rw [hx]) hd (k r hr p e s m args below meth c H locs ls R cells slots Q X hR hP hS hl hq)
theorem g_alenA {a N : Nat} (hs : shp a = (0, N)) (hd : decode cc pc = .ok (.arraylength, 1)) (k : Go g own cc n rk d cv (pc + 1) lv (.int (Int32.ofNat N) :: st) μ o) : Go g own cc n rk d cv pc lv (.ref (gb g + a) :: st) μ o := g_alen 0 (shp_lt hs (by simp)) (cell_A hs) rfl rfl hd k
theorem g_alenL {a N : Nat} (hs : shp a = (1, N)) (hd : decode cc pc = .ok (.arraylength, 1)) (k : Go g own cc n rk d cv (pc + 1) lv (.int (Int32.ofNat N) :: st) μ o) : Go g own cc n rk d cv pc lv (.ref (gb g + a) :: st) μ o := g_alen 1 (shp_lt hs (by simp)) (cell_L hs) rfl rfl hd k
def gBk (x : Nat) : Option Nat := if x = 15 ∨ x = 27 ∨ x = 53 ∨ x = 71 ∨ x = 89 then some x else none
def gNt (x : Nat) : Option Nat := if x = 39 ∨ x = 45 ∨ x = 65 ∨ x = 83 ∨ x = 101 then some x else none
def gPt (x : Nat) : Option Nat := if x = 133 ∨ x = 134 ∨ x = 135 ∨ x = 136 then some x else none
theorem g_gBk {x : Nat} {f : Nat → Option ρ} (kk : ∀ b : Nat, (b = 15 ∨ b = 27 ∨ b = 53 ∨ b = 71 ∨ b = 89) → Go g own cc n rk d cv pc lv (.ref (gb g + b) :: st) μ (f b)) : Go g own cc n rk d cv pc lv (.ref (gb g + x) :: st) μ ((gBk x).bind f) := by
  unfold gBk
  by_cases h : x = 15 ∨ x = 27 ∨ x = 53 ∨ x = 71 ∨ x = 89
  · rw [if_pos h]; exact kk x h
  · rw [if_neg h]; exact g_none
theorem g_gNt {x : Nat} {f : Nat → Option ρ} (kk : ∀ b : Nat, (b = 39 ∨ b = 45 ∨ b = 65 ∨ b = 83 ∨ b = 101) → Go g own cc n rk d cv pc lv (.ref (gb g + b) :: st) μ (f b)) : Go g own cc n rk d cv pc lv (.ref (gb g + x) :: st) μ ((gNt x).bind f) := by
  unfold gNt
  by_cases h : x = 39 ∨ x = 45 ∨ x = 65 ∨ x = 83 ∨ x = 101
  · rw [if_pos h]; exact kk x h
  · rw [if_neg h]; exact g_none
theorem g_gPt {x : Nat} {f : Nat → Option ρ} (kk : ∀ b : Nat, (b = 133 ∨ b = 134 ∨ b = 135 ∨ b = 136) → Go g own cc n rk d cv pc lv (.ref (gb g + b) :: st) μ (f b)) : Go g own cc n rk d cv pc lv (.ref (gb g + x) :: st) μ ((gPt x).bind f) := by
  unfold gPt
  by_cases h : x = 133 ∨ x = 134 ∨ x = 135 ∨ x = 136
  · rw [if_pos h]; exact kk x h
  · rw [if_neg h]; exact g_none
theorem ce_neR {μ μ' : Mm} {j : Nat} (hI : mI μ' j = mI μ j) (hJ : mJ μ' j = mJ μ j) (hA : mA μ' j = mA μ j) (hL : mL μ' j = mL μ j) (hB : mB μ' j = mB μ j) (hR : ∀ k, rfv μ' ((shp j).1 - 10) j k = rfv μ ((shp j).1 - 10) j k) : cellE g μ' j = cellE g μ j := by
  have hf : fval g μ' ((shp j).1 - 10) j = fval g μ ((shp j).1 - 10) j := by
    funext k
    unfold fval
    rw [hI, hJ, hR]
  unfold cellE cellS
  rw [hA, hL, hB]
  split <;> first | rfl | (rw [hf])
theorem shp_no (P : Nat → Bool) (h : (List.range 157).all (fun j => P ((shp j).1) || false) = true) (h99 : P 99 = true) (j : Nat) : P (shp j).1 = true := by
  by_cases hj : j < 157
  · have := List.all_eq_true.mp h j (List.mem_range.mpr hj)
    simpa using this
  · have e : shp j = (99, 0) := by
      unfold shp
      have : SH[j]? = none := List.getElem?_eq_none (by have : SH.length = 157 := by decide +kernel
                                                        omega)
      rw [List.getD_eq_getElem?_getD, this]
      rfl
    rw [e]
    exact h99
theorem shp20 {j : Nat} (hj : j ≠ 0) : (shp j).1 - 10 ≠ 10 := by
  have k : ∀ i, i < 157 → i ≠ 0 → (shp i).1 - 10 ≠ 10 := by decide +kernel
  by_cases h : j < 157
  · exact k j h hj
  · have e : shp j = (99, 0) := by
      unfold shp
      have : SH[j]? = none := List.getElem?_eq_none (by have : SH.length = 157 := by decide +kernel
                                                        omega)
      rw [List.getD_eq_getElem?_getD, this]
      rfl
    rw [e]
    decide
theorem shp16 {j : Nat} (hj : j ≠ 131) : (shp j).1 - 10 ≠ 6 := by
  have k : ∀ i, i < 157 → i ≠ 131 → (shp i).1 - 10 ≠ 6 := by decide +kernel
  by_cases h : j < 157
  · exact k j h hj
  · have e : shp j = (99, 0) := by
      unfold shp
      have : SH[j]? = none := List.getElem?_eq_none (by have : SH.length = 157 := by decide +kernel
                                                        omega)
      rw [List.getD_eq_getElem?_getD, this]
      rfl
    rw [e]
    decide
theorem up1_ne {f : Nat → Nat} {a x j : Nat} (h : j ≠ a) : up1 f a x j = f j := by unfold up1; rw [if_neg h]
theorem rfX {μ : Mm} {q b ci j k : Nat} (hq : q < 4) (hc : ci ≠ 10) : rfv (sR μ q b) ci j k = rfv μ ci j k := by
  unfold rfv
  split <;> first | rfl | exact absurd rfl hc | skip
  unfold rf6
  split <;> first | rfl | exact up1_ne (by omega)
theorem rfP {μ : Mm} {q b ci j k : Nat} (hq : 4 ≤ q) (hc : ci ≠ 6) : rfv (sR μ q b) ci j k = rfv μ ci j k := by
  unfold rfv
  split <;> first | rfl | exact absurd rfl hc | skip
  unfold rf10
  split <;> first | rfl | exact up1_ne (by omega)
theorem g_putX8 {idx b : Nat} {t : FieldType} (F : Fl own idx 10 8 t false) (hn : narrow t (.ref (gb g + b)) = .ref (gb g + b)) (hf : fits t (.ref (gb g + b)) = true) (hd : decode cc pc = .ok (.putfield idx, 3)) (kk : Go g own cc n rk d cv (pc + 3) lv st (sR μ 0 b) o) : Go g own cc n rk d cv pc lv (.ref (gb g + b) :: .ref (gb g + 0) :: st) μ o := by
  refine g_putR (q := 0) (w := 18) F rfl (by decide) rfl hn hf (fun _ => rfl) (fun j hj => ?_) (fun j hj => ?_) hd kk
  · show rf10 _ 0 j = rf10 _ 0 j
    unfold rf10
    split <;> first | rfl | exact absurd rfl hj | exact up1_ne (by decide)
  · exact ce_neR rfl rfl rfl rfl rfl (fun k2 => rfX (by decide) (shp20 hj))
theorem g_putX9 {idx b : Nat} {t : FieldType} (F : Fl own idx 10 9 t false) (hn : narrow t (.ref (gb g + b)) = .ref (gb g + b)) (hf : fits t (.ref (gb g + b)) = true) (hd : decode cc pc = .ok (.putfield idx, 3)) (kk : Go g own cc n rk d cv (pc + 3) lv st (sR μ 1 b) o) : Go g own cc n rk d cv pc lv (.ref (gb g + b) :: .ref (gb g + 0) :: st) μ o := by
  refine g_putR (q := 1) (w := 18) F rfl (by decide) rfl hn hf (fun _ => rfl) (fun j hj => ?_) (fun j hj => ?_) hd kk
  · show rf10 _ 0 j = rf10 _ 0 j
    unfold rf10
    split <;> first | rfl | exact absurd rfl hj | exact up1_ne (by decide)
  · exact ce_neR rfl rfl rfl rfl rfl (fun k2 => rfX (by decide) (shp20 hj))
theorem g_putX10 {idx b : Nat} {t : FieldType} (F : Fl own idx 10 10 t false) (hn : narrow t (.ref (gb g + b)) = .ref (gb g + b)) (hf : fits t (.ref (gb g + b)) = true) (hd : decode cc pc = .ok (.putfield idx, 3)) (kk : Go g own cc n rk d cv (pc + 3) lv st (sR μ 2 b) o) : Go g own cc n rk d cv pc lv (.ref (gb g + b) :: .ref (gb g + 0) :: st) μ o := by
  refine g_putR (q := 2) (w := 18) F rfl (by decide) rfl hn hf (fun _ => rfl) (fun j hj => ?_) (fun j hj => ?_) hd kk
  · show rf10 _ 0 j = rf10 _ 0 j
    unfold rf10
    split <;> first | rfl | exact absurd rfl hj | exact up1_ne (by decide)
  · exact ce_neR rfl rfl rfl rfl rfl (fun k2 => rfX (by decide) (shp20 hj))
theorem g_putX11 {idx b : Nat} {t : FieldType} (F : Fl own idx 10 11 t false) (hn : narrow t (.ref (gb g + b)) = .ref (gb g + b)) (hf : fits t (.ref (gb g + b)) = true) (hd : decode cc pc = .ok (.putfield idx, 3)) (kk : Go g own cc n rk d cv (pc + 3) lv st (sR μ 3 b) o) : Go g own cc n rk d cv pc lv (.ref (gb g + b) :: .ref (gb g + 0) :: st) μ o := by
  refine g_putR (q := 3) (w := 18) F rfl (by decide) rfl hn hf (fun _ => rfl) (fun j hj => ?_) (fun j hj => ?_) hd kk
  · show rf10 _ 0 j = rf10 _ 0 j
    unfold rf10
    split <;> first | rfl | exact absurd rfl hj | exact up1_ne (by decide)
  · exact ce_neR rfl rfl rfl rfl rfl (fun k2 => rfX (by decide) (shp20 hj))
theorem g_putP3 {idx b : Nat} {t : FieldType} (F : Fl own idx 6 3 t false) (hn : narrow t (.ref (gb g + b)) = .ref (gb g + b)) (hf : fits t (.ref (gb g + b)) = true) (hd : decode cc pc = .ok (.putfield idx, 3)) (kk : Go g own cc n rk d cv (pc + 3) lv st (sR μ 4 b) o) : Go g own cc n rk d cv pc lv (.ref (gb g + b) :: .ref (gb g + 131) :: st) μ o := by
  refine g_putR (q := 4) (w := 7) F rfl (by decide) rfl hn hf (fun _ => rfl) (fun j hj => ?_) (fun j hj => ?_) hd kk
  · show rf6 _ 131 j = rf6 _ 131 j
    unfold rf6
    split <;> first | rfl | exact absurd rfl hj | exact up1_ne (by decide)
  · exact ce_neR rfl rfl rfl rfl rfl (fun k2 => rfP (by decide) (shp16 hj))
theorem g_putP4 {idx b : Nat} {t : FieldType} (F : Fl own idx 6 4 t false) (hn : narrow t (.ref (gb g + b)) = .ref (gb g + b)) (hf : fits t (.ref (gb g + b)) = true) (hd : decode cc pc = .ok (.putfield idx, 3)) (kk : Go g own cc n rk d cv (pc + 3) lv st (sR μ 5 b) o) : Go g own cc n rk d cv pc lv (.ref (gb g + b) :: .ref (gb g + 131) :: st) μ o := by
  refine g_putR (q := 5) (w := 7) F rfl (by decide) rfl hn hf (fun _ => rfl) (fun j hj => ?_) (fun j hj => ?_) hd kk
  · show rf6 _ 131 j = rf6 _ 131 j
    unfold rf6
    split <;> first | rfl | exact absurd rfl hj | exact up1_ne (by decide)
  · exact ce_neR rfl rfl rfl rfl rfl (fun k2 => rfP (by decide) (shp16 hj))
theorem g_putP5 {idx b : Nat} {t : FieldType} (F : Fl own idx 6 5 t false) (hn : narrow t (.ref (gb g + b)) = .ref (gb g + b)) (hf : fits t (.ref (gb g + b)) = true) (hd : decode cc pc = .ok (.putfield idx, 3)) (kk : Go g own cc n rk d cv (pc + 3) lv st (sR μ 6 b) o) : Go g own cc n rk d cv pc lv (.ref (gb g + b) :: .ref (gb g + 131) :: st) μ o := by
  refine g_putR (q := 6) (w := 7) F rfl (by decide) rfl hn hf (fun _ => rfl) (fun j hj => ?_) (fun j hj => ?_) hd kk
  · show rf6 _ 131 j = rf6 _ 131 j
    unfold rf6
    split <;> first | rfl | exact absurd rfl hj | exact up1_ne (by decide)
  · exact ce_neR rfl rfl rfl rfl rfl (fun k2 => rfP (by decide) (shp16 hj))
theorem g_putP6 {idx b : Nat} {t : FieldType} (F : Fl own idx 6 6 t false) (hn : narrow t (.ref (gb g + b)) = .ref (gb g + b)) (hf : fits t (.ref (gb g + b)) = true) (hd : decode cc pc = .ok (.putfield idx, 3)) (kk : Go g own cc n rk d cv (pc + 3) lv st (sR μ 7 b) o) : Go g own cc n rk d cv pc lv (.ref (gb g + b) :: .ref (gb g + 131) :: st) μ o := by
  refine g_putR (q := 7) (w := 7) F rfl (by decide) rfl hn hf (fun _ => rfl) (fun j hj => ?_) (fun j hj => ?_) hd kk
  · show rf6 _ 131 j = rf6 _ 131 j
    unfold rf6
    split <;> first | rfl | exact absurd rfl hj | exact up1_ne (by decide)
  · exact ce_neR rfl rfl rfl rfl rfl (fun k2 => rfP (by decide) (shp16 hj))
def MwM (own : String) (idx : Nat) (y : MethodName) (c2 : ByteArray) (n2 : Nat) (ret : Option FieldType) (np : Nat) : Prop := Cond.methodLink own idx y ∈ lw_good ∧ MyS y c2 n2 ret np
theorem g_mmax {x y : Int32} {idx : Nat} {f : Int32 → Option ρ} (M : MwM own idx yJ9_max_7cf53 cJ9_max_7cf53 2 (some .int) 2) (hdd : 1 ≤ d) (hrm : (st.map fun v => v.category).sum ≤ 8) (hd : decode cc pc = .ok (.invokestatic idx, 3)) (kk : ∀ z : Int32, Go g own cc n rk d cv (pc + 3) lv (.int z :: st) μ (f z)) : Go g own cc n rk d cv pc lv (.int y :: .int x :: st) μ ((some (if x < y then y else x)).bind f) := by
  intro r hr p e s m args below meth c H locs ls R cells slots Q X hR hP hS hl hq
  obtain ⟨w1, w2, w3, w4, -⟩ := M
  have ht := X.2.2.2.2.1
  exact va_mmax X.1 X.2.1 (X.2.2.1.trans hl.1.symm) X.2.2.2.1 (ht _ w1) (ht _ w2) (ht _ w3) (ht _ w4) (Nat.le_trans hdd hR.1) (by have := hR.2.1; omega) hR.2.2.1 hR.2.2.2 hd (kk _ r hr p e s m args below meth c H locs ls R cells slots Q X hR hP hS hl hq)
theorem g_mmin {x y : Int32} {idx : Nat} {f : Int32 → Option ρ} (M : MwM own idx yJ9_min_7cf53 cJ9_min_7cf53 2 (some .int) 2) (hdd : 1 ≤ d) (hrm : (st.map fun v => v.category).sum ≤ 8) (hd : decode cc pc = .ok (.invokestatic idx, 3)) (kk : ∀ z : Int32, Go g own cc n rk d cv (pc + 3) lv (.int z :: st) μ (f z)) : Go g own cc n rk d cv pc lv (.int y :: .int x :: st) μ ((some (if y < x then y else x)).bind f) := by
  intro r hr p e s m args below meth c H locs ls R cells slots Q X hR hP hS hl hq
  obtain ⟨w1, w2, w3, w4, -⟩ := M
  have ht := X.2.2.2.2.1
  exact va_mmin X.1 X.2.1 (X.2.2.1.trans hl.1.symm) X.2.2.2.1 (ht _ w1) (ht _ w2) (ht _ w3) (ht _ w4) (Nat.le_trans hdd hR.1) (by have := hR.2.1; omega) hR.2.2.1 hR.2.2.2 hd (kk _ r hr p e s m args below meth c H locs ls R cells slots Q X hR hP hS hl hq)
theorem g_mabs {x : Int32} {idx : Nat} {f : Int32 → Option ρ} (M : MwM own idx yJ9_abs_0f7a4 cJ9_abs_0f7a4 1 (some .int) 1) (hdd : 1 ≤ d) (hrm : (st.map fun v => v.category).sum ≤ 8) (hd : decode cc pc = .ok (.invokestatic idx, 3)) (kk : ∀ z : Int32, Go g own cc n rk d cv (pc + 3) lv (.int z :: st) μ (f z)) : Go g own cc n rk d cv pc lv (.int x :: st) μ ((some (if 0 ≤ x then x else -x)).bind f) := by
  intro r hr p e s m args below meth c H locs ls R cells slots Q X hR hP hS hl hq
  obtain ⟨w1, w2, w3, w4, -⟩ := M
  have ht := X.2.2.2.2.1
  refine va_mabs X.1 X.2.1 (X.2.2.1.trans hl.1.symm) X.2.2.2.1 (ht _ w1) (ht _ w2) (ht _ w3) (ht _ w4) (Nat.le_trans hdd hR.1) (by have := hR.2.1; omega) hR.2.2.1 hR.2.2.2 hd ?_
  rw [show (0 : Int32) - x = -x by simp]
  exact kk _ r hr p e s m args below meth c H locs ls R cells slots Q X hR hP hS hl hq
theorem labs_eq (x : Int64) : (if 0 < x then x else -x) = (if 0 ≤ lg_cmp x 0 then x else -x) := by
  unfold lg_cmp
  by_cases h : 0 < x
  · rw [if_pos h, if_pos (show x > 0 from h), if_pos (by decide)]
  · rw [if_neg h, if_neg (show ¬ x > 0 from h)]
    by_cases h0 : x = 0
    · subst h0; decide
    · rw [if_neg h0, if_neg (by decide)]
theorem g_mlabs {x : Int64} {idx : Nat} {f : Int64 → Option ρ} (M : MwM own idx yJ9_abs_067f4 cJ9_abs_067f4 2 (some .long) 1) (hdd : 1 ≤ d) (hrm : (st.map fun v => v.category).sum ≤ 8) (hd : decode cc pc = .ok (.invokestatic idx, 3)) (kk : ∀ z : Int64, Go g own cc n rk d cv (pc + 3) lv (.long z :: st) μ (f z)) : Go g own cc n rk d cv pc lv (.long x :: st) μ ((some (if 0 ≤ lg_cmp x 0 then x else -x)).bind f) := by
  intro r hr p e s m args below meth c H locs ls R cells slots Q X hR hP hS hl hq
  obtain ⟨w1, w2, w3, w4, -⟩ := M
  have ht := X.2.2.2.2.1
  refine va_mabs_long X.1 X.2.1 (X.2.2.1.trans hl.1.symm) X.2.2.2.1 (ht _ w1) (ht _ w2) (ht _ w3) (ht _ w4) (Nat.le_trans hdd hR.1) (by have := hR.2.1; omega) hR.2.2.1 hR.2.2.2 hd ?_
  rw [labs_eq]
  exact kk _ r hr p e s m args below meth c H locs ls R cells slots Q X hR hP hS hl hq
theorem g_vI {qq : Option (Int32 × Mm)} {f : Int32 → Mm → Option ρ} {y : MethodName} {c2 : ByteArray} {n2 np d2 idx b ci w : Nat} {ret : Option FieldType} {st0 : List Value} (As rest : List Value) (M : MwV own idx ci y c2 n2 ret np) (hC : Ct g y c2 n2 ret d2 cvI (.ref (gb g + b) :: As) μ qq) (hdd : d2 + 1 ≤ d) (hs : shp b = (10 + ci, w)) (hw : 10 + ci ≠ 99) (hn : As.length = np) (hst : st0 = As.reverse ++ .ref (gb g + b) :: rest) (hrm : (rest.map fun v => v.category).sum ≤ 8) (hd : decode cc pc = .ok (.invokevirtual idx, 3)) (kk : ∀ (x : Int32) (ν : Mm), qq = some (x, ν) → Go g own cc n rk d cv (pc + 3) lv (.int x :: rest) ν (f x ν)) : Go g own cc n rk d cv pc lv st0 μ (bd qq f) := by
  rw [bd_bind]
  exact g_callV As rest M hC hdd hs hw hn hst hrm hd (fun r2 h2 => kk r2.1 r2.2 h2)
theorem g_sI {qq : Option (Int32 × Mm)} {f : Int32 → Mm → Option ρ} {y : MethodName} {c2 : ByteArray} {n2 np d2 idx : Nat} {ret : Option FieldType} {st0 : List Value} (As rest : List Value) (M : MwS own idx y c2 n2 ret np) (hC : Ct g y c2 n2 ret d2 cvI As μ qq) (hdd : d2 + 1 ≤ d) (hn : As.length = np) (hst : st0 = As.reverse ++ rest) (hrm : (rest.map fun v => v.category).sum ≤ 8) (hd : decode cc pc = .ok (.invokestatic idx, 3)) (kk : ∀ (x : Int32) (ν : Mm), qq = some (x, ν) → Go g own cc n rk d cv (pc + 3) lv (.int x :: rest) ν (f x ν)) : Go g own cc n rk d cv pc lv st0 μ (bd qq f) := by
  rw [bd_bind]
  exact g_callS As rest M hC hdd hn hst hrm hd (fun r2 h2 => kk r2.1 r2.2 h2)
theorem g_vJ {qq : Option (Int64 × Mm)} {f : Int64 → Mm → Option ρ} {y : MethodName} {c2 : ByteArray} {n2 np d2 idx b ci w : Nat} {ret : Option FieldType} {st0 : List Value} (As rest : List Value) (M : MwV own idx ci y c2 n2 ret np) (hC : Ct g y c2 n2 ret d2 cvJ (.ref (gb g + b) :: As) μ qq) (hdd : d2 + 1 ≤ d) (hs : shp b = (10 + ci, w)) (hw : 10 + ci ≠ 99) (hn : As.length = np) (hst : st0 = As.reverse ++ .ref (gb g + b) :: rest) (hrm : (rest.map fun v => v.category).sum ≤ 8) (hd : decode cc pc = .ok (.invokevirtual idx, 3)) (kk : ∀ (x : Int64) (ν : Mm), qq = some (x, ν) → Go g own cc n rk d cv (pc + 3) lv (.long x :: rest) ν (f x ν)) : Go g own cc n rk d cv pc lv st0 μ (bd qq f) := by
  rw [bd_bind]
  exact g_callV As rest M hC hdd hs hw hn hst hrm hd (fun r2 h2 => kk r2.1 r2.2 h2)
theorem g_sJ {qq : Option (Int64 × Mm)} {f : Int64 → Mm → Option ρ} {y : MethodName} {c2 : ByteArray} {n2 np d2 idx : Nat} {ret : Option FieldType} {st0 : List Value} (As rest : List Value) (M : MwS own idx y c2 n2 ret np) (hC : Ct g y c2 n2 ret d2 cvJ As μ qq) (hdd : d2 + 1 ≤ d) (hn : As.length = np) (hst : st0 = As.reverse ++ rest) (hrm : (rest.map fun v => v.category).sum ≤ 8) (hd : decode cc pc = .ok (.invokestatic idx, 3)) (kk : ∀ (x : Int64) (ν : Mm), qq = some (x, ν) → Go g own cc n rk d cv (pc + 3) lv (.long x :: rest) ν (f x ν)) : Go g own cc n rk d cv pc lv st0 μ (bd qq f) := by
  rw [bd_bind]
  exact g_callS As rest M hC hdd hn hst hrm hd (fun r2 h2 => kk r2.1 r2.2 h2)
theorem g_vZ {qq : Option (Bool × Mm)} {f : Bool → Mm → Option ρ} {y : MethodName} {c2 : ByteArray} {n2 np d2 idx b ci w : Nat} {ret : Option FieldType} {st0 : List Value} (As rest : List Value) (M : MwV own idx ci y c2 n2 ret np) (hC : Ct g y c2 n2 ret d2 cvZ (.ref (gb g + b) :: As) μ qq) (hdd : d2 + 1 ≤ d) (hs : shp b = (10 + ci, w)) (hw : 10 + ci ≠ 99) (hn : As.length = np) (hst : st0 = As.reverse ++ .ref (gb g + b) :: rest) (hrm : (rest.map fun v => v.category).sum ≤ 8) (hd : decode cc pc = .ok (.invokevirtual idx, 3)) (kk : ∀ (x : Bool) (ν : Mm), qq = some (x, ν) → Go g own cc n rk d cv (pc + 3) lv (.int (bI x) :: rest) ν (f x ν)) : Go g own cc n rk d cv pc lv st0 μ (bd qq f) := by
  rw [bd_bind]
  exact g_callV As rest M hC hdd hs hw hn hst hrm hd (fun r2 h2 => kk r2.1 r2.2 h2)
theorem g_sZ {qq : Option (Bool × Mm)} {f : Bool → Mm → Option ρ} {y : MethodName} {c2 : ByteArray} {n2 np d2 idx : Nat} {ret : Option FieldType} {st0 : List Value} (As rest : List Value) (M : MwS own idx y c2 n2 ret np) (hC : Ct g y c2 n2 ret d2 cvZ As μ qq) (hdd : d2 + 1 ≤ d) (hn : As.length = np) (hst : st0 = As.reverse ++ rest) (hrm : (rest.map fun v => v.category).sum ≤ 8) (hd : decode cc pc = .ok (.invokestatic idx, 3)) (kk : ∀ (x : Bool) (ν : Mm), qq = some (x, ν) → Go g own cc n rk d cv (pc + 3) lv (.int (bI x) :: rest) ν (f x ν)) : Go g own cc n rk d cv pc lv st0 μ (bd qq f) := by
  rw [bd_bind]
  exact g_callS As rest M hC hdd hn hst hrm hd (fun r2 h2 => kk r2.1 r2.2 h2)
theorem g_vR {qq : Option (Nat × Mm)} {f : Nat → Mm → Option ρ} {y : MethodName} {c2 : ByteArray} {n2 np d2 idx b ci w : Nat} {ret : Option FieldType} {st0 : List Value} (As rest : List Value) (M : MwV own idx ci y c2 n2 ret np) (hC : Ct g y c2 n2 ret d2 (cvR g) (.ref (gb g + b) :: As) μ qq) (hdd : d2 + 1 ≤ d) (hs : shp b = (10 + ci, w)) (hw : 10 + ci ≠ 99) (hn : As.length = np) (hst : st0 = As.reverse ++ .ref (gb g + b) :: rest) (hrm : (rest.map fun v => v.category).sum ≤ 8) (hd : decode cc pc = .ok (.invokevirtual idx, 3)) (kk : ∀ (x : Nat) (ν : Mm), qq = some (x, ν) → Go g own cc n rk d cv (pc + 3) lv (.ref (gb g + x) :: rest) ν (f x ν)) : Go g own cc n rk d cv pc lv st0 μ (bd qq f) := by
  rw [bd_bind]
  exact g_callV As rest M hC hdd hs hw hn hst hrm hd (fun r2 h2 => kk r2.1 r2.2 h2)
theorem g_sR {qq : Option (Nat × Mm)} {f : Nat → Mm → Option ρ} {y : MethodName} {c2 : ByteArray} {n2 np d2 idx : Nat} {ret : Option FieldType} {st0 : List Value} (As rest : List Value) (M : MwS own idx y c2 n2 ret np) (hC : Ct g y c2 n2 ret d2 (cvR g) As μ qq) (hdd : d2 + 1 ≤ d) (hn : As.length = np) (hst : st0 = As.reverse ++ rest) (hrm : (rest.map fun v => v.category).sum ≤ 8) (hd : decode cc pc = .ok (.invokestatic idx, 3)) (kk : ∀ (x : Nat) (ν : Mm), qq = some (x, ν) → Go g own cc n rk d cv (pc + 3) lv (.ref (gb g + x) :: rest) ν (f x ν)) : Go g own cc n rk d cv pc lv st0 μ (bd qq f) := by
  rw [bd_bind]
  exact g_callS As rest M hC hdd hn hst hrm hd (fun r2 h2 => kk r2.1 r2.2 h2)
theorem g_vV {qq : Option (Mm)} {f : Mm → Option ρ} {y : MethodName} {c2 : ByteArray} {n2 np d2 idx b ci w : Nat} {ret : Option FieldType} {st0 : List Value} (As rest : List Value) (M : MwV own idx ci y c2 n2 ret np) (hC : Ct g y c2 n2 ret d2 cvV (.ref (gb g + b) :: As) μ qq) (hdd : d2 + 1 ≤ d) (hs : shp b = (10 + ci, w)) (hw : 10 + ci ≠ 99) (hn : As.length = np) (hst : st0 = As.reverse ++ .ref (gb g + b) :: rest) (hrm : (rest.map fun v => v.category).sum ≤ 8) (hd : decode cc pc = .ok (.invokevirtual idx, 3)) (kk : ∀ ν : Mm, qq = some ν → Go g own cc n rk d cv (pc + 3) lv rest ν (f ν)) : Go g own cc n rk d cv pc lv st0 μ (qq.bind f) := by
  exact g_callV As rest M hC hdd hs hw hn hst hrm hd (fun r2 h2 => kk r2 h2)
theorem g_sV {qq : Option (Mm)} {f : Mm → Option ρ} {y : MethodName} {c2 : ByteArray} {n2 np d2 idx : Nat} {ret : Option FieldType} {st0 : List Value} (As rest : List Value) (M : MwS own idx y c2 n2 ret np) (hC : Ct g y c2 n2 ret d2 cvV As μ qq) (hdd : d2 + 1 ≤ d) (hn : As.length = np) (hst : st0 = As.reverse ++ rest) (hrm : (rest.map fun v => v.category).sum ≤ 8) (hd : decode cc pc = .ok (.invokestatic idx, 3)) (kk : ∀ ν : Mm, qq = some ν → Go g own cc n rk d cv (pc + 3) lv rest ν (f ν)) : Go g own cc n rk d cv pc lv st0 μ (qq.bind f) := by
  exact g_callS As rest M hC hdd hn hst hrm hd (fun r2 h2 => kk r2 h2)
theorem g_vIp {qq : Option (Int32)} {f : Int32 → Option ρ} {y : MethodName} {c2 : ByteArray} {n2 np d2 idx b ci w : Nat} {ret : Option FieldType} {st0 : List Value} (As rest : List Value) (M : MwV own idx ci y c2 n2 ret np) (hC : Ct g y c2 n2 ret d2 (cvIp μ) (.ref (gb g + b) :: As) μ qq) (hdd : d2 + 1 ≤ d) (hs : shp b = (10 + ci, w)) (hw : 10 + ci ≠ 99) (hn : As.length = np) (hst : st0 = As.reverse ++ .ref (gb g + b) :: rest) (hrm : (rest.map fun v => v.category).sum ≤ 8) (hd : decode cc pc = .ok (.invokevirtual idx, 3)) (kk : ∀ x : Int32, qq = some x → Go g own cc n rk d cv (pc + 3) lv (.int x :: rest) μ (f x)) : Go g own cc n rk d cv pc lv st0 μ (qq.bind f) := by
  exact g_callV As rest M hC hdd hs hw hn hst hrm hd (fun r2 h2 => kk r2 h2)
theorem g_sIp {qq : Option (Int32)} {f : Int32 → Option ρ} {y : MethodName} {c2 : ByteArray} {n2 np d2 idx : Nat} {ret : Option FieldType} {st0 : List Value} (As rest : List Value) (M : MwS own idx y c2 n2 ret np) (hC : Ct g y c2 n2 ret d2 (cvIp μ) As μ qq) (hdd : d2 + 1 ≤ d) (hn : As.length = np) (hst : st0 = As.reverse ++ rest) (hrm : (rest.map fun v => v.category).sum ≤ 8) (hd : decode cc pc = .ok (.invokestatic idx, 3)) (kk : ∀ x : Int32, qq = some x → Go g own cc n rk d cv (pc + 3) lv (.int x :: rest) μ (f x)) : Go g own cc n rk d cv pc lv st0 μ (qq.bind f) := by
  exact g_callS As rest M hC hdd hn hst hrm hd (fun r2 h2 => kk r2 h2)
theorem g_vJp {qq : Option (Int64)} {f : Int64 → Option ρ} {y : MethodName} {c2 : ByteArray} {n2 np d2 idx b ci w : Nat} {ret : Option FieldType} {st0 : List Value} (As rest : List Value) (M : MwV own idx ci y c2 n2 ret np) (hC : Ct g y c2 n2 ret d2 (cvJp μ) (.ref (gb g + b) :: As) μ qq) (hdd : d2 + 1 ≤ d) (hs : shp b = (10 + ci, w)) (hw : 10 + ci ≠ 99) (hn : As.length = np) (hst : st0 = As.reverse ++ .ref (gb g + b) :: rest) (hrm : (rest.map fun v => v.category).sum ≤ 8) (hd : decode cc pc = .ok (.invokevirtual idx, 3)) (kk : ∀ x : Int64, qq = some x → Go g own cc n rk d cv (pc + 3) lv (.long x :: rest) μ (f x)) : Go g own cc n rk d cv pc lv st0 μ (qq.bind f) := by
  exact g_callV As rest M hC hdd hs hw hn hst hrm hd (fun r2 h2 => kk r2 h2)
theorem g_sJp {qq : Option (Int64)} {f : Int64 → Option ρ} {y : MethodName} {c2 : ByteArray} {n2 np d2 idx : Nat} {ret : Option FieldType} {st0 : List Value} (As rest : List Value) (M : MwS own idx y c2 n2 ret np) (hC : Ct g y c2 n2 ret d2 (cvJp μ) As μ qq) (hdd : d2 + 1 ≤ d) (hn : As.length = np) (hst : st0 = As.reverse ++ rest) (hrm : (rest.map fun v => v.category).sum ≤ 8) (hd : decode cc pc = .ok (.invokestatic idx, 3)) (kk : ∀ x : Int64, qq = some x → Go g own cc n rk d cv (pc + 3) lv (.long x :: rest) μ (f x)) : Go g own cc n rk d cv pc lv st0 μ (qq.bind f) := by
  exact g_callS As rest M hC hdd hn hst hrm hd (fun r2 h2 => kk r2 h2)
theorem g_vZp {qq : Option (Bool)} {f : Bool → Option ρ} {y : MethodName} {c2 : ByteArray} {n2 np d2 idx b ci w : Nat} {ret : Option FieldType} {st0 : List Value} (As rest : List Value) (M : MwV own idx ci y c2 n2 ret np) (hC : Ct g y c2 n2 ret d2 (cvZp μ) (.ref (gb g + b) :: As) μ qq) (hdd : d2 + 1 ≤ d) (hs : shp b = (10 + ci, w)) (hw : 10 + ci ≠ 99) (hn : As.length = np) (hst : st0 = As.reverse ++ .ref (gb g + b) :: rest) (hrm : (rest.map fun v => v.category).sum ≤ 8) (hd : decode cc pc = .ok (.invokevirtual idx, 3)) (kk : ∀ x : Bool, qq = some x → Go g own cc n rk d cv (pc + 3) lv (.int (bI x) :: rest) μ (f x)) : Go g own cc n rk d cv pc lv st0 μ (qq.bind f) := by
  exact g_callV As rest M hC hdd hs hw hn hst hrm hd (fun r2 h2 => kk r2 h2)
theorem g_sZp {qq : Option (Bool)} {f : Bool → Option ρ} {y : MethodName} {c2 : ByteArray} {n2 np d2 idx : Nat} {ret : Option FieldType} {st0 : List Value} (As rest : List Value) (M : MwS own idx y c2 n2 ret np) (hC : Ct g y c2 n2 ret d2 (cvZp μ) As μ qq) (hdd : d2 + 1 ≤ d) (hn : As.length = np) (hst : st0 = As.reverse ++ rest) (hrm : (rest.map fun v => v.category).sum ≤ 8) (hd : decode cc pc = .ok (.invokestatic idx, 3)) (kk : ∀ x : Bool, qq = some x → Go g own cc n rk d cv (pc + 3) lv (.int (bI x) :: rest) μ (f x)) : Go g own cc n rk d cv pc lv st0 μ (qq.bind f) := by
  exact g_callS As rest M hC hdd hn hst hrm hd (fun r2 h2 => kk r2 h2)
end GW
theorem g_retZp {g : GG} {own : String} {cc : ByteArray} {n : Nat} {d pc : Nat} {lv : List (Nat × Value)} {μ : Mm} {x : Int32} (hd : decode cc pc = .ok (.ireturn, 1)) : Go g own cc n .ireturn d (cvZp μ) pc lv [.int x] μ (if x = 0 then some false else if x = 1 then some true else none) := by
  refine g_if (fun h => ?_) (fun _ => g_if (fun h => ?_) (fun _ => g_none))
  · subst h
    exact g_ret hd rfl rfl
  · subst h
    exact g_ret hd rfl rfl
section CP
variable {g : GG} {y : MethodName} {cc : ByteArray} {n d : Nat} {as : List Value} {μ : Mm}
theorem ct_Ip {o : Option Int32} (hpl : plainName y.cls = true) (hlen : (lg_sl as).length ≤ n) (h : Go g y.cls cc n .ireturn d (cvIp μ) 0 (lv_args 0 as) [] μ o) : Ct g y cc n (some .int) d (cvIp μ) as μ o :=
  ct_go hpl hlen h (fun r p e s m args below meth c H locs ls pc hx hb hr hlk hS hP hd => W.iret hx hb hr (fun t ht _ => ⟨rfl, by rw [ht]; exact hP, hS.F ht⟩) hS.2.2 hd hlk)
theorem ct_Zp {o : Option Bool} (hpl : plainName y.cls = true) (hlen : (lg_sl as).length ≤ n) (h : Go g y.cls cc n .ireturn d (cvZp μ) 0 (lv_args 0 as) [] μ o) : Ct g y cc n (some .boolean) d (cvZp μ) as μ o :=
  ct_go hpl hlen h (fun r p e s m args below meth c H locs ls pc hx hb hr hlk hS hP hd => W.zret hx hb hr (bI_nar r) (fun t ht _ => ⟨rfl, by rw [ht]; exact hP, hS.F ht⟩) hS.2.2 hd hlk)
theorem ct_Jp {o : Option Int64} (hpl : plainName y.cls = true) (hlen : (lg_sl as).length ≤ n) (h : Go g y.cls cc n .lreturn d (cvJp μ) 0 (lv_args 0 as) [] μ o) : Ct g y cc n (some .long) d (cvJp μ) as μ o :=
  ct_go hpl hlen h (fun r p e s m args below meth c H locs ls pc hx hb hr hlk hS hP hd => W.lret hx hb hr (fun t ht _ => ⟨rfl, by rw [ht]; exact hP, hS.F ht⟩) hS.2.2 hd hlk)
end CP

