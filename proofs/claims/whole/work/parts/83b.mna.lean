/-! ===== what the tables say of arrays of arrays ===== -/
def AOA (t : FieldType) (U : State) : Prop := (Cond.arrayOver (.array t)).before #[] U = true
theorem AOA_spec {t : FieldType} {s : State} (h : AOA t s) : ∃ comp c k, s.vm.findClass (FieldType.array t).toString = some comp ∧ (s.vm.classes.findIdx? fun x => match x.kind with | .array component _ => component == comp | _ => false) = some c ∧ s.vm.classes[c]? = some k ∧ k.kind = .array comp (.array t) ∧ s.vm.findClass ("[" ++ (FieldType.array t).toString) = some c := by
  unfold AOA Cond.before at h
  simp only [Cond.holds, Cond.value, beq_iff_eq] at h
  cases hc : s.vm.findClass (FieldType.array t).toString with
  | none => simp [hc] at h
  | some comp =>
    simp only [hc, Option.bind_some, Option.bind_eq_some_iff, Option.map_eq_some_iff] at h
    obtain ⟨c, hi, k, hk, hb⟩ := h
    obtain ⟨hlt, hp, -⟩ := Array.findIdx?_eq_some_iff_getElem.mp hi
    have hkk : s.vm.classes[c] = k := (Array.getElem?_eq_some_iff.mp hk).2
    rw [hkk] at hp
    cases hkind : k.kind with
    | array component ty =>
      rw [hkind] at hb hp
      simp at hb hp
      exact ⟨comp, c, k, rfl, hi, hk, by rw [hkind, hp, hb.1], hb.2⟩
    | _ => rw [hkind] at hb; simp at hb
/-! ===== new T[N][K], out of the machine's own words ===== -/
def mwO (c : ClassId) (N h0 i : Nat) : Cell := arrV c N (fun j => va_rf (if j < i then some (h0 + 1 + j) else none))
def mwR (c : ClassId) (K : Nat) (v : Value) : Cell := { cls := c, slots := Array.replicate K v, vm := .none }
theorem mwO_0 (c : ClassId) (N h0 : Nat) : ({ cls := c, slots := Array.replicate N .null, vm := .none } : Cell) = mwO c N h0 0 := by
  rw [arrV_new]
  refine congrArg (arrV c N) (funext fun j => ?_)
  rw [if_neg (Nat.not_lt_zero j)]
  rfl
theorem mwO_s (c : ClassId) (N h0 i : Nat) : (mwO c N h0 i).setSlot i (.ref (h0 + 1 + i)) = mwO c N h0 (i + 1) := by
  unfold mwO
  rw [arrV_store]
  refine congrArg (arrV c N) (funext fun j => ?_)
  unfold updV
  by_cases q : j = i
  · rw [if_pos q, if_pos (by omega), q]
    rfl
  · rw [if_neg q]
    show va_rf (if j < i then some (h0 + 1 + j) else none) = _
    by_cases q2 : j < i
    · rw [if_pos q2, if_pos (by omega)]
    · rw [if_neg q2, if_neg (by omega)]
theorem mw_lt (s : State) (x : Cell) {a : Nat} (h : a < s.heap.size) : (s.pushCell x).heap[a]? = s.heap[a]? := by
  show (s.heap.push x)[a]? = _
  rw [Array.getElem?_push, if_neg (Nat.ne_of_lt h)]
def mwS (s : State) (c cB : ClassId) (N K : Nat) (v : Value) : Nat → State
  | 0 => s.pushCell (mwO c N s.heap.size 0)
  | i + 1 => ((mwS s c cB N K v i).pushCell (mwR cB K v)).setCell s.heap.size (mwO c N s.heap.size (i + 1))
theorem mwS_top (s : State) (f : JFrame) (c cB : ClassId) (N K : Nat) (v : Value) : ∀ i, mwS (s.setTop f) c cB N K v i = (mwS s c cB N K v i).setTop f
  | 0 => rfl
  | i + 1 => by
    show ((mwS (s.setTop f) c cB N K v i).pushCell (mwR cB K v)).setCell s.heap.size (mwO c N s.heap.size (i + 1)) = _
    rw [mwS_top s f c cB N K v i]
    rfl
theorem mwS_facts (s : State) (c cB : ClassId) (N K : Nat) (v : Value) : ∀ i, (mwS s c cB N K v i).heap.size = s.heap.size + 1 + i ∧ (mwS s c cB N K v i).heap[s.heap.size]? = some (mwO c N s.heap.size i) ∧ (mwS s c cB N K v i).vm = s.vm ∧ (mwS s c cB N K v i).slotsUsed = s.slotsUsed + N + i * K ∧ (∀ x : Nat, x < s.heap.size → (mwS s c cB N K v i).heap[x]? = s.heap[x]?) ∧ ∀ j : Nat, j < i → (mwS s c cB N K v i).heap[s.heap.size + 1 + j]? = some (mwR cB K v)
  | 0 => by
    refine ⟨by simp [mwS], by simp [mwS], rfl, ?_, fun x hx => ?_, fun j hj => absurd hj (Nat.not_lt_zero j)⟩
    · show s.slotsUsed + (mwO c N s.heap.size 0).slots.size = _
      unfold mwO
      rw [arrV_size]
      omega
    · exact mw_lt _ _ hx
  | i + 1 => by
    obtain ⟨h1, h2, h3, h4, h5, h6⟩ := mwS_facts s c cB N K v i
    have hs : ((mwS s c cB N K v i).pushCell (mwR cB K v)).heap.size = s.heap.size + 1 + i + 1 := by
      show ((mwS s c cB N K v i).heap.push _).size = _
      rw [Array.size_push, h1]
    have keep : ∀ x : Nat, x ≠ s.heap.size → (mwS s c cB N K v (i + 1)).heap[x]? = ((mwS s c cB N K v i).pushCell (mwR cB K v)).heap[x]? := fun x hx => heapAt_setCell_ne _ (Ne.symm hx)
    refine ⟨?_, ?_, h3, ?_, fun x hx => ?_, fun j hj => ?_⟩
    · show (((mwS s c cB N K v i).pushCell (mwR cB K v)).setCell s.heap.size _).heap.size = _
      rw [size_setCell, hs]
      omega
    · exact heapAt_setCell_self _ (by rw [hs]; exact Nat.lt_succ_of_le (Nat.le_trans (Nat.le_succ _) (Nat.le_add_right _ _)))
    · show (mwS s c cB N K v i).slotsUsed + (mwR cB K v).slots.size = _
      rw [h4]
      show _ + (Array.replicate K v).size = _
      rw [Array.size_replicate, Nat.succ_mul]
      omega
    · rw [keep x (by omega), mw_lt _ _ (by rw [h1]; omega)]
      exact h5 x hx
    · rw [keep _ (by omega)]
      by_cases q : j = i
      · subst q
        rw [← h1]
        exact State.heap_pushCell_size _ _
      · rw [mw_lt _ _ (by rw [h1]; omega)]
        exact h6 j (by omega)
theorem mwS_java (s : State) (c cB : ClassId) (N K : Nat) (v : Value) : ∀ i, (mwS s c cB N K v i).topJava? = s.topJava?
  | 0 => rfl
  | i + 1 => mwS_java s c cB N K v i
section MW
variable {E : CtlPost} {e : Env} {d : Bool} {acts : List Action} {s : State}
theorem mw_row {cB cc : ClassId} {kB : Class} {ty : FieldType} {k : Int32} {Q : Addr → Pre} (hk : s.vm.classes[cB]? = some kB) (hkind : kB.kind = .array cc ty) (hm : ¬ k < 0) (hlim : ¬ k.toNatClampNeg > e.platform.arrayLengthLimit) (hheap : ¬ k.toNatClampNeg * componentBytes ty > e.platform.maxHeapBytes) (hcells : s.heap.size < e.platform.maxCells) (hslots : s.slotsUsed + k.toNatClampNeg ≤ e.platform.maxSlots) (hfit : fits ty (defaultValue ty) = true) (hq : ∀ acts', Q s.heap.size d acts' (s.pushCell (mwR cB k.toNatClampNeg (defaultValue ty)))) : wp (multianewarray.make cB [k]) Q E e d acts s := by
  unfold multianewarray.make
  simp only [wp_bind', Jvm.W.ite, hm, if_false, wp_pure', Jvm.W.theClass, hk, Option.some.injEq, exists_eq_left', hkind]
  exact Jvm.W.newArray_of hk hkind hlim hheap hcells hslots hfit hq
theorem mw_make {cA cB cc : ClassId} {kA kB : Class} {ty : FieldType} {n k : Int32} {Q : Addr → Pre} (hkA : s.vm.classes[cA]? = some kA) (hkindA : kA.kind = .array cB (.array ty)) (hkB : s.vm.classes[cB]? = some kB) (hkindB : kB.kind = .array cc ty) (hn : ¬ n < 0) (hn0 : ¬ n = 0) (hk : ¬ k < 0) (hlim1 : ¬ n.toNatClampNeg > e.platform.arrayLengthLimit) (hheap1 : ¬ n.toNatClampNeg * 4 > e.platform.maxHeapBytes) (hlim : ¬ k.toNatClampNeg > e.platform.arrayLengthLimit) (hheap : ¬ k.toNatClampNeg * componentBytes ty > e.platform.maxHeapBytes) (hcells : s.heap.size + (1 + n.toNatClampNeg) ≤ e.platform.maxCells) (hslots : s.slotsUsed + (n.toNatClampNeg + n.toNatClampNeg * k.toNatClampNeg) ≤ e.platform.maxSlots) (hfit : fits ty (defaultValue ty) = true) (hq : ∀ d' acts', Q s.heap.size d' acts' (mwS s cA cB n.toNatClampNeg k.toNatClampNeg (defaultValue ty) n.toNatClampNeg)) : wp (multianewarray.make cA [n, k]) Q E e d acts s := by
  have hbeq : (n == 0) = false := by simp [hn0]
  unfold multianewarray.make
  simp only [wp_bind', Jvm.W.ite, hn, if_false, wp_pure', Jvm.W.theClass, hkA, Option.some.injEq, exists_eq_left', hkindA, hbeq, Bool.false_eq_true]
  refine Jvm.W.newArray_of hkA hkindA hlim1 hheap1 (by omega) (by omega) rfl (fun acts1 => ?_)
  have e0 : s.pushCell { cls := cA, slots := Array.replicate n.toNatClampNeg Value.null } = mwS s cA cB n.toNatClampNeg k.toNatClampNeg (defaultValue ty) 0 := congrArg s.pushCell (mwO_0 cA n.toNatClampNeg s.heap.size)
  rw [e0]
  have er : ∀ N : Nat, ([:N] : Std.Legacy.Range).size = N := fun N => by simp [Std.Legacy.Range.size]
  simp only [wp_bind', Std.Legacy.Range.forIn_eq_forIn_range', er]
  refine wp_forIn_inv (fun rest s' => ∃ i, rest = List.range' i (n.toNatClampNeg - i) ∧ i ≤ n.toNatClampNeg ∧ s' = mwS s cA cB n.toNatClampNeg k.toNatClampNeg (defaultValue ty) i) _ _ ⟨0, by rw [Nat.sub_zero], Nat.zero_le _, rfl⟩ (fun x rest s' d' acts' Q' hI hy => ?_) (fun s' d' acts' hI => ?_)
  · obtain ⟨i, hr, hi, rfl⟩ := hI
    obtain ⟨f1, f2, f3, f4, f5, f6⟩ := mwS_facts s cA cB n.toNatClampNeg k.toNatClampNeg (defaultValue ty) i
    have hlt : i < n.toNatClampNeg := by
      rcases Nat.lt_or_ge i n.toNatClampNeg with q | q
      · exact q
      · rw [show n.toNatClampNeg - i = 0 by omega] at hr
        cases hr
    rw [show n.toNatClampNeg - i = (n.toNatClampNeg - (i + 1)) + 1 by omega, List.range'_succ] at hr
    obtain ⟨rfl, rfl⟩ := List.cons.inj hr
    have hmul : (x + 1) * k.toNatClampNeg ≤ n.toNatClampNeg * k.toNatClampNeg := Nat.mul_le_mul_right _ hlt
    rw [Nat.succ_mul] at hmul
    simp only [wp_bind']
    refine mw_row (by rw [f3]; exact hkB) hkindB hk hlim hheap (by rw [f1]; omega) (by rw [f4]; omega) hfit (fun acts2 => ?_)
    simp only [wp_bind', Jvm.W.writeLoc, wp_pure']
    refine ⟨mwO cA n.toNatClampNeg s.heap.size x, ?_, ?_, ?_, ?_, ?_⟩
    · rw [mw_lt _ _ (by rw [f1]; omega)]
      exact f2
    · intro h
      cases h
    · unfold mwO
      rw [arrV_size]
      exact hlt
    · show State.fitsSlot _ cA .none x _ = true
      simp [State.fitsSlot, State.slotType?, f3, hkA, hkindA, fits]
    · refine hy _ _ _ ⟨x + 1, rfl, hlt, ?_⟩
      rw [f1, mwO_s]
      rfl
  · obtain ⟨i, hr, hi, rfl⟩ := hI
    have hN : i = n.toNatClampNeg := by
      rcases Nat.lt_or_ge i n.toNatClampNeg with q | q
      · rw [show n.toNatClampNeg - i = (n.toNatClampNeg - (i + 1)) + 1 by omega, List.range'_succ] at hr
        cases hr
      · omega
    subst hN
    simp only [wp_pure']
    exact hq _ _
theorem mw_cold {f : JFrame} {index cA : Nat} {vm' : Vm} {Q : Unit → Pre} (hs : s.topJava?.isSome) (hg : (Jvm.resolveClass f.method.cls index).Gives e.toSetting s.vm (.ok cA) vm') (hr : vm'.classReady f.method.cls index cA) (hsz : vm'.classes.size ≤ s.vm.classes.size) : wp (multianewarray.sem index 2) Q E e d acts (s.setTop f) ↔ wp (multianewarray.sem index 2) Q E e d acts ((s.setVm vm').setTop f) := by
  simp only [multianewarray.sem, wp_bind']
  exact Jvm.W.resolveClassAt_transfer (s := s.setTop f) (State.method?_setTop f hs) hg hr hsz
theorem mw_sem {f : JFrame} {index : Nat} {rest : List Value} {cA cB cc : ClassId} {kA kB : Class} {ty : FieldType} {n k : Int32} {Q : Unit → Pre} (hs : s.topJava?.isSome) (hr : s.vm.classReady f.method.cls index cA) (hstack : f.stack = .int k :: .int n :: rest) (hkA : s.vm.classes[cA]? = some kA) (hkindA : kA.kind = .array cB (.array ty)) (hkB : s.vm.classes[cB]? = some kB) (hkindB : kB.kind = .array cc ty) (hn : ¬ n < 0) (hn0 : ¬ n = 0) (hk : ¬ k < 0) (hlim1 : ¬ n.toNatClampNeg > e.platform.arrayLengthLimit) (hheap1 : ¬ n.toNatClampNeg * 4 > e.platform.maxHeapBytes) (hlim : ¬ k.toNatClampNeg > e.platform.arrayLengthLimit) (hheap : ¬ k.toNatClampNeg * componentBytes ty > e.platform.maxHeapBytes) (hcells : s.heap.size + (1 + n.toNatClampNeg) ≤ e.platform.maxCells) (hslots : s.slotsUsed + (n.toNatClampNeg + n.toNatClampNeg * k.toNatClampNeg) ≤ e.platform.maxSlots) (hfit : fits ty (defaultValue ty) = true) (hq : ∀ acts', Q () true acts' ((mwS s cA cB n.toNatClampNeg k.toNatClampNeg (defaultValue ty) n.toNatClampNeg).setTop { f with stack := .ref s.heap.size :: rest })) : wp (multianewarray.sem index 2) Q E e d acts (s.setTop f) := by
  simp only [multianewarray.sem, wp_bind', Jvm.W.resolveClassAt_ready (State.method?_setTop f hs) hr]
  refine (Jvm.Op.popN_top (args := [.int n, .int k]) (rest := rest) hs hstack).mpr ?_
  simp only [List.mapM_cons, List.mapM_nil, wp_bind', wp_pure']
  refine mw_make (s := s.setTop { f with stack := rest }) hkA hkindA hkB hkindB hn hn0 hk hlim1 hheap1 hlim hheap hcells hslots hfit (fun d' acts' => ?_)
  rw [mwS_top]
  have ht : (mwS s cA cB n.toNatClampNeg k.toNatClampNeg (defaultValue ty) n.toNatClampNeg).topJava?.isSome := by
    rw [mwS_java]
    exact hs
  simp only [wp_bind', Jvm.W.mark, Jvm.W.pushRef, State.topJava?_setTop' _ ht, Option.some.injEq, exists_eq_left', State.setTop_setTop]
  exact hq _
end MW
section MN
variable {p : Program} {l : Launch} {e : Env} {R : Room} {s : State} {m : MethodId} {args : Array Value} {below : List Frame} {meth : Method} {c : Code} {H : Heap} {locs : List Loc} {cells slots : Nat} {Q : State → Prop}
variable {cc : ByteArray} {pc : Nat} {ls : Array Slot} {rest : List Value}
theorem mw_stand {T : State} (X : Stand p l e R s m args below meth c T locs cells slots) (cA cB : ClassId) (N K : Nat) (v : Value) : ∀ i, ∃ L : List Loc, (∀ q ∈ L, q.base = T.heap.size) ∧ Stand p l e R s m args below meth c (mwS T cA cB N K v i) (locs ++ L) (cells + 1 + i) (slots + N + i * K)
  | 0 => by
    refine ⟨[], (fun q hq => by cases hq), ?_⟩
    have h := X.pushed (mwO cA N T.heap.size 0)
    have hz : (mwO cA N T.heap.size 0).slots.size = N := by
      unfold mwO
      rw [arrV_size]
    rw [hz] at h
    rw [List.append_nil, Nat.zero_mul, Nat.add_zero, Nat.add_zero]
    exact h
  | i + 1 => by
    obtain ⟨L, hL, h⟩ := mw_stand X cA cB N K v i
    obtain ⟨f1, f2, -, -, -, -⟩ := mwS_facts T cA cB N K v i
    have h1 := h.pushed (mwR cB K v)
    have hz : (mwR cB K v).slots.size = K := Array.size_replicate
    rw [hz] at h1
    have h2 := h1.stored (a := T.heap.size) (cell := mwO cA N T.heap.size i) (by rw [mw_lt _ _ (by rw [f1]; exact Nat.lt_of_lt_of_le (Nat.lt_succ_self _) (Nat.le_add_right _ _))]; exact f2) i (.ref (T.heap.size + 1 + i))
    rw [mwO_s] at h2
    refine ⟨L ++ [⟨T.heap.size, i⟩], fun q hq => ?_, ?_⟩
    · rcases List.mem_append.mp hq with z | z
      · exact hL q z
      · rw [List.mem_singleton.mp z]
    · rw [← List.append_assoc, show cells + 1 + (i + 1) = cells + 1 + i + 1 by omega, Nat.succ_mul, show slots + N + (i * K + K) = slots + N + i * K + K by omega]
      exact h2
theorem mn_rule2 (hexec : p.tables.exec = Jvm.exec) (hb : c.code = cc) {own : String} {index : Nat} {ty : FieldType} (hown : s.vm.findClass own = some m.cls) (hclink : (Cond.classLink own index ("[" ++ (FieldType.array ty).toString)).before args s = true) (hover : AOA ty s) (harr : (Cond.arrayClass ty).before args s = true) {n k : Int32} {N K : Nat} (hn : ¬ n < 0) (hn0 : ¬ n = 0) (hk : ¬ k < 0) (hN : n.toNatClampNeg = N) (hM : k.toNatClampNeg = K) (hb1 : N * 4 ≤ 536870912) (hb2 : K * componentBytes ty ≤ 536870912) (hb3 : K ≤ 536870912) (hdf : fits ty (defaultValue ty) = true) (hcells : cells + (1 + N) ≤ R.cells) (hslots : slots + (N + N * K) ≤ R.slots) (hdg : decode cc pc = .ok (.multianewarray index 2, 4))
    (kk : ∀ (H1 : Heap) (L : List Loc) (cA cB : ClassId), (∀ q ∈ L, q.base = H.size) → s.vm.findClass ("[" ++ (FieldType.array ty).toString) = some cA → s.vm.findClass (FieldType.array ty).toString = some cB → H1.size = H.size + 1 + N → (∀ x : Nat, x < H.size → H1[x]? = H[x]?) → H1[H.size]? = some (arrV cA N (fun j => va_rf (if j < N then some (H.size + 1 + j) else none))) → (∀ j : Nat, j < N → H1[H.size + 1 + j]? = some (arrV cB K (fun _ => defaultValue ty))) →
      W p l e R s m args below meth c H1 (locs ++ L) (cells + 1 + N) (slots + N + N * K) Q (F0 m (pc + 4) ls (.ref H.size :: rest))) : W p l e R s m args below meth c H locs cells slots Q (F0 m pc ls (.int k :: .int n :: rest)) := by
  subst hN
  subst hM
  subst hb
  intro T hT X
  have hpl : e.platform.magicAccessors = ({} : Platform).magicAccessors := by rw [X.admits.platform]
  obtain ⟨cB, cA, kA, h1, -, h3, h4, h5⟩ := AOA_spec hover
  obtain ⟨cB2, kB, cc2, b1, b2, b3⟩ := Cond.arrayClass_spec harr
  have eB : cB = cB2 := Option.some.inj (h1.symm.trans b1)
  subst eB
  obtain ⟨cA2, hfA, hcl⟩ := Cond.classLink_spec hown hclink e.platform hpl
  have eA : cA = cA2 := Option.some.inj (h5.symm.trans hfA)
  subst eA
  obtain ⟨hg₁, hwarm₁, hready₁⟩ := State.classEntry (e := e) X.warmed hcl
  have hsz₁ : (T.vm.noted m.cls index (.cls cA)).classes.size ≤ T.vm.classes.size := by no_record
  generalize T.vm.noted m.cls index (.cls cA) = vm₁ at hg₁ hwarm₁ hready₁ hsz₁
  have hal : s.vm.Alike vm₁ := hwarm₁.alike
  obtain ⟨kA₁, hkA₁, heA⟩ := hal.2.2 _ _ h3
  obtain ⟨kB₁, hkB₁, heB⟩ := hal.2.2 _ _ b2
  have hkindA : kA₁.kind = .array cB (.array ty) := by rw [heA]; exact h4
  have hkindB : kB₁.kind = .array cc2 ty := by rw [heB]; exact b3
  have hl1 := Launch.admits_arrayLengthLimit X.admits
  have hl2 := Launch.admits_maxHeapBytes X.admits
  obtain ⟨hr1, hr2⟩ := X.roomAbove hcells hslots
  have X₁ := X.noted hwarm₁
  obtain ⟨L, hL, X₂⟩ := mw_stand X₁ cA cB n.toNatClampNeg k.toNatClampNeg (defaultValue ty) n.toNatClampNeg
  have hTh : (T.setVm vm₁).heap = H := hT
  obtain ⟨f1, f2, -, -, f5, f6⟩ := mwS_facts (T.setVm vm₁) cA cB n.toNatClampNeg k.toNatClampNeg (defaultValue ty) n.toNatClampNeg
  rw [hTh] at f1 f2 f5 f6 hL
  obtain ⟨t, a1, b1'⟩ := kk _ L cA cB hL h5 h1 f1 f5 f2 (fun j hj => by rw [f6 j hj, ← arrV_new]; rfl) _ rfl X₂
  refine ⟨t, ?_, b1'⟩
  jvm_step X.here [hexec, hdg]
  refine (mw_cold (s := T) (f := F0 m pc ls (.int k :: .int n :: rest)) X.here.top hg₁ hready₁ hsz₁).mpr ?_
  refine mw_sem (s := T.setVm vm₁) (f := F0 m pc ls (.int k :: .int n :: rest)) X₁.here.top hready₁ rfl hkA₁ hkindA hkB₁ hkindB hn hn0 hk (by rw [hl1]; omega) (by rw [hl2]; omega) (by rw [hl1]; omega) (by rw [hl2]; omega) hr1 hr2 hdf (fun acts => ?_)
  intro acts2
  rw [afterInstr_ok]
  rw [← hT] at a1
  exact a1
end MN
