/-! ===== 'new int[n][k]', by the machine's own words ===== -/
/-- the outer row, of which i places are filled; and the machine behind i inner rows -/
def mo (cA : ClassId) (N h i : Nat) : Cell := arrV cA N (fun j => if j < i then .ref (h + 1 + j) else .null)
def mf (s : State) (cA cI : ClassId) (N K : Nat) : Nat → State
  | 0 => s.pushCell (mo cA N s.heap.size 0)
  | i + 1 => ((mf s cA cI N K i).pushCell (arrV cI K (fun _ => .int 0))).setCell s.heap.size (mo cA N s.heap.size (i + 1))
theorem mo_0 (cA : ClassId) (N h : Nat) : ({ cls := cA, slots := Array.replicate N .null, vm := .none } : Cell) = mo cA N h 0 := by
  rw [arrV_new]
  unfold mo
  congr 1
theorem mo_s (cA : ClassId) (N h i : Nat) : (mo cA N h i).setSlot i (.ref (h + 1 + i)) = mo cA N h (i + 1) := by
  unfold mo
  rw [arrV_store]
  congr 1
  funext j
  unfold updV
  by_cases c : j = i
  · subst c; rw [if_pos rfl, if_pos (by omega)]
  · rw [if_neg c]
    show (if j < i then Value.ref (h + 1 + j) else Value.null) = _
    by_cases c2 : j < i
    · rw [if_pos c2, if_pos (by omega)]
    · rw [if_neg c2, if_neg (by omega)]
theorem mf_facts (s : State) (cA cI : ClassId) (N K : Nat) : ∀ i, (mf s cA cI N K i).heap.size = s.heap.size + 1 + i ∧ (mf s cA cI N K i).heap[s.heap.size]? = some (mo cA N s.heap.size i) ∧ (mf s cA cI N K i).vm = s.vm ∧ (mf s cA cI N K i).slotsUsed = s.slotsUsed + N + i * K ∧ (∀ q, q < s.heap.size → (mf s cA cI N K i).heap[q]? = s.heap[q]?) ∧ ∀ j, j < i → (mf s cA cI N K i).heap[s.heap.size + 1 + j]? = some (arrV cI K (fun _ => .int 0))
  | 0 => by
    refine ⟨?_, State.heap_pushCell_size _ _, rfl, ?_, fun q hq => State.heap_pushCell_of_lt _ _ hq, fun j hj => by omega⟩
    · show (s.heap.push _).size = _
      rw [Array.size_push]
    · show s.slotsUsed + (mo cA N s.heap.size 0).slots.size = _
      unfold mo
      rw [arrV_size]
      omega
  | i + 1 => by
    obtain ⟨h1, h2, h3, h4, h5, h6⟩ := mf_facts s cA cI N K i
    have hl : s.heap.size < ((mf s cA cI N K i).pushCell (arrV cI K (fun _ => .int 0))).heap.size := by
      show _ < ((mf s cA cI N K i).heap.push _).size
      rw [Array.size_push, h1]
      omega
    refine ⟨?_, heapAt_setCell_self _ hl, h3, ?_, fun q hq => ?_, fun j hj => ?_⟩
    · show (State.setCell _ _ _).heap.size = _
      rw [size_setCell]
      show ((mf s cA cI N K i).heap.push _).size = _
      rw [Array.size_push, h1]
      omega
    · show (mf s cA cI N K i).slotsUsed + (arrV cI K (fun _ => .int 0)).slots.size = _
      rw [h4, arrV_size, Nat.succ_mul]
      omega
    · show (State.setCell _ _ _).heap[q]? = _
      have x1 : q < (mf s cA cI N K i).heap.size := by rw [h1]; exact Nat.lt_of_lt_of_le hq (by omega)
      rw [heapAt_setCell_ne (a := s.heap.size) (b := q) _ (Nat.ne_of_gt hq), State.heap_pushCell_of_lt (a := q) _ _ x1]
      exact h5 q hq
    · show (State.setCell _ _ _).heap[s.heap.size + 1 + j]? = _
      rw [heapAt_setCell_ne (a := s.heap.size) (b := s.heap.size + 1 + j) _ (Nat.ne_of_lt (Nat.lt_of_lt_of_le (Nat.lt_succ_self _) (Nat.le_add_right _ _)))]
      by_cases c : j = i
      · subst c
        rw [← h1]
        exact State.heap_pushCell_size _ _
      · have x1 : s.heap.size + 1 + j < (mf s cA cI N K i).heap.size := by rw [h1]; exact Nat.add_lt_add_left (by omega) _
        rw [State.heap_pushCell_of_lt (a := s.heap.size + 1 + j) _ _ x1]
        exact h6 j (by omega)
theorem mf_top (s : State) (f : JFrame) (cA cI : ClassId) (N K : Nat) : ∀ i, mf (s.setTop f) cA cI N K i = (mf s cA cI N K i).setTop f
  | 0 => rfl
  | i + 1 => by
    show ((mf (s.setTop f) cA cI N K i).pushCell _).setCell _ _ = _
    rw [mf_top s f cA cI N K i]
    rfl
theorem mf_is (s : State) (cA cI : ClassId) (N K : Nat) (h : s.topJava?.isSome) : ∀ i, (mf s cA cI N K i).topJava?.isSome
  | 0 => h
  | i + 1 => mf_is s cA cI N K h i
section Mna
variable {E : CtlPost} {e : Env} {d : Bool} {acts : List Action} {s : State}
theorem ma_new {c comp : ClassId} {k : Class} {type : FieldType} {n : Nat} {dv : Value} (hk : s.vm.classes[c]? = some k) (hkind : k.kind = .array comp type) (hlimit : ¬ n > e.platform.arrayLengthLimit) (hheap : ¬ n * componentBytes type > e.platform.maxHeapBytes) (hc : s.heap.size < e.platform.maxCells) (hsl : s.slotsUsed + n ≤ e.platform.maxSlots) (hf : fits type dv = true) (hdv : dv.isDefault = true)
    {Q : Addr → Pre} (h : Q s.heap.size d acts (s.pushCell { cls := c, slots := Array.replicate n dv, vm := .none })) : Jvm.Sem.wp (Jvm.newArray c n dv) Q E e d acts s := by
  have hfit : ∀ i v, (Array.replicate n dv)[i]? = some v → s.fitsSlot c .none i v = true := by
    intro i v hv
    simp only [Array.getElem?_replicate] at hv
    split at hv
    · cases hv; simp [State.fitsSlot, State.slotType?, hk, hkind, hf]
    · cases hv
  have hdef : allocActs (Array.replicate n dv) s.heap.size acts = acts := by
    have hall : ((Array.replicate n dv).all (·.isDefault)) = true := by
      rw [Array.all_replicate]; split <;> simp [hdv]
    unfold allocActs; rw [if_pos hall]
  have hms : ¬ n > e.platform.maxSlots := by omega
  simp only [Jvm.newArray, Jvm.arrayFits, wp_bind', Jvm.W.ask, hlimit, Jvm.W.ite, if_false, wp_pure', Jvm.W.theClass, hk]
  refine ⟨_, rfl, ?_⟩
  rw [hkind]
  simp only [wp_bind', Jvm.W.ask, hheap, Jvm.W.ite, if_false, wp_pure', hms, Jvm.W.alloc, Array.size_replicate]
  rw [hdef]
  exact ⟨hc, hsl, hfit, h⟩
theorem ma_inner {cI comp : ClassId} {k : Class} {n : Int32} {K : Nat} (hn : ¬ n < 0) (hK : n.toNatClampNeg = K) (hk : s.vm.classes[cI]? = some k) (hkind : k.kind = .array comp .int) (hlimit : ¬ K > e.platform.arrayLengthLimit) (hheap : ¬ K * 4 > e.platform.maxHeapBytes) (hc : s.heap.size < e.platform.maxCells) (hsl : s.slotsUsed + K ≤ e.platform.maxSlots)
    {Q : Addr → Pre} (h : Q s.heap.size d acts (s.pushCell (arrV cI K (fun _ => .int 0)))) : Jvm.Sem.wp (Jvm.Op.multianewarray.make cI [n]) Q E e d acts s := by
  subst hK
  rw [Jvm.Op.multianewarray.make]
  simp only [wp_bind', Jvm.W.ite, hn, if_false, wp_pure', Jvm.W.theClass, hk]
  refine ⟨_, rfl, ?_⟩
  rw [hkind]
  refine ma_new hk hkind hlimit hheap hc hsl rfl rfl ?_
  rw [show defaultValue FieldType.int = .int 0 from rfl, arrV_new]
  exact h
theorem ma_loop {cA cI comp : ClassId} {kA kI : Class} {n : Int32} {N K : Nat} (hn : ¬ n < 0) (hK : n.toNatClampNeg = K) (hkA : s.vm.classes[cA]? = some kA) (hkindA : kA.kind = .array cI (.array .int)) (hk : s.vm.classes[cI]? = some kI) (hkind : kI.kind = .array comp .int) (hlimit : ¬ K > e.platform.arrayLengthLimit) (hheap : ¬ K * 4 > e.platform.maxHeapBytes) (hc : s.heap.size + 1 + N ≤ e.platform.maxCells) (hsl : s.slotsUsed + N + N * K ≤ e.platform.maxSlots)
    {Q : PUnit → Pre} (h : ∀ d' acts', Q PUnit.unit d' acts' (mf s cA cI N K N)) : Jvm.Sem.wp (forIn [:N] PUnit.unit fun i _ => do
      let a ← Jvm.Op.multianewarray.make cI [n]
      Jvm.writeLoc s.heap.size i (Value.ref a)
      Pure.pure (ForInStep.yield PUnit.unit)) Q E e d acts (mf s cA cI N K 0) := by
  rw [Std.Legacy.Range.forIn_eq_forIn_range']
  refine wp_forIn_inv (fun rest s' => ∃ i, i ≤ N ∧ rest = List.range' i (N - i) ∧ s' = mf s cA cI N K i) _ _ ⟨0, Nat.zero_le _, ?_, rfl⟩ ?_ ?_
  · simp [Std.Legacy.Range.size]
  · rintro x rest s' d' acts' Q' ⟨i, i1, i2, rfl⟩ hq
    have i3 : i < N := by
      by_cases c : i < N
      · exact c
      · rw [show N - i = 0 by omega] at i2
        cases i2
    rw [show N - i = (N - i - 1) + 1 by omega, List.range'_succ] at i2
    obtain ⟨e1, e2⟩ := List.cons.inj i2
    subst e1 e2
    obtain ⟨f1, f2, f3, f4, f5, f6⟩ := mf_facts s cA cI N K x
    have hb : x * K + K ≤ N * K := by
      have : (x + 1) * K ≤ N * K := Nat.mul_le_mul_right K (by omega)
      rw [Nat.succ_mul] at this
      exact this
    simp only [wp_bind', wp_pure']
    refine ma_inner hn hK (by rw [f3]; exact hk) hkind hlimit hheap (by omega) (by omega) ?_
    have x1 : s.heap.size < (mf s cA cI N K x).heap.size := by rw [f1]; omega
    simp only [wp_bind', Jvm.W.writeLoc, wp_pure']
    refine ⟨mo cA N s.heap.size x, by rw [State.heap_pushCell_of_lt (a := s.heap.size) _ _ x1]; exact f2, (fun z => by cases z), ?_, ?_, ?_⟩
    · unfold mo; rw [arrV_size]; exact i3
    · simp [State.fitsSlot, State.slotType?, mo, arrV, f3, hkA, hkindA, fits]
    · rw [show (mf s cA cI N K x).heap.size = s.heap.size + 1 + x from f1, mo_s]
      exact hq _ _ _ ⟨x + 1, by omega, by rw [show N - (x + 1) = N - x - 1 by omega], rfl⟩
  · rintro s' d' acts' ⟨i, i1, i2, rfl⟩
    have i3 : i = N := by
      by_cases c : i < N
      · rw [show N - i = (N - i - 1) + 1 by omega, List.range'_succ] at i2
        cases i2
      · omega
    subst i3
    exact h d' acts'
theorem ma_make {cA cI comp : ClassId} {kA kI : Class} {n k : Int32} {N K : Nat} (hn : ¬ n < 0) (hN : n.toNatClampNeg = N) (hk0 : ¬ k < 0) (hK : k.toNatClampNeg = K) (hkA : s.vm.classes[cA]? = some kA) (hkindA : kA.kind = .array cI (.array .int)) (hk : s.vm.classes[cI]? = some kI) (hkind : kI.kind = .array comp .int) (hlimit : ¬ K > e.platform.arrayLengthLimit) (hheap : ¬ K * 4 > e.platform.maxHeapBytes) (hlimit2 : ¬ N > e.platform.arrayLengthLimit) (hheap2 : ¬ N * 4 > e.platform.maxHeapBytes) (hc : s.heap.size + 1 + N ≤ e.platform.maxCells) (hsl : s.slotsUsed + N + N * K ≤ e.platform.maxSlots)
    {Q : Addr → Pre} (h : ∀ d' acts', Q s.heap.size d' acts' (mf s cA cI N K N)) : Jvm.Sem.wp (Jvm.Op.multianewarray.make cA [n, k]) Q E e d acts s := by
  subst hN
  have hl := ma_loop (E := E) (d := d) (acts := acts) (N := n.toNatClampNeg) hk0 hK hkA hkindA hk hkind hlimit hheap hc hsl (Q := fun _ => Q s.heap.size) h
  rw [Jvm.Op.multianewarray.make]
  simp only [wp_bind', Jvm.W.ite, hn, if_false, wp_pure', Jvm.W.theClass, hkA]
  refine ⟨_, rfl, ?_⟩
  rw [hkindA]
  simp only [wp_bind']
  refine ma_new hkA hkindA hlimit2 hheap2 (by omega) (by omega) rfl rfl ?_
  rw [mo_0 cA n.toNatClampNeg s.heap.size]
  simp only [wp_bind', Jvm.W.ite, wp_pure']
  by_cases hz : (n == 0) = true
  · rw [if_pos hz]
    rw [show List.find? (fun x => decide (x < 0)) [k] = none by simp [hk0]]
    simp only [wp_bind', wp_pure']
    exact hl
  · rw [if_neg hz]
    exact hl
theorem ma_sem {f : JFrame} {index : Nat} {rest : List Value} {cA cI comp : ClassId} {kA kI : Class} {n k : Int32} {N K : Nat} (hs : s.topJava?.isSome) (hr : s.vm.classReady f.method.cls index cA) (hstack : f.stack = .int k :: .int n :: rest) (hn : ¬ n < 0) (hN : n.toNatClampNeg = N) (hk0 : ¬ k < 0) (hK : k.toNatClampNeg = K) (hkA : s.vm.classes[cA]? = some kA) (hkindA : kA.kind = .array cI (.array .int)) (hk : s.vm.classes[cI]? = some kI) (hkind : kI.kind = .array comp .int) (hlimit : ¬ K > e.platform.arrayLengthLimit) (hheap : ¬ K * 4 > e.platform.maxHeapBytes) (hlimit2 : ¬ N > e.platform.arrayLengthLimit) (hheap2 : ¬ N * 4 > e.platform.maxHeapBytes) (hc : s.heap.size + 1 + N ≤ e.platform.maxCells) (hsl : s.slotsUsed + N + N * K ≤ e.platform.maxSlots)
    {Q : Unit → Pre} (h : ∀ acts', Q () true acts' ((mf s cA cI N K N).setTop { f with stack := .ref s.heap.size :: rest })) : Jvm.Sem.wp (Jvm.Op.multianewarray.sem index 2) Q E e d acts (s.setTop f) := by
  simp only [Jvm.Op.multianewarray.sem, wp_bind', Jvm.W.resolveClassAt_ready (State.method?_setTop f hs) hr, Jvm.popN, Jvm.W.pop, State.topJava?_setTop' _ hs, Option.some.injEq, exists_eq_left', hstack, List.cons.injEq, exists_cons_eq, State.setTop_setTop, wp_pure', List.nil_append, List.cons_append, List.mapM_cons, List.mapM_nil]
  refine ma_make (s := s.setTop { f with stack := rest }) hn hN hk0 hK hkA hkindA hk hkind hlimit hheap hlimit2 hheap2 hc hsl (fun d' acts' => ?_)
  simp only [wp_bind', Jvm.W.mark, Jvm.W.pushRef, mf_top, State.topJava?_setTop' _ (mf_is s cA cI N K hs N), Option.some.injEq, exists_eq_left', State.setTop_setTop]
  exact h acts'
theorem ma_cold {f : JFrame} {index cA : Nat} {vm' : Vm} (hs : s.topJava?.isSome) (hg : (Jvm.resolveClass f.method.cls index).Gives e.toSetting s.vm (.ok cA) vm') (hr : vm'.classReady f.method.cls index cA) (hsz : vm'.classes.size ≤ s.vm.classes.size) {Q : Unit → Pre} (h : Jvm.Sem.wp (Jvm.Op.multianewarray.sem index 2) Q E e d acts ((s.setVm vm').setTop f)) : Jvm.Sem.wp (Jvm.Op.multianewarray.sem index 2) Q E e d acts (s.setTop f) := by
  simp only [Jvm.Op.multianewarray.sem, wp_bind'] at h ⊢
  exact (Jvm.W.resolveClassAt_transfer (s := s.setTop f) (State.method?_setTop f hs) hg hr hsz).2 h
end Mna
section MnaW
variable {p : Program} {l : Launch} {e : Env} {R : Room} {s : State} {m : MethodId} {args : Array Value} {below : List Frame} {meth : Method} {c : Code} {H : Heap} {locs : List Loc} {cells slots : Nat} {Z : State → Prop}
theorem ma_stand {T : State} (X : Stand p l e R s m args below meth c T locs cells slots) (cA cI : ClassId) (N K : Nat) : ∀ i, ∃ L : List Loc, (∀ x ∈ L, x.base = T.heap.size) ∧ Stand p l e R s m args below meth c (mf T cA cI N K i) (locs ++ L) (cells + (1 + i)) (slots + (N + i * K))
  | 0 => by
    refine ⟨[], (fun x hx => by cases hx), ?_⟩
    have h := X.pushed (mo cA N T.heap.size 0)
    rw [show (mo cA N T.heap.size 0).slots.size = N by unfold mo; rw [arrV_size]] at h
    rw [List.append_nil, Nat.zero_mul]
    exact h
  | i + 1 => by
    obtain ⟨L, hL, Y⟩ := ma_stand X cA cI N K i
    obtain ⟨f1, f2, -⟩ := mf_facts T cA cI N K i
    have x1 : T.heap.size < (mf T cA cI N K i).heap.size := by rw [f1]; omega
    have Y2 := Y.pushed (arrV cI K (fun _ => .int 0))
    have Y3 := Y2.stored (a := T.heap.size) (cell := mo cA N T.heap.size i) (by rw [State.heap_pushCell_of_lt (a := T.heap.size) _ _ x1]; exact f2) i (.ref (T.heap.size + 1 + i))
    rw [mo_s, arrV_size] at Y3
    refine ⟨L ++ [⟨T.heap.size, i⟩], fun x hx => ?_, ?_⟩
    · rcases List.mem_append.mp hx with h | h
      · exact hL x h
      · cases List.mem_singleton.mp h
        rfl
    · rw [← List.append_assoc, show cells + (1 + (i + 1)) = cells + (1 + i) + 1 by omega, show slots + (N + (i + 1) * K) = slots + (N + i * K) + K by rw [Nat.succ_mul]; omega]
      exact Y3
theorem w_mna {cc : ByteArray} (hexec : p.tables.exec = Jvm.exec) (hb : c.code = cc) {own : String} {index pc : Nat} {ls : Array Slot} {rest : List Value} (hown : s.vm.findClass own = some m.cls) (hclink : (Cond.classLink own index "[[I").before args s = true)
    {cA cI comp : ClassId} {kA kI : Class} (hfA : s.vm.findClass "[[I" = some cA) (hkA : s.vm.classes[cA]? = some kA) (hkindA : kA.kind = .array cI (.array .int)) (hk : s.vm.classes[cI]? = some kI) (hkind : kI.kind = .array comp .int)
    {n k : Int32} {N K : Nat} (hn : ¬ n < 0) (hN : n.toNatClampNeg = N) (hk0 : ¬ k < 0) (hK : k.toNatClampNeg = K) (hbN : N ≤ 1000) (hbK : K ≤ 1000) (hcells : cells + (1 + N) ≤ R.cells) (hslots : slots + (N + N * K) ≤ R.slots) (hdg : decode cc pc = .ok (.multianewarray index 2, 4))
    (kk : ∀ (H' : Heap) (L : List Loc), H'.size = H.size + 1 + N → (∀ q, q < H.size → H'[q]? = H[q]?) → H'[H.size]? = some (mo cA N H.size N) → (∀ j, j < N → H'[H.size + 1 + j]? = some (arrV cI K (fun _ => .int 0))) → (∀ x ∈ L, x.base = H.size) → W p l e R s m args below meth c H' (locs ++ L) (cells + (1 + N)) (slots + (N + N * K)) Z (F0 m (pc + 4) ls (.ref H.size :: rest))) :
    W p l e R s m args below meth c H locs cells slots Z (F0 m pc ls (.int k :: .int n :: rest)) := by
  intro T hT X
  subst hT; subst hb
  have hpl : e.platform.magicAccessors = ({} : Platform).magicAccessors := by rw [X.admits.platform]
  obtain ⟨cc', hfcc, hcl⟩ := Cond.classLink_spec hown hclink e.platform hpl
  cases hfA.symm.trans hfcc
  obtain ⟨hg₁, hwarm₁, hready₁⟩ := State.classEntry (e := e) X.warmed hcl
  generalize T.vm.noted m.cls index (.cls cA) = vm₁ at hg₁ hwarm₁ hready₁
  have hal : s.vm.Alike vm₁ := hwarm₁.alike
  obtain ⟨kA₁, hkA₁, heA⟩ := hal.2.2 _ _ hkA
  have hkindA₁ : kA₁.kind = .array cI (.array .int) := by rw [heA]; exact hkindA
  obtain ⟨kI₁, hkI₁, heI⟩ := hal.2.2 _ _ hk
  have hkindI₁ : kI₁.kind = .array comp .int := by rw [heI]; exact hkind
  have l1 : ¬ N > e.platform.arrayLengthLimit := by rw [Launch.admits_arrayLengthLimit X.admits]; omega
  have l2 : ¬ K > e.platform.arrayLengthLimit := by rw [Launch.admits_arrayLengthLimit X.admits]; omega
  have l3 : ¬ N * 4 > e.platform.maxHeapBytes := by rw [Launch.admits_maxHeapBytes X.admits]; omega
  have l4 : ¬ K * 4 > e.platform.maxHeapBytes := by rw [Launch.admits_maxHeapBytes X.admits]; omega
  obtain ⟨hr1, hr2⟩ := X.roomAbove hcells hslots
  obtain ⟨L, hL, Y⟩ := ma_stand (X.noted hwarm₁) cA cI N K N
  obtain ⟨f1, f2, -, -, f5, f6⟩ := mf_facts (T.setVm vm₁) cA cI N K N
  obtain ⟨t', a1, b1⟩ := kk (mf (T.setVm vm₁) cA cI N K N).heap L f1 f5 f2 f6 hL _ rfl Y
  refine ⟨t', ?_, b1⟩
  refine Steps.instr (c := c) (f := F0 m pc ls (.int k :: .int n :: rest)) X.here ?_
  rw [hdg]
  show wpRun (p.tables.exec (.multianewarray index 2)) _ _ e _
  rw [hexec]
  show Jvm.Sem.wp (Jvm.Op.multianewarray.sem index 2) _ _ e false [] _
  refine ma_cold (s := T) X.here.top hg₁ hready₁ (by no_record) ?_
  refine ma_sem (s := T.setVm vm₁) (f := F0 m pc ls (.int k :: .int n :: rest)) (rest := rest) X.here.top hready₁ rfl hn hN hk0 hK hkA₁ hkindA₁ hkI₁ hkindI₁ l2 l4 l1 l3 (by show T.heap.size + 1 + N ≤ _; omega) (by show T.slotsUsed + N + N * K ≤ _; omega) (fun acts' acts => ?_)
  rw [afterInstr_ok]
  exact a1
end MnaW
