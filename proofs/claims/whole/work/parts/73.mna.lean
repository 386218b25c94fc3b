/-! ===== 'new int[n][k]', by the machine's own words ===== -/
/-- the outer row, of which i places are filled; and the machine behind i inner rows -/
def mo (cA : ClassId) (N h i : Nat) : Cell := arrV cA N (fun j => if j < i then .ref (h + 1 + j) else .null)
def mf (s : State) (cA cI : ClassId) (N K : Nat) : Nat → State
  | 0 => s.pushCell (mo cA N s.heap.size 0)
  | i + 1 => ((mf s cA cI N K i).pushCell (arrV cI K (fun _ => .int 0))).setCell s.heap.size (mo cA N s.heap.size (i + 1))
theorem mo_0 (cA : ClassId) (N h : Nat) : ({ cls := cA, slots := Array.replicate N .null, vm := .none } : Cell) = mo cA N h 0 := by
  rw [arrV_new]
  unfold mo
  congr 1
theorem mo_s (cA : ClassId) (N h i : Nat) : (mo cA N h i).setSlot i (.ref (h + 1 + i)) = mo cA N h (i + 1) := by
  unfold mo
  rw [arrV_store]
  congr 1
  funext j
  unfold updV
  by_cases c : j = i
  · subst c; rw [if_pos rfl, if_pos (by omega)]
  · rw [if_neg c]
    show (if j < i then Value.ref (h + 1 + j) else Value.null) = _
    by_cases c2 : j < i
    · rw [if_pos c2, if_pos (by omega)]
    · rw [if_neg c2, if_neg (by omega)]
theorem mf_facts (s : State) (cA cI : ClassId) (N K : Nat) : ∀ i, (mf s cA cI N K i).heap.size = s.heap.size + 1 + i ∧ (mf s cA cI N K i).heap[s.heap.size]? = some (mo cA N s.heap.size i) ∧ (mf s cA cI N K i).vm = s.vm ∧ (mf s cA cI N K i).slotsUsed = s.slotsUsed + N + i * K ∧ (∀ q, q < s.heap.size → (mf s cA cI N K i).heap[q]? = s.heap[q]?) ∧ ∀ j, j < i → (mf s cA cI N K i).heap[s.heap.size + 1 + j]? = some (arrV cI K (fun _ => .int 0))
  | 0 => by
    refine ⟨?_, State.heap_pushCell_size _ _, rfl, ?_, fun q hq => State.heap_pushCell_of_lt _ _ hq, fun j hj => by omega⟩
    · show (s.heap.push _).size = _
      rw [Array.size_push]
    · show s.slotsUsed + (mo cA N s.heap.size 0).slots.size = _
      unfold mo
      rw [arrV_size]
      omega
  | i + 1 => by
    obtain ⟨h1, h2, h3, h4, h5, h6⟩ := mf_facts s cA cI N K i
    have hl : s.heap.size < ((mf s cA cI N K i).pushCell (arrV cI K (fun _ => .int 0))).heap.size := by
      show _ < ((mf s cA cI N K i).heap.push _).size
      rw [Array.size_push, h1]
      omega
    refine ⟨?_, heapAt_setCell_self _ hl, h3, ?_, fun q hq => ?_, fun j hj => ?_⟩
    · show (State.setCell _ _ _).heap.size = _
      rw [size_setCell]
      show ((mf s cA cI N K i).heap.push _).size = _
      rw [Array.size_push, h1]
      omega
    · show (mf s cA cI N K i).slotsUsed + (arrV cI K (fun _ => .int 0)).slots.size = _
      rw [h4, arrV_size, Nat.succ_mul]
      omega
    · show (State.setCell _ _ _).heap[q]? = _
      have x1 : q < (mf s cA cI N K i).heap.size := by rw [h1]; exact Nat.lt_of_lt_of_le hq (by omega)
      rw [heapAt_setCell_ne (a := s.heap.size) (b := q) _ (Nat.ne_of_gt hq), State.heap_pushCell_of_lt (a := q) _ _ x1]
      exact h5 q hq
    · show (State.setCell _ _ _).heap[s.heap.size + 1 + j]? = _
      rw [heapAt_setCell_ne (a := s.heap.size) (b := s.heap.size + 1 + j) _ (Nat.ne_of_lt (Nat.lt_of_lt_of_le (Nat.lt_succ_self _) (Nat.le_add_right _ _)))]
      by_cases c : j = i
      · subst c
        rw [← h1]
        exact State.heap_pushCell_size _ _
      · have x1 : s.heap.size + 1 + j < (mf s cA cI N K i).heap.size := by rw [h1]; exact Nat.add_lt_add_left (by omega) _
        rw [State.heap_pushCell_of_lt (a := s.heap.size + 1 + j) _ _ x1]
        exact h6 j (by omega)
theorem mf_top (s : State) (f : JFrame) (cA cI : ClassId) (N K : Nat) : ∀ i, mf (s.setTop f) cA cI N K i = (mf s cA cI N K i).setTop f
  | 0 => rfl
  | i + 1 => by
    show ((mf (s.setTop f) cA cI N K i).pushCell _).setCell _ _ = _
    rw [mf_top s f cA cI N K i]
    rfl
theorem mf_is (s : State) (cA cI : ClassId) (N K : Nat) (h : s.topJava?.isSome) : ∀ i, (mf s cA cI N K i).topJava?.isSome
  | 0 => h
  | i + 1 => mf_is s cA cI N K h i
section Mna
variable {E : CtlPost} {e : Env} {d : Bool} {acts : List Action} {s : State}
theorem ma_new {c comp : ClassId} {k : Class} {type : FieldType} {n : Nat} {dv : Value} (hk : s.vm.classes[c]? = some k) (hkind : k.kind = .array comp type) (hlimit : ¬ n > e.platform.arrayLengthLimit) (hheap : ¬ n * componentBytes type > e.platform.maxHeapBytes) (hc : s.heap.size < e.platform.maxCells) (hsl : s.slotsUsed + n ≤ e.platform.maxSlots) (hf : fits type dv = true) (hdv : dv.isDefault = true)
    {Q : Addr → Pre} (h : Q s.heap.size d acts (s.pushCell { cls := c, slots := Array.replicate n dv, vm := .none })) : Jvm.Sem.wp (Jvm.newArray c n dv) Q E e d acts s := by
  have hfit : ∀ i v, (Array.replicate n dv)[i]? = some v → s.fitsSlot c .none i v = true := by
    intro i v hv
    simp only [Array.getElem?_replicate] at hv
    split at hv
    · cases hv; simp [State.fitsSlot, State.slotType?, hk, hkind, hf]
    · cases hv
  have hdef : allocActs (Array.replicate n dv) s.heap.size acts = acts := by
    have hall : ((Array.replicate n dv).all (·.isDefault)) = true := by
      rw [Array.all_replicate]; split <;> simp [hdv]
    unfold allocActs; rw [if_pos hall]
  have hms : ¬ n > e.platform.maxSlots := by omega
  simp only [Jvm.newArray, Jvm.arrayFits, wp_bind', Jvm.W.ask, hlimit, Jvm.W.ite, if_false, wp_pure', Jvm.W.theClass, hk]
  refine ⟨_, rfl, ?_⟩
  rw [hkind]
  simp only [wp_bind', Jvm.W.ask, hheap, Jvm.W.ite, if_false, wp_pure', hms, Jvm.W.alloc, Array.size_replicate]
  rw [hdef]
  exact ⟨hc, hsl, hfit, h⟩
theorem ma_inner {cI comp : ClassId} {k : Class} {n : Int32} {K : Nat} (hn : ¬ n < 0) (hK : n.toNatClampNeg = K) (hk : s.vm.classes[cI]? = some k) (hkind : k.kind = .array comp .int) (hlimit : ¬ K > e.platform.arrayLengthLimit) (hheap : ¬ K * 4 > e.platform.maxHeapBytes) (hc : s.heap.size < e.platform.maxCells) (hsl : s.slotsUsed + K ≤ e.platform.maxSlots)
    {Q : Addr → Pre} (h : Q s.heap.size d acts (s.pushCell (arrV cI K (fun _ => .int 0)))) : Jvm.Sem.wp (Jvm.Op.multianewarray.make cI [n]) Q E e d acts s := by
  subst hK
  rw [Jvm.Op.multianewarray.make]
  simp only [wp_bind', Jvm.W.ite, hn, if_false, wp_pure', Jvm.W.theClass, hk]
  refine ⟨_, rfl, ?_⟩
  rw [hkind]
  refine ma_new hk hkind hlimit hheap hc hsl rfl rfl ?_
  rw [show defaultValue FieldType.int = .int 0 from rfl, arrV_new]
  exact h
theorem ma_loop {cA cI comp : ClassId} {kA kI : Class} {n : Int32} {N K : Nat} (hn : ¬ n < 0) (hK : n.toNatClampNeg = K) (hkA : s.vm.classes[cA]? = some kA) (hkindA : kA.kind = .array cI (.array .int)) (hk : s.vm.classes[cI]? = some kI) (hkind : kI.kind = .array comp .int) (hlimit : ¬ K > e.platform.arrayLengthLimit) (hheap : ¬ K * 4 > e.platform.maxHeapBytes) (hc : s.heap.size + 1 + N ≤ e.platform.maxCells) (hsl : s.slotsUsed + N + N * K ≤ e.platform.maxSlots)
    {Q : PUnit → Pre} (h : ∀ d' acts', Q PUnit.unit d' acts' (mf s cA cI N K N)) : Jvm.Sem.wp (forIn [:N] PUnit.unit fun i _ => do
      let a ← Jvm.Op.multianewarray.make cI [n]
      Jvm.writeLoc s.heap.size i (Value.ref a)
      Pure.pure (ForInStep.yield PUnit.unit)) Q E e d acts (mf s cA cI N K 0) := by
  rw [Std.Legacy.Range.forIn_eq_forIn_range']
  refine wp_forIn_inv (fun rest s' => ∃ i, i ≤ N ∧ rest = List.range' i (N - i) ∧ s' = mf s cA cI N K i) _ _ ⟨0, Nat.zero_le _, ?_, rfl⟩ ?_ ?_
  · simp [Std.Legacy.Range.size]
  · rintro x rest s' d' acts' Q' ⟨i, i1, i2, rfl⟩ hq
    have i3 : i < N := by
      by_cases c : i < N
      · exact c
      · rw [show N - i = 0 by omega] at i2
        cases i2
    rw [show N - i = (N - i - 1) + 1 by omega, List.range'_succ] at i2
    obtain ⟨e1, e2⟩ := List.cons.inj i2
    subst e1 e2
    obtain ⟨f1, f2, f3, f4, f5, f6⟩ := mf_facts s cA cI N K x
    have hb : x * K + K ≤ N * K := by
      have : (x + 1) * K ≤ N * K := Nat.mul_le_mul_right K (by omega)
      rw [Nat.succ_mul] at this
      exact this
    simp only [wp_bind', wp_pure']
    refine ma_inner hn hK (by rw [f3]; exact hk) hkind hlimit hheap (by omega) (by omega) ?_
    have x1 : s.heap.size < (mf s cA cI N K x).heap.size := by rw [f1]; omega
    simp only [wp_bind', Jvm.W.writeLoc, wp_pure']
    refine ⟨mo cA N s.heap.size x, by rw [State.heap_pushCell_of_lt (a := s.heap.size) _ _ x1]; exact f2, (fun z => by cases z), ?_, ?_, ?_⟩
    · unfold mo; rw [arrV_size]; exact i3
    · simp [State.fitsSlot, State.slotType?, mo, arrV, f3, hkA, hkindA, fits]
    · rw [show (mf s cA cI N K x).heap.size = s.heap.size + 1 + x from f1, mo_s]
      exact hq _ _ _ ⟨x + 1, by omega, by rw [show N - (x + 1) = N - x - 1 by omega], rfl⟩
  · rintro s' d' acts' ⟨i, i1, i2, rfl⟩
    have i3 : i = N := by
      by_cases c : i < N
      · rw [show N - i = (N - i - 1) + 1 by omega, List.range'_succ] at i2
        cases i2
      · omega
    subst i3
    exact h d' acts'
theorem ma_make {cA cI comp : ClassId} {kA kI : Class} {n k : Int32} {N K : Nat} (hn : ¬ n < 0) (hN : n.toNatClampNeg = N) (hk0 : ¬ k < 0) (hK : k.toNatClampNeg = K) (hkA : s.vm.classes[cA]? = some kA) (hkindA : kA.kind = .array cI (.array .int)) (hk : s.vm.classes[cI]? = some kI) (hkind : kI.kind = .array comp .int) (hlimit : ¬ K > e.platform.arrayLengthLimit) (hheap : ¬ K * 4 > e.platform.maxHeapBytes) (hlimit2 : ¬ N > e.platform.arrayLengthLimit) (hheap2 : ¬ N * 4 > e.platform.maxHeapBytes) (hc : s.heap.size + 1 + N ≤ e.platform.maxCells) (hsl : s.slotsUsed + N + N * K ≤ e.platform.maxSlots)
    {Q : Addr → Pre} (h : ∀ d' acts', Q s.heap.size d' acts' (mf s cA cI N K N)) : Jvm.Sem.wp (Jvm.Op.multianewarray.make cA [n, k]) Q E e d acts s := by
  subst hN
  have hl := ma_loop (E := E) (d := d) (acts := acts) (N := n.toNatClampNeg) hk0 hK hkA hkindA hk hkind hlimit hheap hc hsl (Q := fun _ => Q s.heap.size) h
  rw [Jvm.Op.multianewarray.make]
  simp only [wp_bind', Jvm.W.ite, hn, if_false, wp_pure', Jvm.W.theClass, hkA]
  refine ⟨_, rfl, ?_⟩
  rw [hkindA]
  simp only [wp_bind']
  refine ma_new hkA hkindA hlimit2 hheap2 (by omega) (by omega) rfl rfl ?_
  rw [mo_0 cA n.toNatClampNeg s.heap.size]
  simp only [wp_bind', Jvm.W.ite, wp_pure']
  by_cases hz : (n == 0) = true
  · rw [if_pos hz]
    rw [show List.find? (fun x => decide (x < 0)) [k] = none by simp [hk0]]
    simp only [wp_bind', wp_pure']
    exact hl
  · rw [if_neg hz]
    exact hl
end Mna
