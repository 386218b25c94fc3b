/-! ===== 'new int[n][k]': a piece of the machine goes from one state to another ===== -/
/-- t, begun at U, ends at U' with the answer a, whatever is asked of what comes behind it; g is the frame on top -/
def Gs {α : Type} (e : Env) (g : JFrame) (t : Jvm.Sem α) (U : State) (a : α) (U' : State) : Prop :=
  ∀ (E : CtlPost) (d : Bool) (acts : List Action) (Q : α → Pre), (∀ d' acts', Q a d' acts' (U'.setTop g)) → Jvm.Sem.wp t Q E e d acts (U.setTop g)
theorem gs_bind {α β : Type} {e : Env} {g : JFrame} {t : Jvm.Sem α} {f : α → Jvm.Sem β} {U U1 U2 : State} {a : α} {b : β} (h1 : Gs e g t U a U1) (h2 : Gs e g (f a) U1 b U2) : Gs e g (t >>= f) U b U2 := by
  intro E d acts Q h
  rw [wp_bind']
  exact h1 E d acts _ (fun d' acts' => h2 E d' acts' Q h)
theorem gs_ret {α : Type} {e : Env} {g : JFrame} {U : State} (a : α) : Gs e g (Pure.pure a : Jvm.Sem α) U a U := by
  intro E d acts Q h
  rw [wp_pure']
  exact h d acts
/-- the row of rows with its first i places filled: row j lies j + 1 places behind it -/
def mo (cA : ClassId) (N h i : Nat) : Cell := arrV cA N (fun j => if j < i then .ref (h + 1 + j) else .null)
theorem mo_fill (cA : ClassId) (N h i : Nat) {a : Addr} (ha : a = h + 1 + i) : (mo cA N h i).setSlot i (.ref a) = mo cA N h (i + 1) := by
  subst ha
  have hf : updV (fun j => if j < i then Value.ref (h + 1 + j) else .null) i (.ref (h + 1 + i)) = fun j => if j < i + 1 then Value.ref (h + 1 + j) else .null := by
    funext j
    rcases Nat.lt_trichotomy j i with c | c | c
    · simp [updV, Nat.ne_of_lt c, c, Nat.lt_succ_of_lt c]
    · simp [updV, c]
    · simp [updV, Nat.ne_of_gt c, Nat.not_lt_of_gt c, Nat.not_lt.mpr c]
  exact (arrV_store cA N i _ _).trans (congrArg (arrV cA N) hf)
/-- the old cells, the row of rows, its rows: side by side -/
def hpR (H : Heap) (o r : Cell) (i : Nat) : Heap := H ++ (#[o] ++ Array.replicate i r)
theorem hpR_size (H : Heap) (o r : Cell) (i : Nat) : (hpR H o r i).size = H.size + 1 + i := by
  unfold hpR
  rw [Array.size_append, Array.size_append, Array.size_replicate]
  show H.size + (1 + i) = _
  omega
theorem hpR_push (H : Heap) (o r : Cell) (i : Nat) : (hpR H o r i).push r = hpR H o r (i + 1) := by
  unfold hpR
  rw [Array.replicate_succ, Array.append_push, Array.append_push]
theorem hpR_set (H : Heap) (o o' r : Cell) (i : Nat) : (hpR H o r i).setIfInBounds H.size o' = hpR H o' r i := by
  apply Array.toList_inj.mp
  simp [hpR, List.set_append]
theorem hpR_old (H : Heap) (o r : Cell) (i q : Nat) (h : q < H.size) : (hpR H o r i)[q]? = H[q]? := by
  unfold hpR
  rw [Array.getElem?_append_left h]
theorem hpR_out (H : Heap) (o r : Cell) (i : Nat) : (hpR H o r i)[H.size]? = some o := by
  unfold hpR
  rw [Array.getElem?_append_right (Nat.le_refl _), Nat.sub_self, Array.getElem?_append_left (show 0 < (#[o] : Array Cell).size from Nat.one_pos)]
  rfl
theorem hpR_row (H : Heap) (o r : Cell) (i j : Nat) (h : j < i) : (hpR H o r i)[H.size + 1 + j]? = some r := by
  unfold hpR
  rw [Array.getElem?_append_right (by omega), show H.size + 1 + j - H.size = 1 + j by omega, Array.getElem?_append_right (by simp)]
  simp [h]
section Made
variable {p : Program} {l : Launch} {e : Env} {R : Room} {s : State} {m : MethodId} {args : Array Value} {below : List Frame} {meth : Method} {c : Code} {locs : List Loc} {cells slots : Nat} {g : JFrame}
theorem gs_new {U : State} (Y : Stand p l e R s m args below meth c U locs cells slots) {x comp : ClassId} {k : Class} {ty : FieldType} {n : Nat} {v : Value} (hk : U.vm.classes[x]? = some k) (hki : k.kind = .array comp ty) (h4 : componentBytes ty = 4) (hv : fits ty v = true) (hn : n ≤ 1000) (hc : cells + 1 ≤ R.cells) (hs : slots + n ≤ R.slots) :
    Gs e g (Jvm.newArray x n v) U U.heap.size (U.pushCell (arrV x n (fun _ => v))) := by
  intro E d acts Q h
  obtain ⟨r1, r2⟩ := Y.roomAbove hc hs
  have b1 : ¬ n > e.platform.arrayLengthLimit := by rw [Launch.admits_arrayLengthLimit Y.admits]; omega
  have b2 : ¬ n * componentBytes ty > e.platform.maxHeapBytes := by rw [h4, Launch.admits_maxHeapBytes Y.admits]; omega
  have b3 : ¬ n > e.platform.maxSlots := by omega
  have ft : ∀ z, U.fitsSlot x .none z v = true := fun z => by simp [State.fitsSlot, State.slotType?, hk, hki, hv]
  unfold Jvm.newArray Jvm.arrayFits
  simp only [wp_bind', Jvm.W.ask, Jvm.W.ite, b1, if_false, wp_pure', Jvm.W.theClass]
  refine ⟨k, hk, ?_⟩
  rw [hki]
  simp only [wp_bind', Jvm.W.ask, Jvm.W.ite, b2, b3, if_false, wp_pure', Jvm.W.alloc]
  rw [← arrV_new] at h
  refine ⟨r1, ?_, fun z w hw => ?_, h _ _⟩
  · rw [Array.size_replicate]; exact r2
  · cases (Array.mem_replicate.mp (Array.mem_of_getElem? hw)).2
    exact ft z
/-- i rows of N are made over H, the tables being V -/
def Md (p : Program) (l : Launch) (e : Env) (R : Room) (s : State) (m : MethodId) (args : Array Value) (below : List Frame) (meth : Method) (c : Code) (locs : List Loc) (cells slots : Nat) (cA cI : ClassId) (N K : Nat) (H : Heap) (V : Vm) (i : Nat) (U : State) : Prop :=
  U.vm = V ∧ U.heap = hpR H (mo cA N H.size i) (arrV cI K (fun _ => .int 0)) i ∧ ∃ L : List Loc, (∀ x ∈ L, x.base = H.size) ∧ Stand p l e R s m args below meth c U (locs ++ L) (cells + (1 + i)) (slots + (N + i * K))
theorem md_row {U : State} {cA cI comp : ClassId} {kA kI : Class} {N K i : Nat} {k : Int32} {H : Heap} {V : Vm} (hU : Md p l e R s m args below meth c locs cells slots cA cI N K H V i U) (hi : i < N) (hkA : V.classes[cA]? = some kA) (hA : kA.kind = .array cI (.array .int)) (hkI : V.classes[cI]? = some kI) (hI : kI.kind = .array comp .int) (k0 : ¬ k < 0) (hK : k.toNatClampNeg = K) (hbK : K ≤ 1000) (hc : cells + (1 + N) ≤ R.cells) (hs : slots + (N + N * K) ≤ R.slots) :
    ∃ U', Md p l e R s m args below meth c locs cells slots cA cI N K H V (i + 1) U' ∧ Gs e g (do
      let a ← Jvm.Op.multianewarray.make cI [k]
      Jvm.writeLoc H.size i (Value.ref a)
      Pure.pure (ForInStep.yield PUnit.unit)) U (ForInStep.yield PUnit.unit) U' := by
  obtain ⟨hv, hh, L, hL, Y⟩ := hU
  have hm : (i + 1) * K ≤ N * K := Nat.mul_le_mul_right K hi
  rw [Nat.succ_mul] at hm
  have ha : U.heap.size = H.size + 1 + i := by rw [hh, hpR_size]
  have hat : (U.pushCell (arrV cI K (fun _ => .int 0))).heap[H.size]? = some (mo cA N H.size i) := by
    rw [State.heap_pushCell, hh, hpR_push, hpR_out]
  refine ⟨(U.pushCell (arrV cI K (fun _ => .int 0))).setCell H.size ((mo cA N H.size i).setSlot i (.ref U.heap.size)), ⟨hv, ?_, L ++ [⟨H.size, i⟩], ?_, ?_⟩, gs_bind (a := U.heap.size) (U1 := U.pushCell (arrV cI K (fun _ => .int 0))) ?_ (gs_bind (a := ()) ?_ (gs_ret _))⟩
  · rw [State.heap_setCell, State.heap_pushCell, hh, hpR_push, hpR_set, hpR_size, mo_fill _ _ _ _ rfl]
  · intro x hx
    rcases List.mem_append.mp hx with h | h
    · exact hL x h
    · rw [List.mem_singleton.mp h]
  · have Y1 := (Y.pushed (arrV cI K (fun _ => .int 0))).stored hat i (.ref U.heap.size)
    rw [arrV_size, List.append_assoc] at Y1
    rw [show cells + (1 + (i + 1)) = cells + (1 + i) + 1 by omega, show slots + (N + (i + 1) * K) = slots + (N + i * K) + K by rw [Nat.succ_mul]; omega]
    exact Y1
  · intro E d acts Q h
    rw [Jvm.Op.multianewarray.make]
    simp only [wp_bind', Jvm.W.ite, k0, if_false, wp_pure', Jvm.W.theClass]
    refine ⟨kI, (by show U.vm.classes[cI]? = _; rw [hv]; exact hkI), ?_⟩
    rw [hI, hK]
    exact gs_new Y (by rw [hv]; exact hkI) hI rfl rfl hbK (by omega) (by omega) E d acts Q h
  · intro E d acts Q h
    rw [Jvm.W.writeLoc]
    refine ⟨mo cA N H.size i, hat, (fun z => by cases z), ?_, ?_, h _ _⟩
    · show i < (arrV cA N _).slots.size
      rw [arrV_size]; exact hi
    · show (U.pushCell (arrV cI K (fun _ => .int 0))).fitsSlot cA .none i (Value.ref U.heap.size) = true
      simp [State.fitsSlot, State.slotType?, State.pushCell, hv, hkA, hA, fits]
theorem md_rows {cA cI comp : ClassId} {kA kI : Class} {N K : Nat} {k : Int32} {H : Heap} {V : Vm} (hkA : V.classes[cA]? = some kA) (hA : kA.kind = .array cI (.array .int)) (hkI : V.classes[cI]? = some kI) (hI : kI.kind = .array comp .int) (k0 : ¬ k < 0) (hK : k.toNatClampNeg = K) (hbK : K ≤ 1000) (hc : cells + (1 + N) ≤ R.cells) (hs : slots + (N + N * K) ≤ R.slots) :
    ∀ (r i : Nat) (U : State), i + r = N → Md p l e R s m args below meth c locs cells slots cA cI N K H V i U → ∃ U', Md p l e R s m args below meth c locs cells slots cA cI N K H V N U' ∧ Gs e g (forIn (List.range' i r) PUnit.unit fun j _ => do
      let a ← Jvm.Op.multianewarray.make cI [k]
      Jvm.writeLoc H.size j (Value.ref a)
      Pure.pure (ForInStep.yield PUnit.unit)) U PUnit.unit U'
  | 0, i, U, hr, hU => by
    cases hr
    refine ⟨U, hU, ?_⟩
    rw [List.range'_zero, List.forIn_nil]
    exact gs_ret _
  | r + 1, i, U, hr, hU => by
    obtain ⟨U1, h1, G1⟩ := md_row (g := g) hU (by omega) hkA hA hkI hI k0 hK hbK hc hs
    obtain ⟨U2, h2, G2⟩ := md_rows hkA hA hkI hI k0 hK hbK hc hs r (i + 1) U1 (by omega) h1
    refine ⟨U2, h2, ?_⟩
    rw [List.range'_succ, List.forIn_cons]
    exact gs_bind G1 G2
theorem md_all {T : State} (X : Stand p l e R s m args below meth c T locs cells slots) {cA cI comp : ClassId} {kA kI : Class} {N K : Nat} {n k : Int32} (hkA : T.vm.classes[cA]? = some kA) (hA : kA.kind = .array cI (.array .int)) (hkI : T.vm.classes[cI]? = some kI) (hI : kI.kind = .array comp .int) (n0 : ¬ n < 0) (hN : n.toNatClampNeg = N) (k0 : ¬ k < 0) (hK : k.toNatClampNeg = K) (hbN : N ≤ 1000) (hbK : K ≤ 1000) (hc : cells + (1 + N) ≤ R.cells) (hs : slots + (N + N * K) ≤ R.slots) :
    ∃ U', Md p l e R s m args below meth c locs cells slots cA cI N K T.heap T.vm N U' ∧ Gs e g (Jvm.Op.multianewarray.make cA [n, k]) T T.heap.size U' := by
  subst hN
  have M0 : Md p l e R s m args below meth c locs cells slots cA cI n.toNatClampNeg K T.heap T.vm 0 (T.pushCell (arrV cA n.toNatClampNeg (fun _ => .null))) := by
    refine ⟨rfl, ?_, [], (fun x hx => by cases hx), ?_⟩
    · simp [hpR, mo, State.pushCell]
    · have h := X.pushed (arrV cA n.toNatClampNeg (fun _ => .null))
      rw [arrV_size] at h
      simpa using h
  obtain ⟨U', hU, G⟩ := md_rows (g := g) hkA hA hkI hI k0 hK hbK hc hs n.toNatClampNeg 0 _ (by omega) M0
  refine ⟨U', hU, fun E d acts Q h => ?_⟩
  rw [Jvm.Op.multianewarray.make]
  simp only [wp_bind', Jvm.W.ite, n0, if_false, wp_pure', Jvm.W.theClass]
  refine ⟨kA, hkA, ?_⟩
  rw [hA]
  have G0 := gs_new (g := g) X (v := .null) hkA hA rfl rfl hbN (by omega) (by omega)
  have hl : ∀ d' acts', Jvm.Sem.wp (forIn [:n.toNatClampNeg] PUnit.unit fun j _ => do
      let a ← Jvm.Op.multianewarray.make cI [k]
      Jvm.writeLoc T.heap.size j (Value.ref a)
      Pure.pure (ForInStep.yield PUnit.unit)) (fun _ => Q T.heap.size) E e d' acts' ((T.pushCell (arrV cA n.toNatClampNeg (fun _ => .null))).setTop g) := by
    intro d' acts'
    rw [Std.Legacy.Range.forIn_eq_forIn_range']
    simpa [Std.Legacy.Range.size] using G E d' acts' (fun _ => Q T.heap.size) h
  simp only [wp_bind']
  refine G0 E d acts _ (fun d' acts' => ?_)
  have hz : List.find? (fun x => decide (x < 0)) [k] = none := by simp [k0]
  simp only [Jvm.W.ite, hz, wp_bind', wp_pure', ite_self]
  exact hl d' acts'
theorem w_mna {H : Heap} {Z : State → Prop} {cc : ByteArray} (hexec : p.tables.exec = Jvm.exec) (hb : c.code = cc) {own : String} {index pc : Nat} {ls : Array Slot} {rest : List Value} (hown : s.vm.findClass own = some m.cls) (hclink : (Cond.classLink own index "[[I").before args s = true)
    {cA cI comp : ClassId} {kA kI : Class} (hfA : s.vm.findClass "[[I" = some cA) (hkA : s.vm.classes[cA]? = some kA) (hkindA : kA.kind = .array cI (.array .int)) (hk : s.vm.classes[cI]? = some kI) (hkind : kI.kind = .array comp .int)
    {n k : Int32} {N K : Nat} (hn : ¬ n < 0) (hN : n.toNatClampNeg = N) (hk0 : ¬ k < 0) (hK : k.toNatClampNeg = K) (hbN : N ≤ 1000) (hbK : K ≤ 1000) (hcells : cells + (1 + N) ≤ R.cells) (hslots : slots + (N + N * K) ≤ R.slots) (hdg : decode cc pc = .ok (.multianewarray index 2, 4))
    (kk : ∀ (H' : Heap) (L : List Loc), H'.size = H.size + 1 + N → (∀ q, q < H.size → H'[q]? = H[q]?) → H'[H.size]? = some (mo cA N H.size N) → (∀ j, j < N → H'[H.size + 1 + j]? = some (arrV cI K (fun _ => .int 0))) → (∀ x ∈ L, x.base = H.size) → W p l e R s m args below meth c H' (locs ++ L) (cells + (1 + N)) (slots + (N + N * K)) Z (F0 m (pc + 4) ls (.ref H.size :: rest))) :
    W p l e R s m args below meth c H locs cells slots Z (F0 m pc ls (.int k :: .int n :: rest)) := by
  intro T hT X
  subst hT; subst hb
  obtain ⟨cA', hfA', hcl⟩ := Cond.classLink_spec hown hclink e.platform (by rw [X.admits.platform])
  cases hfA.symm.trans hfA'
  obtain ⟨hg1, hwarm, hready⟩ := State.classEntry (e := e) X.warmed hcl
  generalize T.vm.noted m.cls index (.cls cA) = V at hg1 hwarm hready
  obtain ⟨jA, hjA, eA⟩ := hwarm.alike.2.2 _ _ hkA
  obtain ⟨jI, hjI, eI⟩ := hwarm.alike.2.2 _ _ hk
  obtain ⟨U, ⟨-, hh, L, hL, Y⟩, G⟩ := md_all (g := F0 m pc ls rest) (X.noted hwarm) hjA (by rw [eA]; exact hkindA) hjI (by rw [eI]; exact hkind) hn hN hk0 hK hbN hbK hcells hslots
  have hh : U.heap = hpR T.heap (mo cA N T.heap.size N) (arrV cI K (fun _ => .int 0)) N := hh
  obtain ⟨t, st, hz⟩ := kk U.heap L (by rw [hh, hpR_size]) (fun q hq => by rw [hh, hpR_old _ _ _ _ _ hq]) (by rw [hh, hpR_out]) (fun j hj => by rw [hh, hpR_row _ _ _ _ _ hj]) hL U rfl Y
  refine ⟨t, Steps.instr (c := c) (f := F0 m pc ls (.int k :: .int n :: rest)) X.here ?_, hz⟩
  rw [hdg]
  show wpRun (p.tables.exec (.multianewarray index 2)) _ _ e _
  rw [hexec]
  show Jvm.Sem.wp (Jvm.Op.multianewarray.sem index 2) _ _ e false [] _
  simp only [Jvm.Op.multianewarray.sem, wp_bind']
  refine (Jvm.W.resolveClassAt_transfer (s := T.setTop _) (State.method?_setTop _ X.here.top) hg1 hready (by no_record)).2 ?_
  have tp : (T.setVm V).topJava?.isSome := X.here.top
  show Jvm.Sem.wp (Jvm.resolveClassAt index) _ _ e false [] ((T.setVm V).setTop (F0 m pc ls (.int k :: .int n :: rest)))
  simp only [Jvm.W.resolveClassAt_ready (State.method?_setTop (F0 m pc ls (.int k :: .int n :: rest)) tp) hready, Jvm.popN, wp_bind', Jvm.W.pop, State.topJava?_setTop' _ tp, Option.some.injEq, exists_eq_left', List.cons.injEq, exists_cons_eq, State.setTop_setTop, wp_pure', List.nil_append, List.cons_append, List.mapM_cons, List.mapM_nil]
  refine G _ _ _ _ (fun d' acts' => ?_)
  show Jvm.Sem.wp (Jvm.pushRef T.heap.size) _ _ e d' acts' (U.setTop (F0 m pc ls rest))
  rw [Jvm.W.pushRef]
  refine ⟨F0 m pc ls rest, State.topJava?_setTop' _ Y.here.top, ?_⟩
  intro acts2
  rw [State.setTop_setTop, afterInstr_ok]
  exact st
end Made
