/-! THE CLAIM OUT OF ONE WALK OF THE LAW'S BODY. Your part is whole_start (and what it stands on); all else here is the same for every law, but numbers. -/
def R_law : String := "ShiftAddsLaw"
def lw_P (b : Addr) (xs : List Int32) (args : Array Value) (s : State) : Prop := args = #[.ref b] ∧ s.IntsAt b xs ∧ xs.length ≤ 2560 ∧ (Jvm.Cond.and given_1 narrow_1).before args s = true
def lw_Q (_ : Array Value) (s : State) (o : Outcome) (t : State) : Prop := o = .returned (some (.int 1)) ∧ Framed s o t [] 600000 7302250
def lw_Z (below : List Frame) (a : Array Value) (s : State) : State → Prop := fun t => ∃ o, t.status = .running ∧ Ended t below o ∧ lw_Q a s o t
/-- the law's own end, with 1 on the stack, nothing written that was there before, its room as the claim has it -/
theorem lw_ret {p : Program} {l : Launch} {e : Env} {s : State} {m : MethodId} {below : List Frame} {meth : Method} {c : Code} {b : Nat} (hx : p.tables.exec = Jvm.exec) (hb : c.code = code) (hr : meth.sig.returnType = ret) (hlocks : meth.locks = false) {pc : Nat} {H : Heap} {ls : Array Slot} (hdg : decode code pc = .ok (.ireturn, 1)) : W p l e room_1 s m #[Value.ref b] below meth c H [] 600000 7302250 (lw_Z below #[Value.ref b] s) (F0 m pc ls [.int 1]) := by
  intro T hT X
  obtain ⟨fs, hret, hrun, hended, hW, hframe⟩ := X.leave (v := some (.int 1)) (hlocks := hlocks) (fun h => by rw [hr] at h; cases h)
  have hmeth' : T.vm.method? m = some meth := X.method'
  refine ⟨T.setFrames fs, ?_, .returned (some (.int 1)), hrun, hended, rfl, ⟨_, rfl⟩, hW, hframe⟩
  jvm_step X.here [X.here.top, hx, hb, hdg, hmeth', hr, ret, narrow_b1]
  (try refine ⟨rfl, ?_⟩); (try refine ⟨rfl, ?_⟩)
  first | (intro acts; rw [hret _ acts rfl rfl rfl]) | rw [hret _ _ rfl rfl rfl]
  exact Steps.refl _
/-- what holds at the law's entry: the machine, the code, the tables' words (any of lw_tbl by 'hts w (by decide +kernel)'), the script of L ints xs at the cell b, what the Statement gives of the start (any of its parts by flat_of_before) -/
def lw_At (p : Program) (s : State) (m : MethodId) (meth : Method) (c : Code) (b L : Nat) (xs : Nat → Int32) : Prop :=
  p.tables.exec = Jvm.exec ∧ c.code = code ∧ meth.sig.returnType = ret ∧ c.maxLocals = 4 ∧ s.vm.findClass R_law = some m.cls ∧ (∀ w ∈ lw_tbl, w.before #[Value.ref b] s = true) ∧ va_X b L xs s s.heap ∧ b < s.heap.size ∧ meth.locks = false ∧ (Jvm.Cond.and given_1 narrow_1).before #[Value.ref b] s = true
/-! ===== the law's start: the abstract machine's first world ===== -/
def wd0 (L : Nat) : Wd := (fun a => if a = 0 then 14 else 15, fun a => if a = 0 then L else 0, fun _ _ => none, 0)
def mm0 (xs : Nat → Int) : MM := fun a k => if a = 0 then xs k else 0
theorem so_classes {s : State} {args : Array Value} (hts : ∀ w ∈ lw_tbl, w.before args s = true) : ∃ D : va_G, ∀ (k : Nat) (q : vw_C), vwCl[k]? = some q → u_Kn s q.1 q.2.1 q.2.2 (D.1 k) (D.2 k) := by
  have h : ∀ c, ∃ (cC : ClassId) (iS : Nat → Nat), c < 10 → u_Kn s (clN c) (clT c) (clS c) cC iS := by
    intro c
    by_cases hc : c < 10
    · have hi : ∃ n, Jvm.Cond.instantiable (clN c) n ∈ lw_tbl := by
        revert c
        exact cl_10 ⟨3, by decide +kernel⟩ ⟨5, by decide +kernel⟩ ⟨3, by decide +kernel⟩ ⟨2, by decide +kernel⟩ ⟨2, by decide +kernel⟩ ⟨3, by decide +kernel⟩ ⟨4, by decide +kernel⟩ ⟨6, by decide +kernel⟩ ⟨11, by decide +kernel⟩ ⟨26, by decide +kernel⟩
      obtain ⟨n, hn⟩ := hi
      obtain ⟨cC, iS, hK⟩ := u_known (C := clN c) (T := clT c) (N := clS c) hts (cl_in0 c hc) (hts _ hn)
      exact ⟨cC, iS, fun _ => hK⟩
    · exact ⟨0, fun _ => 0, fun h => absurd h hc⟩
  refine ⟨(fun c => Classical.choose (h c), fun c => Classical.choose (Classical.choose_spec (h c))), fun k q hq => ?_⟩
  have hk : k < 10 := (List.getElem?_eq_some_iff.mp hq).1
  rw [cl_at k hk] at hq
  cases hq
  exact Classical.choose_spec (Classical.choose_spec (h k)) hk
theorem so_arrs {s : State} {args : Array Value} (hts : ∀ w ∈ lw_tbl, w.before args s = true) : ∃ cA : Nat → ClassId, (ArrOfT s (cA 0) .int ∧ va_RA s (cA 0) .int) ∧ (ArrOfT s (cA 1) .boolean ∧ va_RA s (cA 1) .boolean) ∧ (ArrOfT s (cA 2) (.array .int) ∧ va_RA s (cA 2) (.array .int)) ∧ (ArrOfT s (cA 3) (.object "ShiftAdds$Graph") ∧ va_RA s (cA 3) (.object "ShiftAdds$Graph")) ∧ ∃ k : Class, s.vm.classes[cA 2]? = some k ∧ k.kind = .array (cA 0) (.array .int) := by
  obtain ⟨c0, k0, p0, f0, g0, h0⟩ := Cond.arrayClass_spec (show (Jvm.Cond.arrayClass .int).holds args s none s [] = true from hts _ (by decide +kernel))
  obtain ⟨c1, k1, p1, f1, g1, h1⟩ := Cond.arrayClass_spec (show (Jvm.Cond.arrayClass .boolean).holds args s none s [] = true from hts _ (by decide +kernel))
  obtain ⟨p2, c2, k2, e2, -, g2, h2, f2⟩ := arrayOverA_spec (show (Jvm.Cond.arrayOver (.array .int)).holds args s none s [] = true from hts _ (by decide +kernel))
  obtain ⟨p3, c3, k3, e3, -, g3, h3, f3⟩ := Cond.arrayOver_spec (show (Jvm.Cond.arrayOver (.object "ShiftAdds$Graph")).holds args s none s [] = true from hts _ (by decide +kernel))
  refine ⟨fun k => match k with | 0 => c0 | 1 => c1 | 2 => c2 | _ => c3, ⟨?_, f0⟩, ⟨?_, f1⟩, ⟨?_, f2⟩, ⟨?_, k3, p3, g3, h3, e3, f3⟩, k2, g2, by rw [h2]; cases e2.symm.trans f0; rfl⟩
  · exact fun n z => ⟨fun k h => (by cases h), k0, g0, p0, h0⟩
  · exact fun n z => ⟨fun k h => (by cases h), k1, g1, p1, h1⟩
  · exact fun n z => ⟨fun k h => (by cases h), k2, g2, p2, h2⟩
  · exact fun n z => ⟨fun k h => (by cases h), k3, g3, p3, h3⟩
set_option maxHeartbeats 4000000 in
theorem law_start (hwp : ∀ (Γ : GG) (L : Nat) (xs : Nat → Int), L ≤ 2560 → (∀ k, inR (xs k)) → wp Γ mL_law 0 [some (VR 0)] [] 0 0 (wd0 L) (mm0 xs) (fun v _ _ => v = some (VI 1)))
    {p : Program} {e : Env} {s : State} {m : MethodId} {below : List Frame} {meth : Method} {c : Code} (l : Launch) {b L : Nat} {xs : Nat → Int32} (hL : L ≤ 2560) (C0 : lw_At p s m meth c b L xs) : W p l e room_1 s m #[Value.ref b] below meth c s.heap [] 0 0 (lw_Z below #[Value.ref b] s) (entryFrame m ([Value.ref b] : List Value).toArray 4) := by
  obtain ⟨hx, hb, hr, hml, hown, hts, hX, hbl, hlocks, hgv⟩ := id C0
  obtain ⟨scr, x1, x2, x3, x4, x5⟩ := hX
  obtain ⟨D, hD⟩ := so_classes hts
  obtain ⟨cA, hA0, hA1, hA2, hA3, hA4⟩ := so_arrs hts
  have hw := hwp (l, D, cA, b, s.heap.size, scr) L (fun k => (xs k).toInt) hL (fun k => so_rng _)
  have hKF : KF (l, D, cA, b, s.heap.size, scr) s := by
    refine ⟨⟨hD, fun k q hk => ?_⟩, x2, fun w hw hn => ?_, va_AO.of (hts (Jvm.Cond.arrayOver (.object "ShiftAdds$Graph")) (by decide +kernel)), hA4⟩
    · match k, hk with
      | 0, hk => cases hk; exact hA0
      | 1, hk => cases hk; exact hA1
      | 2, hk => cases hk; exact hA2
      | 3, hk => cases hk; exact hA3
      | k + 4, hk => cases hk
    · have h5 := hts w hw
      unfold neW at hn
      split at hn
      · exact va_Nw.of rfl h5
      · cases hn
  have C : Cx (l, D, cA, b, s.heap.size, scr) mL_law p room_1 s m #[Value.ref b] meth c :=
    ⟨hx, hb, hr, hml, hown, fun w hw => hts w (gdT_good w hw).1, hlocks, fun h => absurd h (by decide +kernel), hKF, ⟨by decide +kernel, by decide +kernel, Nat.le_refl _, Nat.le_refl _⟩, x3, Nat.le_refl _, hbl, x1⟩
  have hl := lv_entry ([.ref b]) (n := 4) (Nat.le_of_ble_eq_true rfl)
  rw [lg_entry_eq]
  generalize (lg_sl ([.ref b]) ++ List.replicate (4 - (lg_sl ([.ref b])).length) Slot.unset).toArray = lc at hl ⊢
  have hl : lv_has lc 4 [(0, .ref b)] := hl
  refine hw p e room_1 s m _ below meth c s.heap [] lc _ C ⟨rfl, ?_, ?_, ?_, rfl, ?_, ?_, ?_⟩ ⟨hl.1, hl.2.1, fun i v hi => ?_⟩ (fun v hv => by cases hv) va_S.rf ?_
  · intro a k
    unfold mm0
    split
    · exact so_rng _
    · exact so_0
  · intro a ha
    have ha : 0 < a := ha
    show (if a = 0 then 14 else 15) = 15
    rw [if_neg (by omega)]
  · intro i hi
    exact absurd hi (Nat.not_lt_zero i)
  · exact x4
  · show L < _
    omega
  · intro j hj
    have hj : j < L := hj
    show scr.slots[j]? = some (.int (Int32.ofInt (xs j).toInt))
    rw [Int32.ofInt_toInt]
    exact x5 j hj
  · match i, hi with
    | 0, hi => cases hi; exact ⟨hl.2.2 _ List.mem_cons_self, trivial, rfl⟩
    | i + 1, hi => cases hi
  · intro v w' M' H' locs' pc' lc' hQ hok' hH' hS' hd'
    have hQ : v = some (VI 1) := hQ
    subst hQ
    refine va_forget (fun q hq => hS'.2.2 q hq) ?_
    exact lw_ret hx hb hr hlocks hd'
