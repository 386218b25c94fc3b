/-! ===== the rules: calls, and one step ===== -/
theorem cats_ge : ∀ st : List AV, st.length ≤ cats st
  | [] => Nat.le_refl _
  | .inl _ :: st => by have := cats_ge st; show _ + 1 ≤ 1 + cats st; omega
  | .inr (.inl _) :: st => by have := cats_ge st; show _ + 1 ≤ 2 + cats st; omega
  | .inr (.inr _) :: st => by have := cats_ge st; show _ + 1 ≤ 1 + cats st; omega
theorem cats_one : ∀ (Γ : GG) (st : List AV), cats st = st.length → ∀ v ∈ st, (cV Γ v).category = 1
  | _, [], _, v, h => by cases h
  | Γ, .inl x :: st, h, v, hv => by
    have h : 1 + cats st = st.length + 1 := h
    rcases List.mem_cons.mp hv with rfl | hv
    · rfl
    · exact cats_one Γ st (by omega) v hv
  | Γ, .inr (.inl x) :: st, h, v, hv => by
    have h : 2 + cats st = st.length + 1 := h
    have := cats_ge st
    omega
  | Γ, .inr (.inr x) :: st, h, v, hv => by
    have h : 1 + cats st = st.length + 1 := h
    rcases List.mem_cons.mp hv with rfl | hv
    · cases x <;> rfl
    · exact cats_one Γ st (by omega) v hv
theorem argL_eq : ∀ (n : Nat) (st : List AV) (acc : LL), argL n st acc = ((st.take n).reverse.map some) ++ acc
  | 0, _, _ => rfl
  | _ + 1, [], _ => rfl
  | n + 1, x :: xs, acc => by
    show argL n xs (some x :: acc) = _
    rw [argL_eq n xs, List.take_succ_cons, List.reverse_cons, List.map_append, List.append_assoc]
    rfl
theorem mchk_ex {μ n : Nat} (h : mchk μ n = true) : Jvm.Cond.code (my μ) (mcode μ) (mxl μ) (mret μ) ∈ gdT ∧ Jvm.Cond.initialized (my μ).cls ∈ gdT ∧ plainName (my μ).cls = true ∧ ((my μ).cls ≠ "java/lang/invoke/MethodHandle" ∧ (my μ).cls ≠ "java/lang/invoke/VarHandle") ∧ (parseMethodDescriptor (my μ).desc).map (fun d => d.parameters.length) = some n := by
  unfold mchk at h
  simp only [Bool.and_eq_true] at h
  obtain ⟨h1, h2, h3, h4, h5⟩ := h
  exact ⟨tq_in h1, tq_in h2, h3, of_decide_eq_true h4, of_decide_eq_true h5⟩
theorem callk_ex {μ n : Nat} {aux : List Nat} (h : callk μ aux n = true) : mchk (aux.getD 1 0) (aux.getD 2 0) = true ∧ mdp (aux.getD 1 0) < mdp μ ∧ n ≤ mxl (aux.getD 1 0) ∧ mxl (aux.getD 1 0) ≤ 18 := by
  unfold callk at h
  simp only [Bool.and_eq_true] at h
  obtain ⟨h1, h2, h3, h4⟩ := h
  exact ⟨h1, Nat.le_of_ble_eq_true h2, Nat.le_of_ble_eq_true h3, Nat.le_of_ble_eq_true h4⟩
theorem cws_good {μ : Nat} (h : Jvm.Cond.code (my μ) (mcode μ) (mxl μ) (mret μ) ∈ gdT) : GoodIn gdT (cws μ) := by
  intro w hw
  rcases List.mem_cons.mp hw with rfl | hw
  · exact ⟨h, good_of_word (gdT_good _ h).2⟩
  · exact ⟨hw, good_of_word (gdT_good _ hw).2⟩
theorem cPc_blind {Γ : GG} {as : List AV} {w : Wd} {M : MM} : FrameBlind (cPc Γ as w M) := fun a U g mk q => by
  obtain ⟨q1, q2, q3, q4⟩ := q
  exact ⟨q1, q2, KF_vm (s := U) (U := U.calling g mk a) q3 rfl, q4⟩
theorem rvs_map (Γ : GG) (v : Option AV) : (rvs v).map (cV Γ) = (v.map (cV Γ)).toList := by cases v <;> rfl
theorem okR_ok {ret : Option FieldType} {v : Option AV} (h : okR ret v) : ∀ u ∈ rvs v, okV u := by
  intro u hu
  match v, h with
  | none, _ => cases hu
  | some (.inl x), h =>
    rw [List.mem_singleton.mp hu]
    rcases h with ⟨-, h⟩ | ⟨-, h⟩
    · exact h
    · show inR x
      omega
  | some (.inr (.inl x)), h =>
    rw [List.mem_singleton.mp hu]
    exact h.2
  | some (.inr (.inr r)), h =>
    rw [List.mem_singleton.mp hu]
    trivial
section After
variable {Γ : GG} {μ' : Nat} {Q' : QT} {p : Program} {l : Launch} {e : Env} {R : Room} {s : State} {m : MethodId} {args : Array Value} {below : List Frame} {meth : Method} {c : Code} {H : Heap} {locs : List Loc} {cells slots mc ms : Nat} {Z : State → Prop} {pc : Nat} {lc : Array Slot} {rest st0 : List Value} {A : Array Value}
theorem so_after (hr : va_Run p l e R s m args below meth c H locs cells slots mc ms (F0 m pc lc st0) rest (cQc Γ μ' Q' A) (gQ Γ)) (hS : va_S (gQ Γ) s.heap H locs)
    (kk : ∀ v w' M' H1 locs1, Q' v w' M' → okR (mret μ') v → HR Γ w' M' H1 → va_S (gQ Γ) s.heap H1 locs1 → W p l e R s m args below meth c H1 locs1 (cells + mc) (slots + ms) Z (F0 m (pc + 3) lc ((v.map (cV Γ)).toList ++ rest))) :
    W p l e R s m args below meth c H locs cells slots Z (F0 m pc lc st0) := by
  intro T hT X
  obtain ⟨v, st₀, t, T', L, h0, X', hL, e1, e2, ⟨u, w', M', hQ, hok, hv, hH', hz, hk⟩, st⟩ := hr T hT X
  injection hv with hv
  subst hv
  rw [h0] at hz hk
  obtain ⟨t2, a1, b1⟩ := kk u w' M' T'.heap (locs ++ L) hQ hok (by rw [e1]; exact hH') ⟨Nat.le_trans hS.1 (by rw [e1]; exact hz), fun q h1 h2 => by
      rw [e1, hk q (Nat.lt_of_lt_of_le h1 hS.1) h2]
      exact hS.2.1 q h1 h2, fun q hq => by
      rcases List.mem_append.mp hq with h | h
      · exact hS.2.2 q h
      · exact hL q h⟩ T' rfl X'
  exact ⟨t2, st t2 a1, b1⟩
end After
section Rules
variable {Γ : GG} {μ pc : Nat} {ls : LL} {st : List AV} {cs sl : Nat} {w : Wd} {M : MM} {Q : QT} {K : KT}
/-- what every call needs -/
theorem so_call {μ' n : Nat} {as : List AV} {Q' : QT} {p : Program} {R : Room} {s : State} {m : MethodId} {args : Array Value} {meth : Method} {c : Code} {H : Heap} {locs : List Loc} (C : Cx Γ μ p R s m args meth c) (hH : HR Γ w M H) (hS : va_S (gQ Γ) s.heap H locs) (hk : mchk μ' n = true) (hdp : mdp μ' < mdp μ) (hml : mxl μ' ≤ 18) (hlen : as.length ≤ mxl μ') (hok : ∀ v ∈ as, okV v) (hcat : ∀ v ∈ as, (cV Γ v).category = 1) (hw : wp Γ μ' 0 (as.map some) [] 0 0 w M Q') :
    Met (gl Γ) (my μ') (cws μ') (crm μ') (cPc Γ as w M) (cQc Γ μ' Q') (mmc μ') (mms μ') (gQ Γ) ∧ GoodIn gdT (cws μ') ∧ ((crm μ').frames + 1 ≤ R.frames ∧ 8 + (mxl μ' + 11) + (crm μ').locals ≤ R.locals) ∧ (∀ U : State, U.heap = H → s.WarmedH U.vm → cPc Γ as w M (as.map (cV Γ)).toArray U) := by
  obtain ⟨k1, k2, k3, k4, k5⟩ := mchk_ex hk
  obtain ⟨hx9, hb, hr, hml9, hown, hts, hlk, hnm, hKF, ⟨hfr, hlo, hrc, hrs⟩, hun, hb1, hb2, hb3⟩ := id C
  refine ⟨so_met hw hok hcat hlen k3, cws_good k1, ⟨by show mdp μ' + 1 ≤ _; omega, by show 8 + (mxl μ' + 11) + 37 * mdp μ' ≤ _; omega⟩, fun U hU hW => ⟨rfl, by rw [hU]; exact hH, KF_moved hKF hW, hun, by rw [hU]; exact Nat.le_trans hb1 hS.1, hb2, ?_⟩⟩
  rw [hU, hS.2.1 (gb Γ) (Nat.lt_of_lt_of_le hb2 hb1) (Nat.not_le.mpr hb2)]
  exact hb3
theorem so_gd {b1 b2 b3 b4 : Bool} (h : (b1 && (b2 && (b3 && b4))) = true) : b1 = true ∧ b2 = true ∧ b3 = true ∧ b4 = true := by
  simp only [Bool.and_eq_true] at h
  exact h
theorem so_next {Q' : QT} {μ' n : Nat} {p : Program} {e : Env} {R : Room} {s : State} {m : MethodId} {args : Array Value} {below : List Frame} {meth : Method} {c : Code} {lc : Array Slot} {Z : State → Prop} {cs' sl' : Nat} (hK : KOK Γ μ Q K) (C : Cx Γ μ p R s m args meth c) (hL : LR Γ μ ls lc) (hSt : ∀ v ∈ st, okV v) (hR : RetP Γ μ p e R s m args below meth c Z Q) (hQ' : ∀ v w' M', Q' v w' M' → K (pc + 3) ls (rvs v ++ st.drop n) cs' sl' w' M') :
    ∀ v w' M' H1 locs1, Q' v w' M' → okR (mret μ') v → HR Γ w' M' H1 → va_S (gQ Γ) s.heap H1 locs1 → W p (gl Γ) e R s m args below meth c H1 locs1 cs' sl' Z (F0 m (pc + 3) lc ((v.map (cV Γ)).toList ++ (st.drop n).map (cV Γ))) := by
  intro v w' M' H1 locs1 hq hok hH' hS'
  rw [← rvs_map, ← List.map_append]
  refine hK _ _ _ _ _ _ _ (hQ' v w' M' hq) p e R s m args below meth c H1 locs1 lc Z C hH' hL (fun u hu => ?_) hS' hR
  rcases List.mem_append.mp hu with h | h
  · exact okR_ok hok u h
  · exact hSt u (List.mem_of_mem_drop h)
theorem r_static {ix μ' n : Nat} (hK : KOK Γ μ Q K) (hd : decode (mcode μ) pc = .ok (.invokestatic ix, 3)) (hk : mchk μ' n = true) (hdp : mdp μ' < mdp μ) (hnl : n ≤ mxl μ') (hml : mxl μ' ≤ 18) (hl : Jvm.Cond.methodLink (my μ).cls ix (my μ') ∈ gdT ∨ Jvm.Cond.methodLinkNest (my μ).cls ix (my μ') "ShiftAdds" ∈ lw_tbl) (h2 : Jvm.Cond.static (my μ') ∈ gdT) (hz1 : mmc μ' = 0) (hz2 : mms μ' = 0)
    (h : gd (Nat.ble (cats (st.drop n)) 8 && (Nat.ble n st.length && (Nat.beq (cats (st.take n)) n && rmk μ cs sl))) (wp Γ μ' 0 (argL n st []) [] 0 0 w M (fun v w' M' => K (pc + 3) ls (rvs v ++ st.drop n) cs sl w' M'))) : wp Γ μ pc ls st cs sl w M Q := by
  obtain ⟨hg, h⟩ := gd_ex h
  obtain ⟨g1, g2, g3, g4⟩ := so_gd hg
  have g1 := Nat.le_of_ble_eq_true g1
  have g2 := Nat.le_of_ble_eq_true g2
  have g3 := Nat.eq_of_beq_eq_true g3
  obtain ⟨g4, g5⟩ := rmk_le g4
  intro p e R s m args below meth c H locs lc Z C hH hL hSt hS hR
  have hlen : (st.take n).length = n := by rw [List.length_take]; omega
  rw [argL_eq, List.append_nil] at h
  have hcat : ∀ v ∈ (st.take n).reverse, (cV Γ v).category = 1 := fun v hv => cats_one Γ (st.take n) (by rw [g3, hlen]) v (List.mem_reverse.mp hv)
  have hok : ∀ v ∈ (st.take n).reverse, okV v := fun v hv => hSt v (List.mem_of_mem_take (List.mem_reverse.mp hv))
  obtain ⟨hM, hG, hRm, hPc⟩ := so_call C hH hS hk hdp hml (by rw [List.length_reverse, hlen]; exact hnl) hok hcat h
  obtain ⟨k1, k2, k3, k4, k5⟩ := mchk_ex hk
  obtain ⟨hx9, hb, hr, hml9, hown, hts, hlk, hnm, hKF, ⟨hfr, hlo, hrc, hrs⟩, -⟩ := id C
  have hstk : st.map (cV Γ) = ((st.take n).reverse.map (cV Γ)).reverse ++ (st.drop n).map (cV Γ) := by
    rw [← List.map_reverse, List.reverse_reverse, ← List.map_append, List.take_append_drop]
  have hf : cs + mmc μ' ≤ R.cells ∧ sl + mms μ' ≤ R.slots := by rw [hz1, hz2]; omega
  have hcat8 : 2 * (F0 m pc lc (st.map (cV Γ))).monitorRoom + (((st.drop n).map (cV Γ)).map fun v => v.category).sum ≤ 8 := by
    show 2 * 0 + _ ≤ 8
    rw [so_cats]; omega
  have kk := so_next (Q' := fun v w' M' => K (pc + 3) ls (rvs v ++ st.drop n) cs sl w' M') (μ' := μ') (cs' := cs + mmc μ') (sl' := sl + mms μ') hK C hL hSt hR (fun v w' M' hq => by rw [hz1, hz2]; exact hq)
  have hnn : ((st.take n).reverse.map (cV Γ)).length = n := by rw [List.length_map, List.length_reverse, hlen]
  rcases hl with hl | hl
  · have hr := va_runS (As := (st.take n).reverse.map (cV Γ)) (rest := (st.drop n).map (cV Γ)) (g := F0 m pc lc (st.map (cV Γ))) (H := H) (locs := locs) (cells := cs) (slots := sl) (e := e) (below := below) (meth := meth) (Ts := gdT) ⟨hx9, hb, hml9, hown, hts⟩ hM ⟨callB_of n hts hG rfl rfl rfl (hts _ k2) (hts _ hl) ⟨k4.1, k4.2, k5⟩ hRm, hts _ h2⟩ ⟨cPc_blind, hPc⟩ rfl hnn hL.1 hstk hcat8 hd hf
    exact so_after hr hS kk
  · have hr := va_runSN (As := (st.take n).reverse.map (cV Γ)) (rest := (st.drop n).map (cV Γ)) (g := F0 m pc lc (st.map (cV Γ))) (H := H) (locs := locs) (cells := cs) (slots := sl) (e := e) (below := below) (meth := meth) (Ts := gdT) ⟨hx9, hb, hml9, hown, hts⟩ hM ⟨va_cnB n hts hG rfl rfl rfl (hKF.2.2.1 _ hl rfl) (hts _ k2) ⟨k4.1, k4.2, k5⟩ hRm, hts _ h2, trivial⟩ ⟨cPc_blind, hPc⟩ rfl hnn hL.1 hstk hcat8 hd hf
    exact so_after hr hS kk
theorem so_take1 {n a : Nat} {st rest : List AV} (h : st.drop n = VR a :: rest) : st.take (n + 1) = st.take n ++ [VR a] ∧ st.drop (n + 1) = rest ∧ n < st.length := by
  have h1 : n < st.length := by
    apply Nat.lt_of_not_le
    intro q
    rw [List.drop_eq_nil_of_le q] at h
    cases h
  have h2 : st[n] = VR a := by
    have := List.drop_eq_getElem_cons h1
    rw [h] at this
    injection this with e1 e2
    exact e1.symm
  refine ⟨?_, ?_, h1⟩
  · rw [List.take_succ_eq_append_getElem h1, h2]
  · have := List.drop_eq_getElem_cons h1
    rw [h] at this
    injection this with e1 e2
    exact e2.symm
theorem r_virtual {ix μ' n ci : Nat} (hK : KOK Γ μ Q K) (hd : decode (mcode μ) pc = .ok (.invokevirtual ix, 3)) (hk : mchk μ' n = true) (hdp : mdp μ' < mdp μ) (hnl : n + 1 ≤ mxl μ') (hml : mxl μ' ≤ 18) (hl : Jvm.Cond.methodLink (my μ).cls ix (my μ') ∈ gdT) (h2 : Jvm.Cond.instanceMethod (my μ') ∈ gdT) (h3 : Jvm.Cond.selects (clN ci) (my μ') (my μ') ∈ gdT) (hci : ci < 10) (hz1 : mmc μ' = 0) (hz2 : mms μ' = 0)
    (h : popA (st.drop n) (fun a _ => w.1 a = 4 + ci ∧ gd (Nat.ble (cats (st.drop (n + 1))) 8 && (Nat.ble (n + 1) st.length && (Nat.beq (cats (st.take (n + 1))) (n + 1) && rmk μ cs sl))) (wp Γ μ' 0 (argL (n + 1) st []) [] 0 0 w M (fun v w' M' => K (pc + 3) ls (rvs v ++ st.drop (n + 1)) cs sl w' M')))) : wp Γ μ pc ls st cs sl w M Q := by
  obtain ⟨a, rest, hst, hkd, h⟩ := popA_ex h
  obtain ⟨t1, t2, t3⟩ := so_take1 hst
  obtain ⟨hg, h⟩ := gd_ex h
  obtain ⟨g1, g2, g3, g4⟩ := so_gd hg
  have g1 := Nat.le_of_ble_eq_true g1
  have g2 := Nat.le_of_ble_eq_true g2
  have g3 := Nat.eq_of_beq_eq_true g3
  obtain ⟨g4, g5⟩ := rmk_le g4
  intro p e R s m args below meth c H locs lc Z C hH hL hSt hS hR
  have hlen : (st.take (n + 1)).length = n + 1 := by rw [List.length_take]; omega
  have hlen0 : (st.take n).length = n := by rw [List.length_take]; omega
  rw [argL_eq, List.append_nil] at h
  have hcat : ∀ v ∈ (st.take (n + 1)).reverse, (cV Γ v).category = 1 := fun v hv => cats_one Γ (st.take (n + 1)) (by rw [g3, hlen]) v (List.mem_reverse.mp hv)
  have hok : ∀ v ∈ (st.take (n + 1)).reverse, okV v := fun v hv => hSt v (List.mem_of_mem_take (List.mem_reverse.mp hv))
  obtain ⟨hM, hG, hRm, hPc⟩ := so_call C hH hS hk hdp hml (by rw [List.length_reverse, hlen]; exact hnl) hok hcat h
  obtain ⟨k1, k2, k3, k4, k5⟩ := mchk_ex hk
  obtain ⟨hx9, hb, hr, hml9, hown, hts, hlk, hnm, hKF, ⟨hfr, hlo, hrc, hrs⟩, -⟩ := id C
  have has : (st.take (n + 1)).reverse.map (cV Γ) = .ref (adr Γ a) :: (st.take n).reverse.map (cV Γ) := by rw [t1, List.reverse_append]; rfl
  rw [has] at hPc
  have hstk : st.map (cV Γ) = ((st.take n).reverse.map (cV Γ)).reverse ++ .ref (adr Γ a) :: (st.drop (n + 1)).map (cV Γ) := by
    rw [← List.map_reverse, List.reverse_reverse, show Value.ref (adr Γ a) = cV Γ (VR a) from rfl, ← List.map_cons, t2, ← hst, ← List.map_append, List.take_append_drop]
  have hf : cs + mmc μ' ≤ R.cells ∧ sl + mms μ' ≤ R.slots := by rw [hz1, hz2]; omega
  have hcat8 : 2 * (F0 m pc lc (st.map (cV Γ))).monitorRoom + (((st.drop (n + 1)).map (cV Γ)).map fun v => v.category).sum ≤ 8 := by
    show 2 * 0 + _ ≤ 8
    rw [so_cats]; omega
  have kk := so_next (Q' := fun v w' M' => K (pc + 3) ls (rvs v ++ st.drop (n + 1)) cs sl w' M') (μ' := μ') (cs' := cs + mmc μ') (sl' := sl + mms μ') hK C hL hSt hR (fun v w' M' hq => by rw [hz1, hz2]; exact hq)
  have hnn : ((st.take n).reverse.map (cV Γ)).length = n := by rw [List.length_map, List.length_reverse, hlen0]
  obtain ⟨ha, hc⟩ := HR_at hH hkd (by omega) (by omega)
  rw [Nat.add_comm 4 ci] at hc
  obtain ⟨r, hr1, cellB, c1, c2, c3, -⟩ := hc
  have hrecv : ∃ cellB : Cell, H[adr Γ a]? = some cellB ∧ cellB.vm.isStatics = false ∧ s.vm.findClass (clN ci) = some cellB.cls := ⟨cellB, c1, by rw [c3]; rfl, by rw [c2]; exact (hKF.1.1 ci _ (cl_at ci hci)).2.1⟩
  have hr := va_runV (As := (st.take n).reverse.map (cV Γ)) (rest := (st.drop (n + 1)).map (cV Γ)) (g := F0 m pc lc (st.map (cV Γ))) (H := H) (locs := locs) (cells := cs) (slots := sl) (e := e) (below := below) (meth := meth) (Ts := gdT) ⟨hx9, hb, hml9, hown, hts⟩ hM ⟨callB_of n hts hG rfl rfl rfl (hts _ k2) (hts _ hl) ⟨k4.1, k4.2, k5⟩ hRm, hts _ h2, hts _ h3⟩ ⟨cPc_blind, hrecv, hPc⟩ rfl hnn hL.1 hstk hcat8 hd hf
  exact so_after hr hS kk
theorem r_special {ix μ' n : Nat} (hK : KOK Γ μ Q K) (hd : decode (mcode μ) pc = .ok (.invokespecial ix, 3)) (hk : mchk μ' n = true) (hdp : mdp μ' < mdp μ) (hnl : n + 1 ≤ mxl μ') (hml : mxl μ' ≤ 18) (hl : Jvm.Cond.methodLink (my μ).cls ix (my μ') ∈ gdT ∨ Jvm.Cond.methodLinkNest (my μ).cls ix (my μ') "ShiftAdds" ∈ lw_tbl) (h2 : Jvm.Cond.instanceMethod (my μ') ∈ gdT) (hn1 : (my μ').name = "<init>") (hn2 : mret μ' = none)
    (h : gd (Nat.ble (cats (st.drop (n + 1))) 8 && (Nat.ble (n + 1) st.length && (Nat.beq (cats (st.take (n + 1))) (n + 1) && rmk μ cs sl))) (gd (rmk μ (cs + mmc μ') (sl + mms μ')) (wp Γ μ' 0 (argL (n + 1) st []) [] 0 0 w M (fun v w' M' => K (pc + 3) ls (rvs v ++ st.drop (n + 1)) (cs + mmc μ') (sl + mms μ') w' M')))) (hrecv : ∃ a rest, st.drop n = VR a :: rest) : wp Γ μ pc ls st cs sl w M Q := by
  obtain ⟨a, rest, hst⟩ := hrecv
  obtain ⟨t1, t2, t3⟩ := so_take1 hst
  obtain ⟨hg, h⟩ := gd_ex h
  obtain ⟨hg9, h⟩ := gd_ex h
  obtain ⟨g1, g2, g3, g4⟩ := so_gd hg
  have g1 := Nat.le_of_ble_eq_true g1
  have g2 := Nat.le_of_ble_eq_true g2
  have g3 := Nat.eq_of_beq_eq_true g3
  obtain ⟨g4, g5⟩ := rmk_le hg9
  intro p e R s m args below meth c H locs lc Z C hH hL hSt hS hR
  have hlen : (st.take (n + 1)).length = n + 1 := by rw [List.length_take]; omega
  have hlen0 : (st.take n).length = n := by rw [List.length_take]; omega
  rw [argL_eq, List.append_nil] at h
  have hcat : ∀ v ∈ (st.take (n + 1)).reverse, (cV Γ v).category = 1 := fun v hv => cats_one Γ (st.take (n + 1)) (by rw [g3, hlen]) v (List.mem_reverse.mp hv)
  have hok : ∀ v ∈ (st.take (n + 1)).reverse, okV v := fun v hv => hSt v (List.mem_of_mem_take (List.mem_reverse.mp hv))
  obtain ⟨hM, hG, hRm, hPc⟩ := so_call C hH hS hk hdp hml (by rw [List.length_reverse, hlen]; exact hnl) hok hcat h
  obtain ⟨k1, k2, k3, k4, k5⟩ := mchk_ex hk
  obtain ⟨hx9, hb, hr, hml9, hown, hts, hlk, hnm, hKF, ⟨hfr, hlo, hrc, hrs⟩, -⟩ := id C
  have has : (st.take (n + 1)).reverse.map (cV Γ) = .ref (adr Γ a) :: (st.take n).reverse.map (cV Γ) := by rw [t1, List.reverse_append]; rfl
  rw [has] at hPc
  have hstk : st.map (cV Γ) = ((st.take n).reverse.map (cV Γ)).reverse ++ .ref (adr Γ a) :: (st.drop (n + 1)).map (cV Γ) := by
    rw [← List.map_reverse, List.reverse_reverse, show Value.ref (adr Γ a) = cV Γ (VR a) from rfl, ← List.map_cons, t2, ← hst, ← List.map_append, List.take_append_drop]
  have hf : cs + mmc μ' ≤ R.cells ∧ sl + mms μ' ≤ R.slots := by omega
  have hcat8 : 2 * (F0 m pc lc (st.map (cV Γ))).monitorRoom + (((st.drop (n + 1)).map (cV Γ)).map fun v => v.category).sum ≤ 8 := by
    show 2 * 0 + _ ≤ 8
    rw [so_cats]; omega
  have kk := so_next (Q' := fun v w' M' => K (pc + 3) ls (rvs v ++ st.drop (n + 1)) (cs + mmc μ') (sl + mms μ') w' M') (μ' := μ') (cs' := cs + mmc μ') (sl' := sl + mms μ') hK C hL hSt hR (fun v w' M' hq => hq)
  have hnn : ((st.take n).reverse.map (cV Γ)).length = n := by rw [List.length_map, List.length_reverse, hlen0]
  have hw0 : cws μ' = Jvm.Cond.code (my μ') (mcode μ') (mxl μ') none :: gdT := by rw [← hn2]
  rcases hl with hl | hl
  · have hr := va_runI (As := (st.take n).reverse.map (cV Γ)) (rest := (st.drop (n + 1)).map (cV Γ)) (g := F0 m pc lc (st.map (cV Γ))) (H := H) (locs := locs) (cells := cs) (slots := sl) (e := e) (below := below) (meth := meth) (Ts := gdT) ⟨hx9, hb, hml9, hown, hts⟩ hM ⟨callB_of n hts hG hw0 rfl rfl (hts _ k2) (hts _ hl) ⟨k4.1, k4.2, k5⟩ hRm, hn1, hts _ h2⟩ ⟨cPc_blind, hPc⟩ rfl hnn hL.1 hstk hcat8 hd hf
    exact so_after hr hS kk
  · have hr := va_runIN (As := (st.take n).reverse.map (cV Γ)) (rest := (st.drop (n + 1)).map (cV Γ)) (g := F0 m pc lc (st.map (cV Γ))) (H := H) (locs := locs) (cells := cs) (slots := sl) (e := e) (below := below) (meth := meth) (Ts := gdT) ⟨hx9, hb, hml9, hown, hts⟩ hM ⟨va_cnB n hts hG hw0 rfl rfl (hKF.2.2.1 _ hl rfl) (hts _ k2) ⟨k4.1, k4.2, k5⟩ hRm, hn1, hts _ h2⟩ ⟨cPc_blind, hPc⟩ rfl hnn hL.1 hstk hcat8 hd hf
    exact so_after hr hS kk
end Rules
