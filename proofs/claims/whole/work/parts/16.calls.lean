/-! ===== the rules: arraycopy, returns, calls ===== -/
theorem cpM_b (M : MM) (a b n : Nat) : cpM M a b n b = va_cpy (M a) (M b) 0 0 n := by
  funext k
  simp [cpM, va_cpy]
theorem cpM_ne {M : MM} {a b n j : Nat} (h : j ≠ b) : cpM M a b n j = M j := by
  funext k
  simp [cpM, h]
theorem cpM_R {M : MM} {a b n : Nat} (hM : ∀ a k, inR (M a k)) : ∀ c j, inR (cpM M a b n c j) := by
  intro c j
  unfold cpM
  split <;> exact hM _ _
section Rules
variable {Γ : GG} {μ pc : Nat} {ls : LL} {st : List AV} {cs sl : Nat} {w : Wd} {M : MM} {Q : QT} {K : KT}
theorem r_copy {ix : Nat} (hK : KOK Γ μ Q K) (hd : decode (mcode μ) pc = .ok (.invokestatic ix, 3)) (hdp : 1 ≤ mdp μ) (h1 : Jvm.Cond.methodLink (my μ).cls ix arraycopyName ∈ gdT) (h2 : Jvm.Cond.static arraycopyName ∈ gdT) (h3 : Jvm.Cond.native arraycopyName ∈ gdT) (h4 : Jvm.Cond.initialized "java/lang/System" ∈ gdT)
    (h : popC st (fun a sp b dp n st => gd (Nat.ble (cats st) 8 && rmk μ cs sl) ((w.1 a = 0 ∧ w.1 b = 0) ∧ (sp = 0 ∧ dp = 0 ∧ 0 ≤ n ∧ n ≤ w.2.1 a ∧ n ≤ w.2.1 b) ∧ K (pc + 3) ls st cs sl w (cpM M a b n.toNat)))) : wp Γ μ pc ls st cs sl w M Q := by
  obtain ⟨a, sp, b, dp, n, st, rfl, h⟩ := popC_ex h
  obtain ⟨hg, ⟨hka, hkb⟩, ⟨rfl, rfl, hn0, hna, hnb⟩, h7⟩ := gd_ex h
  rw [Bool.and_eq_true] at hg
  have hg0 := Nat.le_of_ble_eq_true hg.1
  intro p e R s m args below meth c H locs lc Z C hH hL hSt hS hR
  have hn : inR n := so_head hSt
  obtain ⟨hx9, hb, hr, hml, hown, hts, hlk, hnm, hKF, ⟨hfr, hlo, hrc, hrs⟩, -⟩ := id C
  obtain ⟨ha, hca⟩ := HR_at hH hka (by decide) (by decide)
  obtain ⟨hb0, hcb⟩ := HR_at hH hkb (by decide) (by decide)
  have hca : H[adr Γ a]? = some (arI Γ 0 (w.2.1 a) (M a)) := hca
  have hcb : H[adr Γ b]? = some (arI Γ 0 (w.2.1 b) (M b)) := hcb
  obtain ⟨-, k0, hk0, cm0, hkk0⟩ := (hKF.1.2 0 _ rfl).1 (w.2.1 a) (fun j => .int (Int32.ofInt (M a j)))
  have ec := so_clamp hn hn0
  have e0 : (Int32.ofInt 0).toNatClampNeg = 0 := by decide +kernel
  intro T hT X
  obtain ⟨vm', X', step⟩ := X.arraycopy hx9 hown (hts _ h1) (hts _ h3) (hts _ h2) (hts _ h4) (src := adr Γ a) (dst := adr Γ b) (cs := arI Γ 0 (w.2.1 a) (M a)) (cd := arI Γ 0 (w.2.1 b) (M b)) (srcPos := Int32.ofInt 0) (destPos := Int32.ofInt 0) (n := Int32.ofInt n) (by rw [hT]; exact hca) (by rw [hT]; exact hcb)
    (fun _ h => by cases h) (fun _ h => by cases h) (fun h => by cases h) (fun h => by cases h) hk0 hk0 hkk0 hkk0 rfl (by decide +kernel) (by decide +kernel) (by rw [show (0 : Int32) = Int32.ofInt 0 from rfl, so_lt hn so_0]; omega)
    (by rw [so_ofI so_0, so_ofI hn]; show ¬ _ > ((arrV _ _ _).slots.size : Int); rw [arrV_size]; omega)
    (by rw [so_ofI so_0, so_ofI hn]; show ¬ _ > ((arrV _ _ _).slots.size : Int); rw [arrV_size]; omega)
    (fun vm₁ _ i hi => by
      rw [ec] at hi
      have e : (arI Γ 0 (w.2.1 a) (M a)).slots.getD ((Int32.ofInt 0).toNatClampNeg + i) .null = .int (Int32.ofInt (M a i)) := by
        show (arrV _ _ _).slots.getD _ _ = _
        rw [e0, Nat.zero_add, Array.getD_eq_getD_getElem?, arrV_read _ _ (by omega)]
        rfl
      refine ⟨?_, ?_⟩
      · rw [e]; rfl
      · rw [e]; exact trivial)
    (g := F0 m pc lc (.int (Int32.ofInt n) :: .int (Int32.ofInt 0) :: .ref (adr Γ b) :: .int (Int32.ofInt 0) :: .ref (adr Γ a) :: st.map (cV Γ))) rfl (by rw [hml]; exact hL.1) (rest := st.map (cV Γ)) rfl (by rw [hb]; exact hd) (by omega) (by show 2 * 0 + _ + (7 + 11) ≤ _; have := so_cats Γ st; omega)
  have e1 : copied (arI Γ 0 (w.2.1 a) (M a)) (arI Γ 0 (w.2.1 b) (M b)) (Int32.ofInt 0) (Int32.ofInt 0) (Int32.ofInt n) = arI Γ 0 (w.2.1 b) (va_cpy (M a) (M b) 0 0 n.toNat) := by
    have := va_copied (fun z : Int => Value.int (Int32.ofInt z)) (gA Γ 0) (gA Γ 0) (n0 := w.2.1 a) (n1 := w.2.1 b) (sp := 0) (dp := 0) (n := n.toNat) (M a) (M b) (by omega)
    unfold copied
    rw [e0, ec]
    exact this
  rw [e1] at X' step
  have hl : adr Γ b < H.size := (Array.getElem?_eq_some_iff.mp hcb).1
  generalize hH' : H.setIfInBounds (adr Γ b) (arI Γ 0 (w.2.1 b) (va_cpy (M a) (M b) 0 0 n.toNat)) = H'
  have hheap : ((T.setVm vm').setCell (adr Γ b) (arI Γ 0 (w.2.1 b) (va_cpy (M a) (M b) 0 0 n.toNat))).heap = H' := by rw [← hH', ← hT]; rfl
  have oq : ∀ q : Nat, q ≠ adr Γ b → H'[q]? = H[q]? := fun q hq => by rw [← hH']; simp [Array.getElem?_setIfInBounds, Ne.symm hq]
  have z : H'.size = H.size := by rw [← hH']; simp
  obtain ⟨t, a1, b1⟩ := hK _ _ _ _ _ _ _ h7 p e R s m args below meth c H' _ lc Z C (HR_chg hH hb0 hkb z oq rfl rfl rfl (fun _ _ => rfl) (fun j hj => cpM_ne hj) (cpM_R hH.2.1) (by
      show H'[adr Γ b]? = some (arI Γ 0 _ (cpM M a b n.toNat b))
      rw [cpM_b, ← hH']
      simp [Array.getElem?_setIfInBounds, hl])) hL (so_tail (so_tail (so_tail (so_tail (so_tail hSt))))) ⟨by rw [z]; exact hS.1, fun q g1 g2 => by
      rw [oq q (fun e => g2 (by rw [e]; exact adr_ge hb0))]
      exact hS.2.1 q g1 g2, fun q hq => by
      rcases List.mem_append.mp hq with h | h
      · exact hS.2.2 q h
      · obtain ⟨z, -, hz⟩ := List.mem_map.mp h
        rw [← hz]
        exact adr_ge hb0⟩ hR _ hheap X'
  exact ⟨t, step t a1, b1⟩
theorem r_ret {v : Option AV} (hd : decode (mcode μ) pc = .ok (rins v, 1)) (hr : (∀ u ∈ rvs v, okV u) → okR (mret μ) v) (hg : rmk μ cs sl = true) (h : Q v w M) : wp Γ μ pc ls (rvs v) cs sl w M Q := by
  obtain ⟨hg1, hg2⟩ := rmk_le hg
  intro p e R s m args below meth c H locs lc Z C hH hL hSt hS hR
  exact W.widen hg1 hg2 (hR v w M H locs pc lc h (hr hSt) hH hS hd)
end Rules
-- calls: the callee's contract
theorem KF_moved {Γ : GG} {s U : State} (h : KF Γ s) (hW : s.WarmedH U.vm) : KF Γ U := by
  obtain ⟨h1, h2, h3, h4, k5, h5a, h5b⟩ := h
  obtain ⟨k6, hk6, he6⟩ := hW.alike.2.2 _ _ h5a
  refine ⟨va_K.moved hW.alike h1, State.isArrayOf_alike hW.alike h2, fun w hw hn => ?_, h4.moved hW.alike, k6, hk6, by rw [he6]; exact h5b⟩
  have h5 := h3 w hw hn
  unfold neW at hn
  split at hn
  · exact va_Nw.warmM hW h5
  · cases hn
theorem KF_vm {Γ : GG} {s U : State} (h : KF Γ s) (hv : s.vm = U.vm) : KF Γ U := by
  obtain ⟨h1, h2, h3, h4, k5, h5a, h5b⟩ := h
  have ha : s.vm.Alike U.vm := by rw [← hv]; exact Vm.Alike.refl _
  refine ⟨va_K.moved ha h1, State.isArrayOf_alike ha h2, fun w hw hn => ?_, h4.moved ha, k5, by rw [← hv]; exact h5a, h5b⟩
  have h5 := h3 w hw hn
  unfold neW at hn
  split at hn
  · exact va_Nw.same rfl hv h5
  · cases hn
abbrev cws (μ : Nat) : List Jvm.Cond := Jvm.Cond.code (my μ) (mcode μ) (mxl μ) (mret μ) :: gdT
abbrev crm (μ : Nat) : Room := { frames := mdp μ, cells := mmc μ, slots := mms μ, locals := 37 * mdp μ }
def cPc (Γ : GG) (as : List AV) (w : Wd) (M : MM) : Array Value → State → Prop := fun v U => v = (as.map (cV Γ)).toArray ∧ HR Γ w M U.heap ∧ KF Γ U ∧ (gs Γ).vm ≠ .unknown ∧ gB Γ ≤ U.heap.size ∧ gb Γ < gB Γ ∧ U.heap[gb Γ]? = some (gs Γ)
def cQc (Γ : GG) (μ : Nat) (Q : QT) : Array Value → State → Outcome → State → Prop := fun _ st o t => ∃ v w M, Q v w M ∧ okR (mret μ) v ∧ o = .returned (v.map (cV Γ)) ∧ HR Γ w M t.heap ∧ va_F (gQ Γ) st t
theorem so_args : ∀ (Γ : GG) (as : List AV) (k : Nat), (∀ v ∈ as, (cV Γ v).category = 1) → ∀ (i : Nat) (v : AV), as[i]? = some v → (k + i, cV Γ v) ∈ lv_args k (as.map (cV Γ))
  | Γ, [], k, _, i, v, h => by cases h
  | Γ, a :: as, k, hc, 0, v, h => by
    cases h
    exact List.mem_cons_self
  | Γ, a :: as, k, hc, i + 1, v, h => by
    have h1 := so_args Γ as (k + 1) (fun u hu => hc u (List.mem_cons_of_mem _ hu)) i v h
    have h2 := hc a List.mem_cons_self
    show _ ∈ (k, cV Γ a) :: lv_args (if (cV Γ a).category = 2 then k + 2 else k + 1) (as.map (cV Γ))
    rw [h2, if_neg (by decide), show k + (i + 1) = k + 1 + i by omega]
    exact List.mem_cons_of_mem _ h1
theorem so_getmap : ∀ (as : List AV) (i : Nat) (v : AV), getL (as.map some) i = some v → as[i]? = some v
  | [], _, _, h => by cases h
  | a :: as, 0, v, h => by
    show some a = some v
    exact h
  | a :: as, i + 1, v, h => so_getmap as i v h
theorem so_sl1 : ∀ (Γ : GG) (as : List AV), (∀ v ∈ as, (cV Γ v).category = 1) → (lg_sl (as.map (cV Γ))).length = as.length
  | Γ, [], _ => rfl
  | Γ, a :: as, hc => by
    have h1 := so_sl1 Γ as (fun u hu => hc u (List.mem_cons_of_mem _ hu))
    have h2 := hc a List.mem_cons_self
    have e : lg_sl (cV Γ a :: as.map (cV Γ)) = (if (cV Γ a).category = 2 then [.val (cV Γ a), .second] else [.val (cV Γ a)]) ++ lg_sl (as.map (cV Γ)) := rfl
    rw [List.map_cons, e, if_neg (by rw [h2]; decide), List.length_append, h1, List.length_cons, List.length_cons, List.length_nil]
    omega
theorem okR_ret {ret : Option FieldType} {v : Option AV} (h : okR ret v) : True := trivial
/-- a method's road gives its contract -/
theorem so_met {Γ : GG} {μ : Nat} {as : List AV} {w : Wd} {M : MM} {Q : QT} (hw : wp Γ μ 0 (as.map some) [] 0 0 w M Q) (hok : ∀ v ∈ as, okV v) (hcat : ∀ v ∈ as, (cV Γ v).category = 1) (hlen : as.length ≤ mxl μ) (hpl : plainName (my μ).cls = true) :
    Met (gl Γ) (my μ) (cws μ) (crm μ) (cPc Γ as w M) (cQc Γ μ Q) (mmc μ) (mms μ) (gQ Γ) := by
  refine Met.ofW (cc := mcode μ) (maxL := mxl μ) (ret := mret μ) hpl rfl ?_
  intro p e s m args below meth c s₁ B hml hv
  obtain ⟨rfl, hH, hK, hun, hb1, hb2, hb3⟩ := hv
  have hts := atoms_spec (ws := cws μ) B.pre
  have hown : s.vm.findClass (my μ).cls = some m.cls := findClass_of_methodNamed B.named
  have C : Cx Γ μ p (crm μ) s m (as.map (cV Γ)).toArray meth c :=
    ⟨B.exec, B.bytes, B.returns, hml, hown, fun w hw => hts w (List.mem_cons_of_mem _ hw), B.notSynchronized, fun h => (name_of_methodNamed B.named B.method).1.trans h, hK, ⟨Nat.le_refl _, Nat.le_refl _, Nat.le_refl _, Nat.le_refl _⟩, hun, hb1, hb2, hb3⟩
  have hl := lv_entry (as.map (cV Γ)) (n := mxl μ) (by rw [so_sl1 Γ as hcat]; exact hlen)
  rw [lg_entry_eq]
  generalize (lg_sl (as.map (cV Γ)) ++ List.replicate (mxl μ - (lg_sl (as.map (cV Γ))).length) Slot.unset).toArray = lc at hl ⊢
  refine hw p e (crm μ) s m _ below meth c s.heap [] lc _ C hH ⟨hl.1, hl.2.1, fun i v hi => ?_⟩ (fun v hv => by cases hv) va_S.rf ?_
  · have h1 := so_getmap as i v hi
    have h2 := List.mem_of_getElem? h1
    refine ⟨?_, hok v h2, hcat v h2⟩
    have h3 := so_args Γ as 0 hcat i v h1
    rw [Nat.zero_add] at h3
    exact hl.2.2 _ h3
  · intro v w' M' H' locs' pc' lc' hQ hok' hH' hS' hd'
    have hr := B.returns
    have hx := B.exec
    have hb := B.bytes
    match v, hok', hQ, hd' with
    | none, hok', hQ, hd' =>
      have hret : meth.sig.returnType = none := hr.trans hok'
      exact W.vret hx hb hret (fun t ht hW => ⟨none, w', M', hQ, hok', rfl, by rw [ht]; exact hH', hS'.F ht⟩) hS'.2.2 hd'
    | some (.inl x), hok', hQ, hd' =>
      rcases id hok' with ⟨h1, h2⟩ | ⟨h1, h2⟩
      · have hret : meth.sig.returnType = some .int := hr.trans h1
        exact W.iret hx hb hret (fun t ht hW => ⟨some (.inl x), w', M', hQ, hok', rfl, by rw [ht]; exact hH', hS'.F ht⟩) hS'.2.2 hd'
      · have hret : meth.sig.returnType = some .boolean := hr.trans h1
        exact W.zret hx hb hret (so_bool h2) (fun t ht hW => ⟨some (.inl x), w', M', hQ, hok', rfl, by rw [ht]; exact hH', hS'.F ht⟩) hS'.2.2 hd'
    | some (.inr (.inl x)), hok', hQ, hd' =>
      have hret : meth.sig.returnType = some .long := hr.trans hok'.1
      exact W.lret hx hb hret (fun t ht hW => ⟨some (.inr (.inl x)), w', M', hQ, hok', rfl, by rw [ht]; exact hH', hS'.F ht⟩) hS'.2.2 hd'
    | some (.inr (.inr (some a))), hok', hQ, hd' =>
      obtain ⟨n, hn⟩ := id hok'
      have hret : meth.sig.returnType = some (.object n) := hr.trans hn
      exact W.aret hx hb hret (Or.inl ⟨n, rfl⟩) (Or.inr ⟨adr Γ a, rfl⟩) (fun t ht hW => ⟨some (.inr (.inr (some a))), w', M', hQ, hok', rfl, by rw [ht]; exact hH', hS'.F ht⟩) hS'.2.2 hd'
    | some (.inr (.inr none)), hok', hQ, hd' => exact hok'.elim
