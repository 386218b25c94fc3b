/-! ===== one step is sound; so is a road ===== -/
theorem so_and2 {a b : Bool} (h : (a && b) = true) : a = true ∧ b = true := by
  rw [Bool.and_eq_true] at h
  exact h
theorem so_len {μ pc : Nat} {i : Instr} {n k : Nat} (h : decode (mcode μ) pc = .ok (i, n)) (hn : Nat.beq n k = true) : decode (mcode μ) pc = .ok (i, k) := by
  rw [← Nat.eq_of_beq_eq_true hn]
  exact h
theorem rtk_v {r : Option FieldType} (h : rtk .return_ r = true) : r = none := by
  rcases r with _ | r
  · rfl
  · cases h
theorem rtk_l {r : Option FieldType} (h : rtk .lreturn r = true) : r = some .long := by
  rcases r with _ | r
  · cases h
  · cases r <;> first | rfl | cases h
theorem rtk_a {r : Option FieldType} (h : rtk .areturn r = true) : ∃ n, r = some (.object n) := by
  rcases r with _ | r
  · cases h
  · cases r <;> first | exact ⟨_, rfl⟩ | cases h
theorem rtk_i {r : Option FieldType} (h : rtk .ireturn r = true) (hb : isZ r = false) : r = some .int := by
  rcases r with _ | r
  · cases h
  · cases r <;> first | rfl | (cases h; done) | (cases hb; done)
theorem isZ_b {r : Option FieldType} (hb : isZ r = true) : r = some .boolean := by
  rcases r with _ | r
  · cases hb
  · cases r <;> first | rfl | cases hb
/-- the rule of 'new int[n][k]', proved apart -/
def r_mna_open (Γ : GG) : Prop := ∀ {μ pc : Nat} {ls : LL} {st : List AV} {cs sl : Nat} {w : Wd} {M : MM} {Q : QT} {K : KT} {ix : Nat}, KOK Γ μ Q K → decode (mcode μ) pc = .ok (.multianewarray ix 2, 4) → Jvm.Cond.classLink (my μ).cls ix "[[I" ∈ gdT → Jvm.Cond.arrayOver (.array .int) ∈ lw_tbl → Jvm.Cond.arrayClass .int ∈ gdT →
  popII st (fun x y st => ((0 ≤ x ∧ x ≤ 1000) ∧ (0 ≤ y ∧ y ≤ 1000)) ∧ gd (rmk μ (cs + (1 + x.toNat)) (sl + (x.toNat + x.toNat * y.toNat))) (K (pc + 4) ls (.inr (.inr (some (w.2.2.2 + 1))) :: st) (cs + (1 + x.toNat)) (sl + (x.toNat + x.toNat * y.toNat)) (mnW w x.toNat y.toNat) (mnM M w.2.2.2 x.toNat))) → wp Γ μ pc ls st cs sl w M Q
set_option maxHeartbeats 4000000 in
theorem step_ok {Γ : GG} {μ pc : Nat} {ls : LL} {st : List AV} {cs sl : Nat} {w : Wd} {M : MM} {Q : QT} {K : KT} (hmna : r_mna_open Γ) (hK : KOK Γ μ Q K) {i : Instr} {len : Nat} {hd : Bool} {z : Int} {aux : List Nat} (hc : ichk μ pc (i, len, hd, z, aux) = true) (h : stepv Γ μ Q K i z aux pc ls st cs sl w M) : wp Γ μ pc ls st cs sl w M Q := by
  unfold ichk at hc
  obtain ⟨hd0, hc⟩ := so_and2 hc
  have hd := of_decide_eq_true hd0
  dsimp only at hd hc
  cases i with
  | iload_n k => exact r_iload_n hK (so_len hd hc) h
  | iload k => exact r_iload hK (so_len hd hc) h
  | aload_n k => exact r_aload_n hK (so_len hd hc) h
  | istore_n k => obtain ⟨c1, c2⟩ := so_and2 hc; exact r_istore_n hK (so_len hd c1) (Nat.le_of_ble_eq_true c2) h
  | istore k => obtain ⟨c1, c2⟩ := so_and2 hc; exact r_istore hK (so_len hd c1) (Nat.le_of_ble_eq_true c2) h
  | astore_n k => obtain ⟨c1, c2⟩ := so_and2 hc; exact r_astore_n hK (so_len hd c1) (Nat.le_of_ble_eq_true c2) h
  | iconst n => obtain ⟨c1, c2⟩ := so_and2 hc; exact r_iconst hK (so_len hd c1) (of_decide_eq_true c2) h
  | bipush n => obtain ⟨c1, c2⟩ := so_and2 hc; obtain ⟨c2, c3⟩ := so_and2 c2; exact r_bipush hK (so_len hd c1) (of_decide_eq_true c2) (of_decide_eq_true c3) h
  | sipush n => obtain ⟨c1, c2⟩ := so_and2 hc; obtain ⟨c2, c3⟩ := so_and2 c2; exact r_sipush hK (so_len hd c1) (of_decide_eq_true c2) (of_decide_eq_true c3) h
  | ldc ix => obtain ⟨c1, c2⟩ := so_and2 hc; obtain ⟨c2, c3⟩ := so_and2 c2; exact r_ldc hK (so_len hd c1) (of_decide_eq_true c2) (tq_in c3) h
  | lconst n => exact r_lconst hK (so_len hd hc) h
  | iadd => exact r_iadd hK (so_len hd hc) h
  | isub => exact r_isub hK (so_len hd hc) h
  | imul => exact r_imul hK (so_len hd hc) h
  | ineg => exact r_ineg hK (so_len hd hc) h
  | idiv => exact r_idiv hK (so_len hd hc) h
  | irem => exact r_irem hK (so_len hd hc) h
  | ishl => exact r_ishl hK (so_len hd hc) h
  | ishr => exact r_ishr hK (so_len hd hc) h
  | iand => exact r_iand hK (so_len hd hc) h
  | ior => exact r_ior hK (so_len hd hc) h
  | i2l => exact r_i2l hK (so_len hd hc) h
  | lmul => exact r_lmul hK (so_len hd hc) h
  | lcmp => exact r_lcmp hK (so_len hd hc) h
  | dup => exact r_dup hK (so_len hd hc) h
  | dup2 => exact r_dup2 hK (so_len hd hc) h
  | pop => exact r_pop hK (so_len hd hc) h
  | iinc k n => obtain ⟨c1, c2⟩ := so_and2 hc; obtain ⟨c2, c3⟩ := so_and2 c2; exact r_iinc hK (so_len hd c1) (Nat.le_of_ble_eq_true c2) h
  | goto off => obtain ⟨c1, c2⟩ := so_and2 hc; exact r_goto hK (so_len hd c1) (of_decide_eq_true c2) h
  | ifCond q off => obtain ⟨c1, c2⟩ := so_and2 hc; exact r_if hK (so_len hd c1) (of_decide_eq_true c2) h
  | if_icmp q off => obtain ⟨c1, c2⟩ := so_and2 hc; exact r_icmp hK (so_len hd c1) (of_decide_eq_true c2) h
  | iaload => exact r_iaload hK (so_len hd hc) (popIA_mono (fun i a st h => by obtain ⟨h1, n, rfl, h2, h3⟩ := h; exact ⟨h1, ⟨by omega, by omega⟩, h3⟩) h)
  | iastore => exact r_iastore hK (so_len hd hc) (popIIA_mono (fun x i a st h => by obtain ⟨h1, n, rfl, h2, h3⟩ := h; exact ⟨h1, ⟨by omega, by omega⟩, h3⟩) h)
  | baload => exact r_baload hK (so_len hd hc) (popIA_mono (fun i a st h => by obtain ⟨h1, n, rfl, h2, h3⟩ := h; exact ⟨h1, ⟨by omega, by omega⟩, h3⟩) h)
  | bastore => exact r_bastore hK (so_len hd hc) (popIIA_mono (fun x i a st h => by obtain ⟨h1, n, rfl, h2, h3⟩ := h; exact ⟨h1, ⟨by omega, by omega⟩, h3⟩) h)
  | aaload => exact r_aaload hK (so_len hd hc) (popIA_mono (fun i a st h => by obtain ⟨h1, n, rfl, h2, h3⟩ := h; exact ⟨h1, ⟨by omega, by omega⟩, h3⟩) h)
  | aastore => exact r_aastore hK (so_len hd hc) (popAIA_mono (fun b i a st h => by obtain ⟨h1, h0, n, rfl, h2, h3⟩ := h; exact ⟨h1, h0, ⟨by omega, by omega⟩, h3⟩) h)
  | arraylength => exact r_arraylength hK (so_len hd hc) h
  | getfield ix =>
    obtain ⟨c1, c2⟩ := so_and2 hc; obtain ⟨c2, c3⟩ := so_and2 c2; obtain ⟨c3, c4⟩ := so_and2 c3; obtain ⟨c4, c5⟩ := so_and2 c4
    exact r_getfield hK (so_len hd c1) (Nat.le_of_ble_eq_true c4) (Nat.le_of_ble_eq_true c3) (Nat.eq_of_beq_eq_true c5) (tq_in c2) (ax3_ex h)
  | putfield ix =>
    obtain ⟨c1, c2⟩ := so_and2 hc; obtain ⟨c2, c3⟩ := so_and2 c2; obtain ⟨c3, c4⟩ := so_and2 c3; obtain ⟨c4, c5⟩ := so_and2 c4; obtain ⟨c5, c6⟩ := so_and2 c5
    refine r_putfield hK (so_len hd c1) (Nat.le_of_ble_eq_true c4) (Nat.le_of_ble_eq_true c3) (Nat.eq_of_beq_eq_true c5) (tq_in c2) (fun hf => ?_) (ax3_ex h)
    rw [hf] at c6
    obtain ⟨c6, c7⟩ := so_and2 c6
    exact ⟨of_decide_eq_true c6, of_decide_eq_true c7⟩
  | newarray t =>
    obtain ⟨c1, c2⟩ := so_and2 hc; obtain ⟨c2, c3⟩ := so_and2 c2
    refine r_newarray hK (so_len hd c1) (tq_in c2) ?_ h
    cases t <;> first | exact Or.inl rfl | exact Or.inr rfl | cases c3
  | anewarray ix =>
    obtain ⟨c1, c2⟩ := so_and2 hc; obtain ⟨c2, c3⟩ := so_and2 c2
    exact r_anewarray hK (so_len hd c1) (tq_in c2) h
  | multianewarray ix d =>
    obtain ⟨c1, c2⟩ := so_and2 hc; obtain ⟨c2, c3⟩ := so_and2 c2; obtain ⟨c3, c4⟩ := so_and2 c3; obtain ⟨c4, c5⟩ := so_and2 c4
    have e2 := Nat.eq_of_beq_eq_true c2
    subst e2
    exact hmna hK (so_len hd c1) (tq_in c3) (tn_in c4) (tq_in c5) h
  | new ix =>
    obtain ⟨c1, c2⟩ := so_and2 hc; obtain ⟨c2, c3⟩ := so_and2 c2; obtain ⟨c3, c4⟩ := so_and2 c3; obtain ⟨c4, c5⟩ := so_and2 c4; obtain ⟨c5, c6⟩ := so_and2 c5
    exact r_new hK (so_len hd c1) (Nat.le_of_ble_eq_true c2) (Nat.eq_of_beq_eq_true c3) (tq_in c4) (tq_in c5) (tq_in c6) h
  | invokestatic ix =>
    obtain ⟨c1, c2⟩ := so_and2 hc
    have hd := so_len hd c1
    have h : (match aux.getD 0 0 with
      | 5 => popII st (fun x y st => gd (Nat.ble (cats st) 8 && rmk μ cs sl) (K (pc + 3) ls (.inl (max x y) :: st) cs sl w M))
      | 6 => popII st (fun x y st => gd (Nat.ble (cats st) 8 && rmk μ cs sl) (K (pc + 3) ls (.inl (min x y) :: st) cs sl w M))
      | 7 => popI st (fun x st => gd (Nat.ble (cats st) 8 && rmk μ cs sl) (inR (-x) ∧ K (pc + 3) ls (.inl (if x < 0 then -x else x) :: st) cs sl w M))
      | 8 => popC st (fun a sp b dp n st => gd (Nat.ble (cats st) 8 && rmk μ cs sl) ((w.1 a = 0 ∧ w.1 b = 0) ∧ (sp = 0 ∧ dp = 0 ∧ 0 ≤ n ∧ n ≤ w.2.1 a ∧ n ≤ w.2.1 b) ∧ K (pc + 3) ls st cs sl w (cpM M a b n.toNat)))
      | _ => gd (Nat.ble (cats (st.drop (aux.getD 2 0))) 8 && (Nat.ble (aux.getD 2 0) st.length && (Nat.beq (cats (st.take (aux.getD 2 0))) (aux.getD 2 0) && rmk μ cs sl))) (wp Γ (aux.getD 1 0) 0 (argL (aux.getD 2 0) st []) [] 0 0 w M (fun v w' M' => K (pc + 3) ls (rvs v ++ st.drop (aux.getD 2 0)) cs sl w' M'))) := h
    generalize aux.getD 0 0 = q at c2 h
    match q, c2, h with
    | 5, c2, h =>
      obtain ⟨c2, c3⟩ := so_and2 c2; obtain ⟨c3, c4⟩ := so_and2 c3; obtain ⟨c4, c5⟩ := so_and2 c4; obtain ⟨c5, c6⟩ := so_and2 c5
      exact r_max hK hd (Nat.le_of_ble_eq_true c2) (tq_in c3) (tq_in c4) (tq_in c5) (tq_in c6) h
    | 6, c2, h =>
      obtain ⟨c2, c3⟩ := so_and2 c2; obtain ⟨c3, c4⟩ := so_and2 c3; obtain ⟨c4, c5⟩ := so_and2 c4; obtain ⟨c5, c6⟩ := so_and2 c5
      exact r_min hK hd (Nat.le_of_ble_eq_true c2) (tq_in c3) (tq_in c4) (tq_in c5) (tq_in c6) h
    | 7, c2, h =>
      obtain ⟨c2, c3⟩ := so_and2 c2; obtain ⟨c3, c4⟩ := so_and2 c3; obtain ⟨c4, c5⟩ := so_and2 c4; obtain ⟨c5, c6⟩ := so_and2 c5
      exact r_abs hK hd (Nat.le_of_ble_eq_true c2) (tq_in c3) (tq_in c4) (tq_in c5) (tq_in c6) h
    | 8, c2, h =>
      obtain ⟨c2, c3⟩ := so_and2 c2; obtain ⟨c3, c4⟩ := so_and2 c3; obtain ⟨c4, c5⟩ := so_and2 c4; obtain ⟨c5, c6⟩ := so_and2 c5
      exact r_copy hK hd (Nat.le_of_ble_eq_true c2) (tq_in c3) (tq_in c4) (tq_in c5) (tq_in c6) h
    | 1, c2, h =>
      obtain ⟨c2, c3⟩ := so_and2 c2; obtain ⟨c3, c4⟩ := so_and2 c3; obtain ⟨c4, c5⟩ := so_and2 c4; obtain ⟨c5, c6⟩ := so_and2 c5
      obtain ⟨k1, k2, k3, k4⟩ := callk_ex c2
      exact r_static hK hd k1 k2 k3 k4 (Or.inl (tq_in c3)) (tq_in c4) (Nat.eq_of_beq_eq_true c5) (Nat.eq_of_beq_eq_true c6) h
    | 2, c2, h =>
      obtain ⟨c2, c3⟩ := so_and2 c2; obtain ⟨c3, c4⟩ := so_and2 c3; obtain ⟨c4, c5⟩ := so_and2 c4; obtain ⟨c5, c6⟩ := so_and2 c5
      obtain ⟨k1, k2, k3, k4⟩ := callk_ex c2
      exact r_static hK hd k1 k2 k3 k4 (Or.inr (tn_in c3)) (tq_in c4) (Nat.eq_of_beq_eq_true c5) (Nat.eq_of_beq_eq_true c6) h
    | 0, c2, h => cases c2
    | 3, c2, h => cases c2
    | 4, c2, h => cases c2
    | q + 9, c2, h => cases c2
  | invokevirtual ix =>
    obtain ⟨c1, c2⟩ := so_and2 hc; obtain ⟨c2, c3⟩ := so_and2 c2; obtain ⟨c3, c4⟩ := so_and2 c3; obtain ⟨c4, c5⟩ := so_and2 c4; obtain ⟨c5, c6⟩ := so_and2 c5; obtain ⟨c6, c7⟩ := so_and2 c6; obtain ⟨c7, c8⟩ := so_and2 c7
    obtain ⟨k1, k2, k3, k4⟩ := callk_ex c2
    exact r_virtual hK (so_len hd c1) k1 k2 k3 k4 (tq_in c3) (tq_in c4) (tq_in c5) (Nat.le_of_ble_eq_true c6) (Nat.eq_of_beq_eq_true c7) (Nat.eq_of_beq_eq_true c8) h
  | invokespecial ix =>
    obtain ⟨c1, c2⟩ := so_and2 hc
    have hd := so_len hd c1
    have h : (match aux.getD 0 0 with
      | 9 => popA st (fun _ st => gd (Nat.ble (cats st) 8 && rmk μ cs sl) (K (pc + 3) ls st cs sl w M))
      | _ => popA (st.drop (aux.getD 2 0)) (fun _ _ => gd (Nat.ble (cats (st.drop (aux.getD 2 0 + 1))) 8 && (Nat.ble (aux.getD 2 0 + 1) st.length && (Nat.beq (cats (st.take (aux.getD 2 0 + 1))) (aux.getD 2 0 + 1) && rmk μ cs sl))) (gd (rmk μ (cs + mmc (aux.getD 1 0)) (sl + mms (aux.getD 1 0))) (wp Γ (aux.getD 1 0) 0 (argL (aux.getD 2 0 + 1) st []) [] 0 0 w M (fun v w' M' => K (pc + 3) ls (rvs v ++ st.drop (aux.getD 2 0 + 1)) (cs + mmc (aux.getD 1 0)) (sl + mms (aux.getD 1 0)) w' M'))))) := h
    generalize aux.getD 0 0 = q at c2 h
    match q, c2, h with
    | 9, c2, h =>
      obtain ⟨c2, c3⟩ := so_and2 c2; obtain ⟨c3, c4⟩ := so_and2 c3; obtain ⟨c4, c5⟩ := so_and2 c4
      exact r_objInit hK hd (Nat.le_of_ble_eq_true c2) (tq_in c3) (tq_in c4) (tq_in c5) h
    | 3, c2, h =>
      obtain ⟨c2, c3⟩ := so_and2 c2; obtain ⟨c3, c4⟩ := so_and2 c3; obtain ⟨c4, c5⟩ := so_and2 c4; obtain ⟨c5, c6⟩ := so_and2 c5
      obtain ⟨k1, k2, k3, k4⟩ := callk_ex c2
      obtain ⟨a, rest, hst, h⟩ := popA_ex h
      exact r_special hK hd k1 k2 k3 k4 (Or.inl (tq_in c3)) (tq_in c4) (of_decide_eq_true c5) (of_decide_eq_true c6) h ⟨a, rest, hst⟩
    | 4, c2, h =>
      obtain ⟨c2, c3⟩ := so_and2 c2; obtain ⟨c3, c4⟩ := so_and2 c3; obtain ⟨c4, c5⟩ := so_and2 c4; obtain ⟨c5, c6⟩ := so_and2 c5
      obtain ⟨k1, k2, k3, k4⟩ := callk_ex c2
      obtain ⟨a, rest, hst, h⟩ := popA_ex h
      exact r_special hK hd k1 k2 k3 k4 (Or.inr (tn_in c3)) (tq_in c4) (of_decide_eq_true c5) (of_decide_eq_true c6) h ⟨a, rest, hst⟩
    | 0, c2, h => cases c2
    | 1, c2, h => cases c2
    | 2, c2, h => cases c2
    | 5, c2, h => cases c2
    | 6, c2, h => cases c2
    | 7, c2, h => cases c2
    | 8, c2, h => cases c2
    | q + 10, c2, h => cases c2
  | tableswitch d lo hi os =>
    obtain ⟨c1, c2⟩ := so_and2 hc; obtain ⟨c2, c3⟩ := so_and2 c2
    exact r_table hK hd (of_decide_eq_true c1) (of_decide_eq_true c2) (of_decide_eq_true c3) h
  | lookupswitch d ps =>
    obtain ⟨c1, c2⟩ := so_and2 hc; obtain ⟨c2, c3⟩ := so_and2 c2
    exact r_lookup hK hd (of_decide_eq_true c1) (of_decide_eq_true c2) c3 h
  | ireturn =>
    obtain ⟨c1, c2⟩ := so_and2 hc
    have hd := so_len hd c1
    obtain ⟨x, rfl, h7⟩ := rtI_ex h
    cases hb : isZ (mret μ) with
    | true =>
      rw [hb] at h7
      obtain ⟨h01, h7⟩ := h7
      obtain ⟨hg, h7⟩ := gd_ex h7
      exact r_ret (v := some (.inl x)) hd (fun _ => Or.inr ⟨isZ_b hb, h01⟩) hg h7
    | false =>
      rw [hb] at h7
      obtain ⟨hg, h7⟩ := gd_ex h7
      exact r_ret (v := some (.inl x)) hd (fun h9 => Or.inl ⟨rtk_i c2 hb, so_head h9⟩) hg h7
  | lreturn =>
    obtain ⟨c1, c2⟩ := so_and2 hc
    have hd := so_len hd c1
    obtain ⟨x, rfl, h7⟩ := rtL_ex h
    obtain ⟨hg, h7⟩ := gd_ex h7
    exact r_ret (v := some (.inr (.inl x))) hd (fun h9 => ⟨rtk_l c2, so_head h9⟩) hg h7
  | areturn =>
    obtain ⟨c1, c2⟩ := so_and2 hc
    have hd := so_len hd c1
    obtain ⟨x, rfl, h7⟩ := rtA_ex h
    obtain ⟨hg, h7⟩ := gd_ex h7
    exact r_ret (v := some (.inr (.inr (some x)))) hd (fun h9 => rtk_a c2) hg h7
  | return_ =>
    obtain ⟨c1, c2⟩ := so_and2 hc
    have hd := so_len hd c1
    obtain ⟨rfl, h7⟩ := rt0_ex h
    obtain ⟨hg, h7⟩ := gd_ex h7
    exact r_ret (v := none) hd (fun h9 => rtk_v c2) hg h7
  | _ => exact False.elim h
theorem lkB_in : ∀ {pc : Nat} {l : List (Nat × AI)} {ai : AI}, lkB pc l = some ai → (pc, ai) ∈ l
  | _, [], _, h => by cases h
  | pc, x :: xs, ai, h => by
    have h : (bif Nat.beq pc x.1 then some x.2 else lkB pc xs) = some ai := h
    cases hq : Nat.beq pc x.1 with
    | true =>
      rw [hq] at h
      have e := Nat.eq_of_beq_eq_true hq
      have h := Option.some.inj h
      rw [e, ← h]
      exact List.mem_cons_self
    | false =>
      rw [hq] at h
      exact List.mem_cons_of_mem _ (lkB_in h)
theorem lk2_in : ∀ {pc : Nat} {B : BK} {ai : AI}, lk2 pc B = some ai → ∃ b ∈ B, (pc, ai) ∈ b.2
  | _, [], _, h => by cases h
  | pc, x :: xs, ai, h => by
    have h : (bif Nat.ble pc x.1 then lkB pc x.2 else lk2 pc xs) = some ai := h
    cases hq : Nat.ble pc x.1 with
    | true =>
      rw [hq] at h
      exact ⟨x, List.mem_cons_self, lkB_in h⟩
    | false =>
      rw [hq] at h
      obtain ⟨b, hb, h2⟩ := lk2_in h
      exact ⟨b, List.mem_cons_of_mem _ hb, h2⟩
theorem vc_ok {Γ : GG} {μ : Nat} {Q : QT} (hmna : r_mna_open Γ) (hck : bchk μ = true) : ∀ (k : Nat) (first : Bool) (pc : Nat) (ls : LL) (st : List AV) (cs sl : Nat) (w : Wd) (M : MM), vc Γ μ (PL μ) Q k first pc ls st cs sl w M → wp Γ μ pc ls st cs sl w M Q := by
  intro k
  induction k with
  | zero => intro first pc ls st cs sl w M h; exact h
  | succ k ih =>
    intro first pc ls st cs sl w M h
    have h : (match lk2 pc (PL μ) with
      | none => False
      | some ai => bif (ai.2.2.1 && !first) then wp Γ μ pc ls st cs sl w M Q else stepv Γ μ Q (vc Γ μ (PL μ) Q k false) ai.1 ai.2.2.2.1 ai.2.2.2.2 pc ls st cs sl w M) := h
    split at h
    · exact h.elim
    · rename_i ai hai
      obtain ⟨b, hb, hin⟩ := lk2_in hai
      unfold bchk at hck
      have hc1 := List.all_eq_true.mp hck b hb
      have hc : ichk μ pc ai = true := List.all_eq_true.mp hc1 (pc, ai) hin
      cases hq : (ai.2.2.1 && !first) with
      | true => rw [hq] at h; exact h
      | false => rw [hq] at h; exact step_ok hmna (ih false) hc h
