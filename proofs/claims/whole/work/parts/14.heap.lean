/-! ===== the rules: fields and arrays ===== -/
theorem adr_ne {Γ : GG} {i a : Nat} (ha : a ≠ 0) (h : i + 1 ≠ a) : adr Γ (i + 1) ≠ adr Γ a := by
  cases a with
  | zero => exact absurd rfl ha
  | succ j =>
    show gB Γ + i ≠ gB Γ + j
    omega
theorem adr_ge {Γ : GG} {a : Nat} (ha : a ≠ 0) : gB Γ ≤ adr Γ a := by
  cases a with
  | zero => exact absurd rfl ha
  | succ j => exact Nat.le_add_right _ _
theorem cellAt_kept {Γ : GG} {kd n : Nat} {rf : Nat → Option Nat} {f : Nat → Int} {H H' : Heap} {i : Nat} (h : cellAt Γ kd n rf f H i) (e : H'[adr Γ i]? = H[adr Γ i]?) : cellAt Γ kd n rf f H' i := by
  match kd, h with
  | 0, h => exact e.trans h
  | 1, h => exact e.trans h
  | 2, h => exact e.trans h
  | 3, h => exact e.trans h
  | c + 4, ⟨r, h1, h2⟩ => exact ⟨r, h1, h2.kept e⟩
theorem HR_at {Γ : GG} {w : Wd} {M : MM} {H : Heap} {a kd : Nat} (h : HR Γ w M H) (hk : w.1 a = kd) (h1 : kd ≠ 14) (h2 : kd ≠ 15) : a ≠ 0 ∧ cellAt Γ kd (w.2.1 a) (w.2.2.1 a) (M a) H a := by
  obtain ⟨hs, hR, h15, hc, h0, -⟩ := h
  cases a with
  | zero => rw [hk] at h0; exact absurd h0 h1
  | succ i =>
    have hi : i < w.2.2.2 := Nat.lt_of_not_le fun q => h2 (by rw [← hk]; exact h15 (i + 1) (by omega))
    refine ⟨Nat.succ_ne_zero i, ?_⟩
    have := hc i hi
    rw [hk] at this
    exact this
/-- one cell changes -/
theorem HR_chg {Γ : GG} {w w' : Wd} {M M' : MM} {H H' : Heap} {a kd : Nat} (h : HR Γ w M H) (ha : a ≠ 0) (hkd : w.1 a = kd) (hz : H'.size = H.size) (ho : ∀ q, q ≠ adr Γ a → H'[q]? = H[q]?) (hn : w'.2.2.2 = w.2.2.2) (hk : w'.1 = w.1) (hl : w'.2.1 = w.2.1) (hrf : ∀ j, j ≠ a → w'.2.2.1 j = w.2.2.1 j) (hM : ∀ j, j ≠ a → M' j = M j) (hR : ∀ a k, inR (M' a k))
    (hc : cellAt Γ kd (w.2.1 a) (w'.2.2.1 a) (M' a) H' a) : HR Γ w' M' H' := by
  obtain ⟨hs, -, h15, hcs, h0, hs1, hs2, hs3⟩ := h
  refine ⟨by rw [hz, hn]; exact hs, hR, by rw [hn, hk]; exact h15, fun i hi => ?_, by rw [hk]; exact h0, by rw [hl]; exact hs1, by rw [hl]; exact hs2, fun j hj => ?_⟩
  · rw [hk, hl]
    by_cases e : i + 1 = a
    · subst e
      rw [hkd]
      exact hc
    · rw [hrf _ e, hM _ e]
      exact cellAt_kept (hcs i (by rw [← hn]; exact hi)) (ho _ (adr_ne ha e))
  · rw [hM 0 (Ne.symm ha)]
    exact hs3 j (by rw [← hl]; exact hj)
theorem upM_same (M : MM) (a k : Nat) (x : Int) : upM M a k x a = fun j => if j = k then x else M a j := by
  funext j; simp [upM]
theorem upM_ne {M : MM} {a k : Nat} {x : Int} {b : Nat} (h : b ≠ a) : upM M a k x b = M b := by
  funext j; simp [upM, h]
theorem upM_R {M : MM} {a k : Nat} {x : Int} (hM : ∀ a k, inR (M a k)) (hx : inR x) : ∀ b j, inR (upM M a k x b j) := by
  intro b j
  unfold upM
  split
  · exact hx
  · exact hM b j
theorem ar_upd (Γ : GG) (t n k : Nat) (f : Nat → Int) (x : Int) : (arI Γ t n f).setSlot k (.int (Int32.ofInt x)) = arI Γ t n (fun j => if j = k then x else f j) := by
  unfold arI
  rw [arrV_store]
  congr 1
  funext j
  by_cases e : j = k
  · simp [updV, e]
  · simp [updV, e]
section Rules
variable {Γ : GG} {μ pc : Nat} {ls : LL} {st : List AV} {cs sl : Nat} {w : Wd} {M : MM} {Q : QT} {K : KT}
theorem r_iaload (hK : KOK Γ μ Q K) (hd : decode (mcode μ) pc = .ok (.iaload, 1)) (h : popIA st (fun i a st => (w.1 a = 0 ∨ w.1 a = 14) ∧ (0 ≤ i ∧ i < w.2.1 a) ∧ K (pc + 1) ls (.inl (M a i.toNat) :: st) cs sl w M)) : wp Γ μ pc ls st cs sl w M Q := by
  obtain ⟨i, a, st, rfl, hk, hi, h⟩ := popIA_ex h
  intro p e R s m args below meth c H locs lc Z C hH hL hSt hS hR
  have hx : inR i := so_head hSt
  have hw := hK _ _ _ _ _ _ _ h p e R s m args below meth c H locs lc Z C hH hL (so_push (v := .inl (M a i.toNat)) (hH.2.1 a _) (so_tail (so_tail hSt))) hS hR
  rcases hk with hk | hk
  · obtain ⟨ha, hc⟩ := HR_at hH hk (by decide) (by decide)
    refine W.iald (v := .int (Int32.ofInt (M a i.toNat))) C.1 C.2.1 (a := adr Γ a) hc ((C.2.2.2.2.2.2.2.2.1.1.2 0 _ rfl).1 _ _) (fun q => by cases q) (by show ¬ (_ ∨ (arrV _ _ _).slots.size ≤ _); rw [arrV_size]; exact so_in hx hi) ?_ rfl rfl hd hw
    show (arrV _ _ _).slots[_]? = _
    rw [so_clamp hx hi.1, arrV_read _ _ (by omega)]
  · have ha : a = 0 := by
      apply Decidable.byContradiction
      intro q
      cases a with
      | zero => exact q rfl
      | succ j =>
        obtain ⟨hs, hR', h15, hc, h0, -⟩ := hH
        by_cases hj : j < w.2.2.2
        · have := hc j hj
          rw [hk] at this
          obtain ⟨r, hr, -⟩ := this
          cases hr
        · rw [h15 (j + 1) (by omega)] at hk
          cases hk
    subst ha
    obtain ⟨-, -, -, -, -, hs1, hs2, hs3⟩ := hH
    obtain ⟨-, -, -, -, -, -, -, -, hKF, -, hun, hb1, hb2, hb3⟩ := id C
    have hcell : H[gb Γ]? = some (gs Γ) := by
      rw [hS.2.1 (gb Γ) (Nat.lt_of_lt_of_le hb2 hb1) (Nat.not_le.mpr hb2)]
      exact hb3
    refine W.iald (v := .int (Int32.ofInt (M 0 i.toNat))) C.1 C.2.1 (a := adr Γ 0) hcell hKF.2.1 hun (by rw [hs1]; exact so_in hx hi) ?_ rfl rfl hd hw
    rw [so_clamp hx hi.1]
    exact hs3 _ (by omega)
theorem r_iastore (hK : KOK Γ μ Q K) (hd : decode (mcode μ) pc = .ok (.iastore, 1)) (h : popIIA st (fun x i a st => w.1 a = 0 ∧ (0 ≤ i ∧ i < w.2.1 a) ∧ K (pc + 1) ls st cs sl w (upM M a i.toNat x))) : wp Γ μ pc ls st cs sl w M Q := by
  obtain ⟨x, i, a, st, rfl, hk, hi, h⟩ := popIIA_ex h
  intro p e R s m args below meth c H locs lc Z C hH hL hSt hS hR
  have hx : inR x := so_head hSt
  have hj : inR i := so_head (so_tail hSt)
  obtain ⟨ha, hc⟩ := HR_at hH hk (by decide) (by decide)
  refine W.iast C.1 C.2.1 (a := adr Γ a) hc ((C.2.2.2.2.2.2.2.2.1.1.2 0 _ rfl).1 _ _) (fun q => by cases q) (by show ¬ (_ ∨ (arrV _ _ _).slots.size ≤ _); rw [arrV_size]; exact so_in hj hi) rfl rfl hd (fun H' e1 z oq => ?_)
  refine hK _ _ _ _ _ _ _ h p e R s m args below meth c H' _ lc Z C ?_ hL (so_tail (so_tail (so_tail hSt))) (hS.put z oq (adr_ge ha)) hR
  refine HR_chg hH ha hk z oq rfl rfl rfl (fun _ _ => rfl) (fun j hj => upM_ne hj) (upM_R hH.2.1 hx) ?_
  show H'[adr Γ a]? = some (arI Γ 0 _ (upM M a i.toNat x a))
  rw [e1, so_clamp hj hi.1, upM_same, ← ar_upd]
theorem r_baload (hK : KOK Γ μ Q K) (hd : decode (mcode μ) pc = .ok (.baload, 1)) (h : popIA st (fun i a st => w.1 a = 1 ∧ (0 ≤ i ∧ i < w.2.1 a) ∧ K (pc + 1) ls (.inl (M a i.toNat) :: st) cs sl w M)) : wp Γ μ pc ls st cs sl w M Q := by
  obtain ⟨i, a, st, rfl, hk, hi, h⟩ := popIA_ex h
  intro p e R s m args below meth c H locs lc Z C hH hL hSt hS hR
  have hx : inR i := so_head hSt
  have hw := hK _ _ _ _ _ _ _ h p e R s m args below meth c H locs lc Z C hH hL (so_push (v := .inl (M a i.toNat)) (hH.2.1 a _) (so_tail (so_tail hSt))) hS hR
  obtain ⟨ha, hc⟩ := HR_at hH hk (by decide) (by decide)
  refine W.zald (v := .int (Int32.ofInt (M a i.toNat))) C.1 C.2.1 (a := adr Γ a) hc ((C.2.2.2.2.2.2.2.2.1.1.2 1 _ rfl).1 _ _) (fun q => by cases q) (by show ¬ (_ ∨ (arrV _ _ _).slots.size ≤ _); rw [arrV_size]; exact so_in hx hi) ?_ rfl rfl hd hw
  show (arrV _ _ _).slots[_]? = _
  rw [so_clamp hx hi.1, arrV_read _ _ (by omega)]
theorem so_bool {x : Int} (h : x = 0 ∨ x = 1) : narrow .boolean (.int (Int32.ofInt x)) = .int (Int32.ofInt x) := by
  rcases h with rfl | rfl <;> decide +kernel
theorem so_boolF {x : Int} (h : x = 0 ∨ x = 1) : fits .boolean (.int (Int32.ofInt x)) = true := by
  rcases h with rfl | rfl <;> decide +kernel
theorem r_bastore (hK : KOK Γ μ Q K) (hd : decode (mcode μ) pc = .ok (.bastore, 1)) (h : popIIA st (fun x i a st => w.1 a = 1 ∧ (0 ≤ i ∧ i < w.2.1 a) ∧ (x = 0 ∨ x = 1) ∧ K (pc + 1) ls st cs sl w (upM M a i.toNat x))) : wp Γ μ pc ls st cs sl w M Q := by
  obtain ⟨x, i, a, st, rfl, hk, hi, h01, h⟩ := popIIA_ex h
  intro p e R s m args below meth c H locs lc Z C hH hL hSt hS hR
  have hx : inR x := so_head hSt
  have hj : inR i := so_head (so_tail hSt)
  obtain ⟨ha, hc⟩ := HR_at hH hk (by decide) (by decide)
  refine W.zast C.1 C.2.1 (a := adr Γ a) hc ((C.2.2.2.2.2.2.2.2.1.1.2 1 _ rfl).1 _ _) (fun q => by cases q) (by show ¬ (_ ∨ (arrV _ _ _).slots.size ≤ _); rw [arrV_size]; exact so_in hj hi) rfl rfl hd (fun H' e1 z oq => ?_)
  refine hK _ _ _ _ _ _ _ h p e R s m args below meth c H' _ lc Z C ?_ hL (so_tail (so_tail (so_tail hSt))) (hS.put z oq (adr_ge ha)) hR
  refine HR_chg hH ha hk z oq rfl rfl rfl (fun _ _ => rfl) (fun j hj => upM_ne hj) (upM_R hH.2.1 hx) ?_
  show H'[adr Γ a]? = some (arI Γ 1 _ (upM M a i.toNat x a))
  rw [e1, so_clamp hj hi.1, upM_same, ← ar_upd, so_bool h01]
theorem r_aaload (hK : KOK Γ μ Q K) (hd : decode (mcode μ) pc = .ok (.aaload, 1)) (h : popIA st (fun i a st => (w.1 a = 2 ∨ w.1 a = 3) ∧ (0 ≤ i ∧ i < w.2.1 a) ∧ ∃ b, w.2.2.1 a i.toNat = some b ∧ K (pc + 1) ls (.inr (.inr (some b)) :: st) cs sl w M)) : wp Γ μ pc ls st cs sl w M Q := by
  obtain ⟨i, a, st, rfl, hk, hi, b, hb, h⟩ := popIA_ex h
  intro p e R s m args below meth c H locs lc Z C hH hL hSt hS hR
  have hx : inR i := so_head hSt
  have hw := hK _ _ _ _ _ _ _ h p e R s m args below meth c H locs lc Z C hH hL (so_push (v := VR b) trivial (so_tail (so_tail hSt))) hS hR
  rcases hk with hk | hk
  · obtain ⟨ha, hc⟩ := HR_at hH hk (by decide) (by decide)
    refine W.aald (v := .ref (adr Γ b)) (ty := .array .int) C.1 C.2.1 (a := adr Γ a) hc ((C.2.2.2.2.2.2.2.2.1.1.2 2 _ rfl).1 _ _) rfl (fun q => by cases q) (by show ¬ (_ ∨ (arrV _ _ _).slots.size ≤ _); rw [arrV_size]; exact so_in hx hi) ?_ rfl rfl hd hw
    show (arrV _ _ _).slots[_]? = _
    rw [so_clamp hx hi.1, arrV_read _ _ (by omega), hb]
    rfl
  · obtain ⟨ha, hc⟩ := HR_at hH hk (by decide) (by decide)
    refine W.aald (v := .ref (adr Γ b)) (ty := .object "ShiftAdds$Graph") C.1 C.2.1 (a := adr Γ a) hc ((C.2.2.2.2.2.2.2.2.1.1.2 3 _ rfl).1 _ _) rfl (fun q => by cases q) (by show ¬ (_ ∨ (arrV _ _ _).slots.size ≤ _); rw [arrV_size]; exact so_in hx hi) ?_ rfl rfl hd hw
    show (arrV _ _ _).slots[_]? = _
    rw [so_clamp hx hi.1, arrV_read _ _ (by omega), hb]
    rfl
theorem r_arraylength (hK : KOK Γ μ Q K) (hd : decode (mcode μ) pc = .ok (.arraylength, 1)) (h : popA st (fun a st => w.1 a = 14 ∧ K (pc + 1) ls (.inl (w.2.1 a : Int) :: st) cs sl w M)) : wp Γ μ pc ls st cs sl w M Q := by
  obtain ⟨a, st, rfl, hk, h⟩ := popA_ex h
  intro p e R s m args below meth c H locs lc Z C hH hL hSt hS hR
  have ha : a = 0 := by
    apply Decidable.byContradiction
    intro q
    cases a with
    | zero => exact q rfl
    | succ j =>
      obtain ⟨hs, hR', h15, hc, h0, -⟩ := hH
      by_cases hj : j < w.2.2.2
      · have := hc j hj
        rw [hk] at this
        obtain ⟨r, hr, -⟩ := this
        cases hr
      · rw [h15 (j + 1) (by omega)] at hk
        cases hk
  subst ha
  have hlen : w.2.1 0 < 2147483648 := hH.2.2.2.2.2.2.1
  have hw := hK _ _ _ _ _ _ _ h p e R s m args below meth c H locs lc Z C hH hL (so_push (v := .inl (w.2.1 0 : Int)) (show inR _ by omega) (so_tail hSt)) hS hR
  obtain ⟨-, -, -, -, -, hs1, hs2, hs3⟩ := hH
  obtain ⟨-, -, -, -, -, -, -, -, hKF, -, hun, hb1, hb2, hb3⟩ := id C
  have hcell : H[gb Γ]? = some (gs Γ) := by
    rw [hS.2.1 (gb Γ) (Nat.lt_of_lt_of_le hb2 hb1) (Nat.not_le.mpr hb2)]
    exact hb3
  refine W.alen (n := Int32.ofInt (w.2.1 0 : Int)) C.1 C.2.1 (a := adr Γ 0) hcell hKF.2.1 ?_ rfl rfl hd hw
  rw [hs1, so_nat (by omega)]
  rfl
/-- a reference field or number field is read -/
theorem r_getfield {ix ci k fk : Nat} (hK : KOK Γ μ Q K) (hd : decode (mcode μ) pc = .ok (.getfield ix, 3)) (hci : ci < 10) (hk : k < clS ci) (hfk : fk = fkOf ci k) (hl : Jvm.Cond.fieldLink (my μ).cls ix (clT ci k).1 (clT ci k).2.1 (clT ci k).2.2.1 ∈ gdT)
    (h : popA st (fun a st => w.1 a = 4 + ci ∧ bif Nat.beq fk 2 then ∃ b, w.2.2.1 a k = some b ∧ K (pc + 3) ls (.inr (.inr (some b)) :: st) cs sl w M else K (pc + 3) ls (.inl (M a k) :: st) cs sl w M)) : wp Γ μ pc ls st cs sl w M Q := by
  obtain ⟨a, st, rfl, hkd, h⟩ := popA_ex h
  intro p e R s m args below meth c H locs lc Z C hH hL hSt hS hR
  obtain ⟨hx, hb, hr, hml, hown, hts, hlk, hnm, hKF, -⟩ := id C
  obtain ⟨ha, hc⟩ := HR_at hH hkd (by omega) (by omega)
  rw [Nat.add_comm 4 ci] at hc
  obtain ⟨r, hr1, hob⟩ := hc
  rw [cl_at ci hci] at hr1
  cases hr1
  have hP : va_P (gD Γ) vwCl [(adr Γ a, .inr (ci, (List.range (clS ci)).map (obV Γ ci (w.2.2.1 a) (M a))))] H := by
    intro j q hq
    cases j with
    | zero =>
      cases hq
      refine ⟨_, cl_at ci hci, hob.to (fun k hk => ?_)⟩
      have hk : k < clS ci := hk
      show _ = List.getD _ _ _
      rw [List.getD_eq_getElem?_getD, List.getElem?_map, List.getElem?_range hk]
      rfl
    | succ j => cases hq
  have hv : ((List.range (clS ci)).map (obV Γ ci (w.2.2.1 a) (M a)))[k]? = some (obV Γ ci (w.2.2.1 a) (M a) k) := by
    rw [List.getElem?_map, List.getElem?_range hk]
    rfl
  refine va_get (D := gD Γ) (cl := vwCl) (Ts := gdT) (C := clN ci) (T := clT ci) (N := clS ci) hx hb hts (cl_in ci hci) hown hKF.1 hP 0 rfl (cl_at ci hci) k hk (hts _ hl) (fun _ h9 => h9) hv hd ?_
  subst hfk
  unfold obV
  cases hq : Nat.beq (fkOf ci k) 2 with
  | true =>
    rw [hq] at h
    obtain ⟨b, hb2, h⟩ := h
    show W _ _ _ _ _ _ _ _ _ _ _ _ _ _ _ (F0 m (pc + 3) lc (va_rf ((w.2.2.1 a k).map (adr Γ)) :: _))
    rw [hb2]
    exact hK _ _ _ _ _ _ _ h p e R s m args below meth c H locs lc Z C hH hL (so_push (v := VR b) trivial (so_tail hSt)) hS hR
  | false =>
    rw [hq] at h
    exact hK _ _ _ _ _ _ _ h p e R s m args below meth c H locs lc Z C hH hL (so_push (v := .inl (M a k)) (hH.2.1 a k) (so_tail hSt)) hS hR
end Rules
