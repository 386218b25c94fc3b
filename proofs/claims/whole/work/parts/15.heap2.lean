/-! ===== the rules: fields written, cells made, the JDK's own ===== -/
section Puts
variable {Γ : GG} {μ : Nat} {p : Program} {l : Launch} {e : Env} {R : Room} {s : State} {m : MethodId} {args : Array Value} {below : List Frame} {meth : Method} {c : Code} {H : Heap} {locs : List Loc} {cells slots : Nat} {Z : State → Prop} {pc : Nat} {lc : Array Slot} {rest : List Value}
theorem so_put (C : Cx Γ μ p R s m args meth c) {ix ci k a : Nat} {V : Nat → Value} {v : Value} (hd : decode (mcode μ) pc = .ok (.putfield ix, 3)) (hci : ci < 10) (hk : k < clS ci) (hl : Jvm.Cond.fieldLink (my μ).cls ix (clT ci k).1 (clT ci k).2.1 (clT ci k).2.2.1 ∈ gdT)
    (hfin : (clT ci k).2.2.2 = true → (my μ).name = "<init>" ∧ (clT ci k).1 = (my μ).cls) (hob : t_OB a ((gD Γ).1 ci) (clS ci) ((gD Γ).2 ci) H V) (hn : narrow (clY ci k) v = v) (hfit : fits (clY ci k) v = true)
    (kk : ∀ H' : Heap, t_OB a ((gD Γ).1 ci) (clS ci) ((gD Γ).2 ci) H' (updV V k v) → H'.size = H.size → (∀ q, q ≠ a → H'[q]? = H[q]?) → W p l e R s m args below meth c H' (locs ++ [⟨a, (gD Γ).2 ci k⟩]) cells slots Z (F0 m (pc + 3) lc rest)) :
    W p l e R s m args below meth c H locs cells slots Z (F0 m pc lc (v :: .ref a :: rest)) := by
  obtain ⟨hx, hb, hr, hml, hown, hts, hlk, hnm, hKF, -⟩ := C
  have hK := hKF.1
  have hc := cl_at ci hci
  have hin := cl_in ci hci
  have hap := va_apart (own := (my μ).cls) hts hin (clY ci) (cl_ty ci hci) (cl_nm ci hci) hK hc
  obtain ⟨cell, q1, q2, q3, q4⟩ := hob
  obtain ⟨hS, hfc, kC, hkC, hkind⟩ := hK.1 ci _ hc
  obtain ⟨cf, kf, fi, f, hi, hsl⟩ := hS k hk
  have hst := (u_facts hfc hkC (u_lays hts hin hk) hi).1
  have hlay := hts _ (hin _ (u_in_lay hk))
  unfold u_lay at hlay
  cases hq : (clT ci k).2.2.2 with
  | false =>
    rw [if_neg (by rw [hq]; decide)] at hlay
    have h6 := u_store hfc hkC hkind hlay hi (cl_ty ci hci k hk) hn hfit
    refine W.putK hx hb (f := f) ⟨hown, hts _ hl, ⟨_, _, _, hi⟩, hst⟩ (by rw [q2]; exact h6) q1 q3 (by rw [hsl]; exact k2_hasslot (q4 k hk)) rfl rfl hd fun H' e1 e2 e3 => ?_
    rw [hsl] at e1 ⊢
    exact kk H' ⟨_, e1, q2, q3, t_set q4 hap hk v⟩ e2 e3
  | true =>
    rw [if_pos hq] at hlay
    obtain ⟨hi1, hdecl⟩ := hfin hq
    have hcf : m.cls = cf := by
      obtain ⟨_, _, c', _, _, _, -, -, hf', -, -, -, hown2, -⟩ := Cond.laysFinal_spec hlay
      have e1 : c' = cf := by have := hi.symm.trans hf'; simp at this; exact this.1.symm
      rw [hdecl] at hown2
      rw [← e1]; exact Option.some.inj (hown.symm.trans hown2)
    have h6 := u_fits hfc hkC hkind (Or.inr hlay) hi (cl_ty ci hci k hk) hn hfit
    refine W.putFinK hx hb hown (hts _ hl) hi hst hcf (hnm hi1) (by rw [q2]; exact h6) q1 q3 (by rw [hsl]; exact k2_hasslot (q4 k hk)) rfl rfl hd fun H' e1 e2 e3 => ?_
    rw [hsl] at e1 ⊢
    exact kk H' ⟨_, e1, q2, q3, t_set q4 hap hk v⟩ e2 e3
end Puts
theorem va_S_new {A : Nat → Prop} {H0 H H' : Heap} {locs : List Loc} (h : va_S A H0 H locs) (hz : H.size ≤ H'.size) (ho : ∀ q, q < H.size → H'[q]? = H[q]?) : va_S A H0 H' locs :=
  ⟨Nat.le_trans h.1 hz, fun q h1 h2 => (ho q (Nat.lt_of_lt_of_le h1 h.1)).trans (h.2.1 q h1 h2), h.2.2⟩
theorem adr_lt {Γ : GG} {w : Wd} {M : MM} {H : Heap} (h : HR Γ w M H) {i : Nat} (hi : i < w.2.2.2) : adr Γ (i + 1) < H.size := by
  rw [h.1]
  show gB Γ + i < _
  omega
/-- one cell comes -/
theorem HR_new {Γ : GG} {w : Wd} {M M' : MM} {H H' : Heap} {kd ln : Nat} (h : HR Γ w M H) (hz : H'.size = H.size + 1) (ho : ∀ q, q < H.size → H'[q]? = H[q]?) (hM : ∀ j, j ≠ w.2.2.2 + 1 → M' j = M j) (hR : ∀ a k, inR (M' a k))
    (hc : cellAt Γ kd ln (fun _ => none) (M' (w.2.2.2 + 1)) H' (w.2.2.2 + 1)) : HR Γ (nwW w kd ln) M' H' := by
  have h9 := h
  obtain ⟨hs, -, h15, hcs, h0, hs1, hs2, hs3⟩ := h
  have n0 : ¬ (0 = w.2.2.2 + 1) := by omega
  refine ⟨?_, hR, fun a ha => ?_, fun i hi => ?_, ?_, ?_, ?_, fun j hj => ?_⟩
  · show H'.size = gB Γ + (w.2.2.2 + 1)
    rw [hz, hs]; omega
  · have ha : w.2.2.2 + 1 < a := ha
    show upN w.1 (w.2.2.2 + 1) kd a = 15
    unfold upN
    rw [if_neg (by omega)]
    exact h15 a (by omega)
  · have hi : i < w.2.2.2 + 1 := hi
    show cellAt Γ (upN w.1 (w.2.2.2 + 1) kd (i + 1)) (upN w.2.1 (w.2.2.2 + 1) ln (i + 1)) (upN w.2.2.1 (w.2.2.2 + 1) (fun _ => none) (i + 1)) (M' (i + 1)) H' (i + 1)
    unfold upN
    by_cases e : i = w.2.2.2
    · subst e
      rw [if_pos rfl, if_pos rfl, if_pos rfl]
      exact hc
    · rw [if_neg (by omega), if_neg (by omega), if_neg (by omega), hM _ (by omega)]
      exact cellAt_kept (hcs i (by omega)) (ho _ (adr_lt h9 (by omega)))
  · show upN w.1 (w.2.2.2 + 1) kd 0 = 14
    unfold upN
    rw [if_neg n0]; exact h0
  · show _ = upN w.2.1 (w.2.2.2 + 1) ln 0
    unfold upN
    rw [if_neg n0]; exact hs1
  · show upN w.2.1 (w.2.2.2 + 1) ln 0 < _
    unfold upN
    rw [if_neg n0]; exact hs2
  · have hj : j < upN w.2.1 (w.2.2.2 + 1) ln 0 := hj
    unfold upN at hj
    rw [if_neg n0] at hj
    rw [hM 0 n0]
    exact hs3 j hj
theorem zrM_R {M : MM} {a : Nat} (hM : ∀ a k, inR (M a k)) : ∀ b j, inR (zrM M a b j) := by
  intro b j
  unfold zrM
  split
  · exact so_0
  · exact hM b j
theorem zrM_ne {M : MM} {a b : Nat} (h : b ≠ a) : zrM M a b = M b := by
  funext j; simp [zrM, h]
theorem zrM_same {M : MM} {a : Nat} : zrM M a a = fun _ => 0 := by
  funext j; simp [zrM]
section Rules
variable {Γ : GG} {μ pc : Nat} {ls : LL} {st : List AV} {cs sl : Nat} {w : Wd} {M : MM} {Q : QT} {K : KT}
theorem r_putfield {ix ci k fk : Nat} (hK : KOK Γ μ Q K) (hd : decode (mcode μ) pc = .ok (.putfield ix, 3)) (hci : ci < 10) (hk : k < clS ci) (hfk : fk = fkOf ci k) (hl : Jvm.Cond.fieldLink (my μ).cls ix (clT ci k).1 (clT ci k).2.1 (clT ci k).2.2.1 ∈ gdT)
    (hfin : (clT ci k).2.2.2 = true → (my μ).name = "<init>" ∧ (clT ci k).1 = (my μ).cls)
    (h : bif Nat.beq fk 2 then popAA st (fun b a st => w.1 a = 4 + ci ∧ K (pc + 3) ls st cs sl (rfW w a k (some b)) M)
    else popIA st (fun x a st => w.1 a = 4 + ci ∧ bif Nat.beq fk 1 then (x = 0 ∨ x = 1) ∧ K (pc + 3) ls st cs sl w (upM M a k x) else K (pc + 3) ls st cs sl w (upM M a k x))) : wp Γ μ pc ls st cs sl w M Q := by
  rcases fk_cases (cl_fk ci hci k hk) with ⟨f1, f2⟩ | ⟨f1, f2⟩ | ⟨f1, f2⟩
  · rw [hfk, f1] at h
    obtain ⟨x, a, st, rfl, hkd, h⟩ := popIA_ex h
    have h : K (pc + 3) ls st cs sl w (upM M a k x) := h
    intro p e R s m args below meth c H locs lc Z C hH hL hSt hS hR
    have hx : inR x := so_head hSt
    obtain ⟨ha, hc⟩ := HR_at hH hkd (by omega) (by omega)
    rw [Nat.add_comm 4 ci] at hc
    obtain ⟨r, hr1, hob⟩ := hc
    rw [cl_at ci hci] at hr1
    cases hr1
    refine so_put C hd hci hk hl hfin hob (by rw [f2]; rfl) (by rw [f2]; rfl) (fun H' o1 z oq => ?_)
    refine hK _ _ _ _ _ _ _ h p e R s m args below meth c H' _ lc Z C ?_ hL (so_tail (so_tail hSt)) (hS.put z oq (adr_ge ha)) hR
    refine HR_chg hH ha hkd z oq rfl rfl rfl (fun _ _ => rfl) (fun j hj => upM_ne hj) (upM_R hH.2.1 hx) ?_
    rw [Nat.add_comm 4 ci, upM_same]
    refine ⟨_, cl_at ci hci, o1.to (fun j hj => ?_)⟩
    by_cases e9 : j = k
    · subst e9
      unfold obV updV; rw [if_pos rfl, f1]; simp; rfl
    · simp [updV, obV, e9]
  · rw [hfk, f1] at h
    obtain ⟨x, a, st, rfl, hkd, h01, h⟩ := popIA_ex h
    intro p e R s m args below meth c H locs lc Z C hH hL hSt hS hR
    have hx : inR x := so_head hSt
    obtain ⟨ha, hc⟩ := HR_at hH hkd (by omega) (by omega)
    rw [Nat.add_comm 4 ci] at hc
    obtain ⟨r, hr1, hob⟩ := hc
    rw [cl_at ci hci] at hr1
    cases hr1
    refine so_put C hd hci hk hl hfin hob (by rw [f2]; exact so_bool h01) (by rw [f2]; exact so_boolF h01) (fun H' o1 z oq => ?_)
    refine hK _ _ _ _ _ _ _ h p e R s m args below meth c H' _ lc Z C ?_ hL (so_tail (so_tail hSt)) (hS.put z oq (adr_ge ha)) hR
    refine HR_chg hH ha hkd z oq rfl rfl rfl (fun _ _ => rfl) (fun j hj => upM_ne hj) (upM_R hH.2.1 hx) ?_
    rw [Nat.add_comm 4 ci, upM_same]
    refine ⟨_, cl_at ci hci, o1.to (fun j hj => ?_)⟩
    by_cases e9 : j = k
    · subst e9
      unfold obV updV; rw [if_pos rfl, f1]; simp; rfl
    · simp [updV, obV, e9]
  · rw [hfk, f1] at h
    obtain ⟨b, a, st, rfl, hkd, h⟩ := popAA_ex h
    intro p e R s m args below meth c H locs lc Z C hH hL hSt hS hR
    obtain ⟨ha, hc⟩ := HR_at hH hkd (by omega) (by omega)
    rw [Nat.add_comm 4 ci] at hc
    obtain ⟨r, hr1, hob⟩ := hc
    rw [cl_at ci hci] at hr1
    cases hr1
    refine so_put C hd hci hk hl hfin hob (v := .ref (adr Γ b)) (by rcases f2 with ⟨n, f2⟩ | ⟨n, f2⟩ <;> (rw [f2]; rfl)) (by rcases f2 with ⟨n, f2⟩ | ⟨n, f2⟩ <;> (rw [f2]; rfl)) (fun H' o1 z oq => ?_)
    refine hK _ _ _ _ _ _ _ h p e R s m args below meth c H' _ lc Z C ?_ hL (so_tail (so_tail hSt)) (hS.put z oq (adr_ge ha)) hR
    refine HR_chg hH ha hkd z oq rfl rfl rfl (fun j hj => ?_) (fun j hj => rfl) hH.2.1 ?_
    · funext q
      show upR w.2.2.1 a k (some b) j q = _
      unfold upR
      rw [if_neg (fun z => hj z.1)]
    rw [Nat.add_comm 4 ci]
    refine ⟨_, cl_at ci hci, o1.to (fun j hj => ?_)⟩
    by_cases e9 : j = k
    · subst e9
      unfold obV updV rfW upR; rw [if_pos rfl, f1]; simp [va_rf]
    · simp [updV, obV, e9, rfW, upR]
theorem r_aastore (hK : KOK Γ μ Q K) (hd : decode (mcode μ) pc = .ok (.aastore, 1)) (h : popAIA st (fun b i a st => w.1 a = 3 ∧ w.1 b = 5 ∧ (0 ≤ i ∧ i < w.2.1 a) ∧ K (pc + 1) ls st cs sl (rfW w a i.toNat (some b)) M)) : wp Γ μ pc ls st cs sl w M Q := by
  obtain ⟨b, i, a, st, rfl, hka, hkb, hi, h⟩ := popAIA_ex h
  intro p e R s m args below meth c H locs lc Z C hH hL hSt hS hR
  have hx : inR i := so_head (so_tail hSt)
  obtain ⟨ha, hc⟩ := HR_at hH hka (by decide) (by decide)
  obtain ⟨hb, r, hr1, cellV, g1, g2, g3, -⟩ := HR_at hH hkb (by decide) (by decide)
  have hK9 := C.2.2.2.2.2.2.2.2.1.1
  have hcls := (hK9.1 1 _ rfl).2
  obtain ⟨kA, comp, k1, k2, k3, -⟩ := (hK9.2 3 _ rfl).2
  have hcomp : comp = (gD Γ).1 1 := Option.some.inj (k3.symm.trans hcls.1)
  subst hcomp
  obtain ⟨kC, hkC, -⟩ := hcls.2
  refine W.aast C.1 C.2.1 (a := adr Γ a) (v := adr Γ b) hc (fun q h => by cases h) (fun h => by cases h) k1 k2 rfl hkC ⟨fun q => so_in hx hi (Or.inl q), ?_⟩ g1 (fun q h => by rw [g3] at h; cases h) (by rw [g2]; exact hkC) (by rw [g2]; exact va_assign hcls) rfl rfl hd fun H' e1 z oq => ?_
  · show _ < (arrV _ _ _).slots.size
    rw [arrV_size, so_clamp hx hi.1]
    omega
  refine hK _ _ _ _ _ _ _ h p e R s m args below meth c H' _ lc Z C ?_ hL (so_tail (so_tail (so_tail hSt))) (hS.put z oq (adr_ge ha)) hR
  refine HR_chg hH ha hka z oq rfl rfl rfl (fun j hj => ?_) (fun j hj => rfl) hH.2.1 ?_
  · funext q
    show upR w.2.2.1 a i.toNat (some b) j q = _
    unfold upR
    rw [if_neg (fun z => hj z.1)]
  show H'[adr Γ a]? = some (arR Γ 3 _ _)
  rw [e1]
  unfold arR
  rw [arrV_store, so_clamp hx hi.1]
  congr 2
  funext q
  by_cases e9 : q = i.toNat
  · subst e9
    simp [updV, rfW, upR, va_rf]
  · simp [updV, e9, rfW, upR]
theorem r_new {ix ci N : Nat} (hK : KOK Γ μ Q K) (hd : decode (mcode μ) pc = .ok (.new ix, 3)) (hci : ci < 10) (hN : N = clS ci) (h1 : Jvm.Cond.classLink (my μ).cls ix (clN ci) ∈ gdT) (h2 : Jvm.Cond.instantiable (clN ci) N ∈ gdT) (h3 : Jvm.Cond.initialized (clN ci) ∈ gdT)
    (h : gd (rmk μ (cs + 1) (sl + N)) (K (pc + 3) ls (.inr (.inr (some (w.2.2.2 + 1))) :: st) (cs + 1) (sl + N) (nwW w (4 + ci) 0) (zrM M (w.2.2.2 + 1)))) : wp Γ μ pc ls st cs sl w M Q := by
  obtain ⟨hg, h⟩ := gd_ex h
  obtain ⟨hg1, hg2⟩ := rmk_le hg
  intro p e R s m args below meth c H locs lc Z C hH hL hSt hS hR
  obtain ⟨hx, hb, hr, hml, hown, hts, hlk, hnm, hKF, ⟨-, -, hrc, hrs⟩, -⟩ := id C
  have hKn := hKF.1.1 ci _ (cl_at ci hci)
  refine W.newcK hx hb hown (hts _ h1) (hts _ h2) (hts _ h3) rfl hd (by omega) (by omega) hKn.2.1 rfl fun H' kC hkC e1 z o => ?_
  have e9 : H.size = adr Γ (w.2.2.2 + 1) := hH.1
  have hw := hK _ _ _ _ _ _ _ h p e R s m args below meth c H' locs lc Z C (HR_new hH z o (fun j hj => zrM_ne hj) (zrM_R hH.2.1) ?_) hL (so_push (v := VR (w.2.2.2 + 1)) trivial hSt) (va_S_new hS (by omega) o) hR
  · rw [e9]
    exact hw
  · rw [Nat.add_comm 4 ci, zrM_same]
    rw [e9] at e1
    refine ⟨_, cl_at ci hci, (u_born (clY ci) hts (cl_in ci hci) hKn hkC e1 (cl_ty ci hci)).to (fun j hj => ?_)⟩
    rcases fk_cases (cl_fk ci hci j hj) with ⟨f1, f2⟩ | ⟨f1, f2⟩ | ⟨f1, f2⟩
    · unfold obV; rw [f2, f1]; rfl
    · unfold obV; rw [f2, f1]; rfl
    · rcases f2 with ⟨n, f2⟩ | ⟨n, f2⟩ <;> (unfold obV; rw [f2, f1]; rfl)
theorem r_newarray {t : ArrayType} (hK : KOK Γ μ Q K) (hd : decode (mcode μ) pc = .ok (.newarray t, 2)) (h1 : Jvm.Cond.arrayClass (newarray.typeOf t) ∈ gdT) (h2 : t = .int ∨ t = .boolean)
    (h : popI st (fun x st => (0 ≤ x ∧ x ≤ 100000) ∧ gd (rmk μ (cs + 1) (sl + x.toNat)) (K (pc + 2) ls (.inr (.inr (some (w.2.2.2 + 1))) :: st) (cs + 1) (sl + x.toNat) (nwW w (akd t) x.toNat) (zrM M (w.2.2.2 + 1))))) : wp Γ μ pc ls st cs sl w M Q := by
  obtain ⟨x, st, rfl, hxx, h⟩ := popI_ex h
  obtain ⟨hg, h⟩ := gd_ex h
  obtain ⟨hg1, hg2⟩ := rmk_le hg
  intro p e R s m args below meth c H locs lc Z C hH hL hSt hS hR
  have hx0 : inR x := so_head hSt
  obtain ⟨hx, hb, hr, hml, hown, hts, hlk, hnm, hKF, ⟨-, -, hrc, hrs⟩, -⟩ := id C
  have e9 : H.size = adr Γ (w.2.2.2 + 1) := hH.1
  refine va_newaK (g := F0 m pc lc (.int (Int32.ofInt x) :: st.map (cV Γ))) hx hb (hts _ h1) rfl hd rfl (by rw [show (0 : Int32) = Int32.ofInt 0 from rfl, so_lt hx0 so_0]; omega) (so_clamp hx0 hxx.1) (by rcases h2 with rfl | rfl <;> (show x.toNat * _ ≤ _; simp only [newarray.typeOf, componentBytes]; omega)) (by omega) (by omega) rfl (fun H' cA e1 z o hAr hNm => ?_)
  have hw := hK _ _ _ _ _ _ _ h p e R s m args below meth c H' locs lc Z C (HR_new hH z o (fun j hj => zrM_ne hj) (zrM_R hH.2.1) ?_) hL (so_push (v := VR (w.2.2.2 + 1)) trivial (so_tail hSt)) (va_S_new hS (by omega) o) hR
  · show W _ _ _ _ _ _ _ _ _ _ _ _ _ _ _ (F0 m (pc + 2) lc (.ref H.size :: _))
    rw [e9]
    exact hw
  · rw [zrM_same]
    rw [e9] at e1
    rcases h2 with rfl | rfl
    · have hc0 : some (gA Γ 0) = some cA := (hKF.1.2 0 _ rfl).2.symm.trans hNm
      cases hc0
      exact e1
    · have hc0 : some (gA Γ 1) = some cA := (hKF.1.2 1 _ rfl).2.symm.trans hNm
      cases hc0
      exact e1
theorem r_anewarray {ix : Nat} (hK : KOK Γ μ Q K) (hd : decode (mcode μ) pc = .ok (.anewarray ix, 3)) (h1 : Jvm.Cond.classLink (my μ).cls ix "ShiftAdds$Graph" ∈ gdT)
    (h : popI st (fun x st => (0 ≤ x ∧ x ≤ 100000) ∧ gd (rmk μ (cs + 1) (sl + x.toNat)) (K (pc + 3) ls (.inr (.inr (some (w.2.2.2 + 1))) :: st) (cs + 1) (sl + x.toNat) (nwW w 3 x.toNat) M))) : wp Γ μ pc ls st cs sl w M Q := by
  obtain ⟨x, st, rfl, hxx, h⟩ := popI_ex h
  obtain ⟨hg, h⟩ := gd_ex h
  obtain ⟨hg1, hg2⟩ := rmk_le hg
  intro p e R s m args below meth c H locs lc Z C hH hL hSt hS hR
  have hx0 : inR x := so_head hSt
  obtain ⟨hx, hb, hr, hml, hown, hts, hlk, hnm, hKF, ⟨-, -, hrc, hrs⟩, -⟩ := id C
  have e9 : H.size = adr Γ (w.2.2.2 + 1) := hH.1
  have ec := so_clamp hx0 hxx.1
  refine W.anew (g := F0 m pc lc (.int (Int32.ofInt x) :: st.map (cV Γ))) hx hb hown (hts _ h1) (va_AO.use hKF.2.2.2.1) rfl hd rfl (by rw [show (0 : Int32) = Int32.ofInt 0 from rfl, so_lt hx0 so_0]; omega) (by rw [ec]; omega) (by omega) (by rw [ec]; omega) fun cA kA comp f1 f2 f3 f4 => ?_
  rw [ec]
  generalize hH1 : H.push ({ cls := cA, slots := Array.replicate x.toNat .null, vm := .none } : Cell) = H'
  have z1 : H'.size = H.size + 1 := by rw [← hH1, Array.size_push]
  have e1 : H'[H.size]? = some (arrV cA x.toNat (fun _ => .null)) := by rw [← hH1, Array.getElem?_push_size, ← arrV_new]
  have o1 : ∀ q : Nat, q < H.size → H'[q]? = H[q]? := fun q hq => by rw [← hH1, Array.getElem?_push, if_neg (Nat.ne_of_lt hq)]
  have hw := hK _ _ _ _ _ _ _ h p e R s m args below meth c H' locs lc Z C (HR_new hH z1 o1 (fun j hj => rfl) hH.2.1 ?_) hL (so_push (v := VR (w.2.2.2 + 1)) trivial (so_tail hSt)) (va_S_new hS (by omega) o1) hR
  · show W _ _ _ _ _ _ _ _ _ _ _ _ _ _ _ (F0 m (pc + 3) lc (.ref H.size :: _))
    rw [e9]
    exact hw
  · rw [e9] at e1
    obtain ⟨kA', comp', -, -, -, k4⟩ := (hKF.1.2 3 _ rfl).2
    have hc0 : some (gA Γ 3) = some cA := k4.symm.trans f1
    cases hc0
    exact e1
theorem r_max {ix : Nat} (hK : KOK Γ μ Q K) (hd : decode (mcode μ) pc = .ok (.invokestatic ix, 3)) (hdp : 1 ≤ mdp μ) (h1 : Jvm.Cond.methodLink (my μ).cls ix Lib.Math.max.name ∈ gdT) (h2 : Jvm.Cond.static Lib.Math.max.name ∈ gdT) (h3 : Jvm.Cond.code Lib.Math.max.name Lib.Math.max.code 2 (some .int) ∈ gdT) (h4 : Jvm.Cond.initialized "java/lang/Math" ∈ gdT)
    (h : popII st (fun x y st => gd (Nat.ble (cats st) 8 && rmk μ cs sl) (K (pc + 3) ls (.inl (max x y) :: st) cs sl w M))) : wp Γ μ pc ls st cs sl w M Q := by
  obtain ⟨x, y, st, rfl, h⟩ := popII_ex h
  obtain ⟨hg, h⟩ := gd_ex h
  rw [Bool.and_eq_true] at hg
  obtain ⟨hg1, hg2⟩ := rmk_le hg.2
  have hg0 := Nat.le_of_ble_eq_true hg.1
  intro p e R s m args below meth c H locs lc Z C hH hL hSt hS hR
  have hy : inR y := so_head hSt
  have hx : inR x := so_head (so_tail hSt)
  obtain ⟨hx9, hb, hr, hml, hown, hts, hlk, hnm, hKF, ⟨hfr, hlo, hrc, hrs⟩, -⟩ := id C
  refine va_mmax hx9 hb (by rw [hml, hL.1]) hown (hts _ h1) (hts _ h2) (hts _ h4) (hts _ h3) (by omega) (by have := so_cats Γ st; omega) (by omega) (by omega) hd ?_
  have hw := hK _ _ _ _ _ _ _ h p e R s m args below meth c H locs lc Z C hH hL (so_push (v := .inl (max x y)) (show inR _ by omega) (so_tail (so_tail hSt))) hS hR
  have e9 : (if Int32.ofInt x < Int32.ofInt y then Int32.ofInt y else Int32.ofInt x) = Int32.ofInt (max x y) := by
    by_cases q : x < y
    · rw [if_pos ((so_lt hx hy).mpr q), show max x y = y by omega]
    · rw [if_neg (fun z => q ((so_lt hx hy).mp z)), show max x y = x by omega]
  rw [e9]
  exact hw
theorem r_min {ix : Nat} (hK : KOK Γ μ Q K) (hd : decode (mcode μ) pc = .ok (.invokestatic ix, 3)) (hdp : 1 ≤ mdp μ) (h1 : Jvm.Cond.methodLink (my μ).cls ix Lib.Math.min.name ∈ gdT) (h2 : Jvm.Cond.static Lib.Math.min.name ∈ gdT) (h3 : Jvm.Cond.code Lib.Math.min.name Lib.Math.min.code 2 (some .int) ∈ gdT) (h4 : Jvm.Cond.initialized "java/lang/Math" ∈ gdT)
    (h : popII st (fun x y st => gd (Nat.ble (cats st) 8 && rmk μ cs sl) (K (pc + 3) ls (.inl (min x y) :: st) cs sl w M))) : wp Γ μ pc ls st cs sl w M Q := by
  obtain ⟨x, y, st, rfl, h⟩ := popII_ex h
  obtain ⟨hg, h⟩ := gd_ex h
  rw [Bool.and_eq_true] at hg
  obtain ⟨hg1, hg2⟩ := rmk_le hg.2
  have hg0 := Nat.le_of_ble_eq_true hg.1
  intro p e R s m args below meth c H locs lc Z C hH hL hSt hS hR
  have hy : inR y := so_head hSt
  have hx : inR x := so_head (so_tail hSt)
  obtain ⟨hx9, hb, hr, hml, hown, hts, hlk, hnm, hKF, ⟨hfr, hlo, hrc, hrs⟩, -⟩ := id C
  refine va_mmin hx9 hb (by rw [hml, hL.1]) hown (hts _ h1) (hts _ h2) (hts _ h4) (hts _ h3) (by omega) (by have := so_cats Γ st; omega) (by omega) (by omega) hd ?_
  have hw := hK _ _ _ _ _ _ _ h p e R s m args below meth c H locs lc Z C hH hL (so_push (v := .inl (min x y)) (show inR _ by omega) (so_tail (so_tail hSt))) hS hR
  have e9 : (if Int32.ofInt y < Int32.ofInt x then Int32.ofInt y else Int32.ofInt x) = Int32.ofInt (min x y) := by
    by_cases q : y < x
    · rw [if_pos ((so_lt hy hx).mpr q), show min x y = y by omega]
    · rw [if_neg (fun z => q ((so_lt hy hx).mp z)), show min x y = x by omega]
  rw [e9]
  exact hw
theorem r_abs {ix : Nat} (hK : KOK Γ μ Q K) (hd : decode (mcode μ) pc = .ok (.invokestatic ix, 3)) (hdp : 1 ≤ mdp μ) (h1 : Jvm.Cond.methodLink (my μ).cls ix Lib.Math.abs.name ∈ gdT) (h2 : Jvm.Cond.static Lib.Math.abs.name ∈ gdT) (h3 : Jvm.Cond.code Lib.Math.abs.name Lib.Math.abs.code 1 (some .int) ∈ gdT) (h4 : Jvm.Cond.initialized "java/lang/Math" ∈ gdT)
    (h : popI st (fun x st => gd (Nat.ble (cats st) 8 && rmk μ cs sl) (inR (-x) ∧ K (pc + 3) ls (.inl (if x < 0 then -x else x) :: st) cs sl w M))) : wp Γ μ pc ls st cs sl w M Q := by
  obtain ⟨x, st, rfl, h⟩ := popI_ex h
  obtain ⟨hg, hxr, h⟩ := gd_ex h
  rw [Bool.and_eq_true] at hg
  obtain ⟨hg1, hg2⟩ := rmk_le hg.2
  have hg0 := Nat.le_of_ble_eq_true hg.1
  intro p e R s m args below meth c H locs lc Z C hH hL hSt hS hR
  have hx : inR x := so_head hSt
  obtain ⟨hx9, hb, hr, hml, hown, hts, hlk, hnm, hKF, ⟨hfr, hlo, hrc, hrs⟩, -⟩ := id C
  refine va_mabs hx9 hb (by rw [hml, hL.1]) hown (hts _ h1) (hts _ h2) (hts _ h4) (hts _ h3) (by omega) (by have := so_cats Γ st; omega) (by omega) (by omega) hd ?_
  have hw := hK _ _ _ _ _ _ _ h p e R s m args below meth c H locs lc Z C hH hL (so_push (v := .inl (if x < 0 then -x else x)) (show inR _ by split <;> omega) (so_tail hSt)) hS hR
  have e9 : (if 0 ≤ Int32.ofInt x then Int32.ofInt x else 0 - Int32.ofInt x) = Int32.ofInt (if x < 0 then -x else x) := by
    by_cases q : x < 0
    · rw [if_neg (fun z => by have := (so_le so_0 hx).mp z; omega), if_pos q, Int32.ofInt_neg, Int32.zero_sub]
    · rw [if_pos (show (0 : Int32) ≤ Int32.ofInt x from (so_le so_0 hx).mpr (by omega)), if_neg q]
  rw [e9]
  exact hw
theorem r_objInit {ix : Nat} (hK : KOK Γ μ Q K) (hd : decode (mcode μ) pc = .ok (.invokespecial ix, 3)) (hdp : 1 ≤ mdp μ) (h1 : Jvm.Cond.methodLink (my μ).cls ix objectInit ∈ gdT) (h2 : Jvm.Cond.instanceMethod objectInit ∈ gdT) (h3 : Jvm.Cond.code objectInit ⟨#[0xb1]⟩ 1 none ∈ gdT)
    (h : popA st (fun _ st => gd (Nat.ble (cats st) 8 && rmk μ cs sl) (K (pc + 3) ls st cs sl w M))) : wp Γ μ pc ls st cs sl w M Q := by
  obtain ⟨a, st, rfl, h⟩ := popA_ex h
  obtain ⟨hg, h⟩ := gd_ex h
  rw [Bool.and_eq_true] at hg
  have hg0 := Nat.le_of_ble_eq_true hg.1
  intro p e R s m args below meth c H locs lc Z C hH hL hSt hS hR
  obtain ⟨hx9, hb, hr, hml, hown, hts, hlk, hnm, hKF, ⟨hfr, hlo, hrc, hrs⟩, -⟩ := id C
  refine W.objInit (g := F0 m pc lc (.ref (adr Γ a) :: st.map (cV Γ))) hx9 hb hown (hts _ h1) (hts _ h2) (hts _ h3) rfl (by rw [hml]; exact hL.1) rfl hd (by omega) (by show 2 * 0 + _ + 12 ≤ _; have := so_cats Γ st; omega) ?_
  exact hK _ _ _ _ _ _ _ h p e R s m args below meth c H locs lc Z C hH hL (so_tail hSt) hS hR
end Rules
