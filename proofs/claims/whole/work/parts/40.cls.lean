/-! ===== the class: text, images, seen, counts ===== -/
theorem n9k {M M' : MM} {G : GT} (h : (M 1 9 = 0 ∧ NrF M 153 G) ∨ M 1 9 = 1) (f1 : M' 1 = M 1) (f2 : M' 154 = M 154) (f3 : M' 155 = M 155) : (M' 1 9 = 0 ∧ NrF M' 153 G) ∨ M' 1 9 = 1 := by
  rw [f1]
  exact h.imp (fun z => ⟨z.1, NrT.keep z.2 f2 f3⟩) id
theorem p10k {M M' : MM} {G : GT} (h : (M 1 10 = 0 ∧ ∃ H, isPl G H ∧ WFG H ∧ GrR M 157 H ∧ M 156 2 = qn G) ∨ M 1 10 = 1) (f1 : M' 1 = M 1) (hf : ∀ a, 156 ≤ a → a ≤ 166 → M' a = M a) : (M' 1 10 = 0 ∧ ∃ H, isPl G H ∧ WFG H ∧ GrR M' 157 H ∧ M' 156 2 = qn G) ∨ M' 1 10 = 1 := by
  rw [f1]
  refine h.imp (fun z => ⟨z.1, ?_⟩) id
  obtain ⟨-, H, z1, z2, z3, z4⟩ := z
  exact ⟨H, z1, z2, z3.keep (fun a a1 a2 => hf a (by omega) (by omega)), by rw [hf 156 (by omega) (by omega)]; exact z4⟩
noncomputable def fType (S : ST) (l : Int) : Int × ST := cit (inB l 255) (cit (sn S < 80) ((sn S : Int) + 1, (sG S, (sn S + 1, upN (sT S) (sn S) l.toNat), S.2.2)) (-3, S)) (-1, S)
def fClear (S : ST) : Int × ST := ((sn S : Int), (sG S, (0, sT S), S.2.2))
noncomputable def fGraph (S : ST) : Int × ST := match rdAll (sT S) (sn S) 80 0 (tok (sT S) (sn S) 0) E6 with
  | .inl f => (-10 - (f : Int), S)
  | .inr kg => ((kg.1 : Int), (kg.2, (0, sT S), (0, sH S), (fun _ => 0, sI S), (0, sM S, sR S)))
def oddF (G : GT) (k w : Nat) : Int := if w = 0 then (qV G k : Int) else if w = 1 then (qD G k : Int) else if k = 0 then (if w = 6 then 0 else -9) else if w = 2 then (qP G (k - 1) : Int) else if w = 3 then (qQ G (k - 1) : Int) else if w = 4 then (qS G (k - 1) : Int) else if w = 5 then (qF G (k - 1) : Int) else (hv (qX G (k - 1)) : Int)
noncomputable def fOdd (S : ST) (k w : Int) : Int × ST := cit (inB k (qn (sG S)) ∧ inB w 6) (oddF (sG S) k.toNat w.toNat, S) (-1, S)
noncomputable def fWanted (S : ST) (k w : Int) : Int × ST := cit ((0 ≤ k ∧ k < qm (sG S)) ∧ inB w 1) (cit (w = 0) ((qC (sG S) k.toNat : Int), S) (cit (isMt (sG S) (qC (sG S) k.toNat)) (1, S) (0, S))) (-1, S)
noncomputable def fSees (S : ST) (m r : Int) : Int × ST := cit ((2 ≤ m ∧ m ≤ 9) ∧ 0 ≤ r ∧ r < m) (cit (su S < 6) ((su S : Int) + 1, (sG S, S.2.1, S.2.2.1, S.2.2.2.1, (su S + 1, upN (sM S) (su S) m.toNat, upN (sR S) (su S) r.toNat))) (-3, S)) (-1, S)
def fForget (S : ST) : Int × ST := ((su S : Int), (sG S, S.2.1, S.2.2.1, S.2.2.2.1, (0, sM S, sR S)))
noncomputable def fKeep (S : ST) (i : Int) : Int × ST := cit (inB i 1) ((qn (sG S) : Int), (sG S, S.2.1, S.2.2.1, (upN (sx S) i.toNat 1, upN (sI S) i.toNat (sG S)), S.2.2.2.2)) (-1, S)
noncomputable def fBack (S : ST) (i : Int) : Int × ST := cit (inB i 1) (cit (sx S i.toNat = 1) ((qn (sI S i.toNat) : Int), (sI S i.toNat, S.2.1, (0, sH S), S.2.2.2)) (-2, S)) (-1, S)
noncomputable def fCount (S : ST) (w : Int) : Int × ST := (if w = 0 then (qn (sG S) : Int) else if w = 1 then (qm (sG S) : Int) else if w = 2 then (qL (sG S) : Int) else if w = 3 then (nMt (sG S) (qm (sG S)) : Int) else if w = 4 then (mxD (qD (sG S)) (qn (sG S) + 1) : Int) else if w = 5 then (su S : Int) else if w = 6 then (sn S : Int) else if w = 7 then (sk S : Int) else -1, S)
section Cls
variable {Γ : GG} {L : Nat} {M : MM} {Q : QT} {S : ST}
theorem x_type (hG : GOK Γ) (hc : CR M S) {l : Int} (h : Out Q L M (fType S l)) : wp Γ mX9_type 0 [some (VR 1), some (VI l)] [] 0 0 (W0 L) M Q := by
  obtain ⟨c1, c2, c3, c4, c5, c6, ⟨G7, c7, c7'⟩, ⟨G8, c8, c8'⟩, c9, c10⟩ := id hc
  refine vc_go hG 60 (B := bX9_type) rfl ?_
  refine And.intro (fun y => h.go (cit_n (fun z => by have := z.1; omega)) rfl hc (frC_r M)) (fun y => ?_)
  refine And.intro (fun y2 => ?_) (fun y2 => h.go (cit_n (fun z => by have := z.2; omega)) rfl hc (frC_r M))
  have e1 : fType S l = _ := cit_y ⟨y, y2⟩
  refine And.intro rfl (Exists.intro _ (And.intro rfl (And.intro rfl ?_)))
  refine c_txap hG c3 (l := l.toNat) (by omega) (by omega) (fun z => h.go (e1.trans (cit_n (by omega))) rfl hc (frC_r M)) (fun z M1 t1 f => ?_)
  refine h.go (e1.trans (cit_y z)) (by omega) ⟨c1.keep (fun a a1 a2 => f a (by omega)), c2, t1, c4.keep (fun a a1 a2 => f a (by omega)), c5.fr (fun a a1 a2 => f a (by omega)), c6.keep (fun a a1 a2 => f a (by omega)), ⟨G7, c7.keep (fun a a1 a2 => f a (by omega)), c7'⟩, ⟨G8, c8.keep (fun a a1 a2 => f a (by omega)), c8'⟩, n9k c9 (f 1 (by omega)) (f 154 (by omega)) (f 155 (by omega)), p10k c10 (f 1 (by omega)) (fun a a1 a2 => f a (by omega))⟩ (fun a ha => f a (by omega))
theorem x_clear (hG : GOK Γ) (hc : CR M S) (h : Out Q L M (fClear S)) : wp Γ mX9_clear 0 [some (VR 1)] [] 0 0 (W0 L) M Q := by
  obtain ⟨c1, c2, c3, c4, c5, c6, ⟨G7, c7, c7'⟩, ⟨G8, c8, c8'⟩, c9, c10⟩ := id hc
  refine vc_go hG 60 (B := bX9_clear) rfl ?_
  refine And.intro rfl (Exists.intro _ (And.intro rfl (And.intro rfl ?_)))
  refine c_txem hG c3 (fun t1 => ?_)
  have f : ∀ a, a ≠ 22 → upM M 22 1 0 a = M a := fun a ha => upM_ne ha
  refine h.go rfl rfl ⟨c1.keep (fun a a1 a2 => f a (by omega)), c2, t1, c4.keep (fun a a1 a2 => f a (by omega)), c5.fr (fun a a1 a2 => f a (by omega)), c6.keep (fun a a1 a2 => f a (by omega)), ⟨G7, c7.keep (fun a a1 a2 => f a (by omega)), c7'⟩, ⟨G8, c8.keep (fun a a1 a2 => f a (by omega)), c8'⟩, n9k c9 (f 1 (by omega)) (f 154 (by omega)) (f 155 (by omega)), p10k c10 (f 1 (by omega)) (fun a a1 a2 => f a (by omega))⟩ (fun a ha => f a (by omega))
theorem x_graph (hG : GOK Γ) (hc : CR M S) (h : Out Q L M (fGraph S)) : wp Γ mX9_graph 0 [some (VR 1)] [] 0 0 (W0 L) M Q := by
  obtain ⟨c1, c2, c3, c4, c5, c6, c7, ⟨G8, c8, c8'⟩, c9, c10⟩ := id hc
  unfold fGraph at h
  refine vc_go hG 60 (B := bX9_graph) rfl ?_
  refine And.intro rfl (Exists.intro _ (And.intro rfl (And.intro rfl (Exists.intro _ (And.intro rfl (And.intro rfl ?_))))))
  refine c_read hG c3 c7 (fun M1 k G1 z1 z2 z3 z4 z5 f => ?_) (fun M1 f9 z1 z2 z3 z4 f => ?_)
  · rw [z1] at h
    refine And.intro (fun y => ?_) (fun y => by omega)
    refine And.intro rfl (Exists.intro _ (And.intro rfl (And.intro rfl (Exists.intro _ (And.intro rfl (And.intro rfl ?_))))))
    refine c_copy hG (W0_g2 L) (W0_g12 L) (by omega) z4 z5 (fun M2 g1 g2 => ?_)
    refine And.intro rfl (Exists.intro _ (And.intro rfl (And.intro rfl ?_)))
    refine c_txem hG (M := M2) (z3.keep (by rw [g2 22 (by omega)]) (g2 23 (by omega))) (fun t1 => ?_)
    refine And.intro rfl (Exists.intro _ (And.intro rfl (And.intro rfl ?_)))
    have f2 : ∀ a, (a < 2 ∨ 22 < a) → upM M2 22 1 0 a = M a := fun a ha => by rw [upM_ne (by omega), g2 a (by omega), f a (by omega)]
    refine c_hlose hG (M := upM M2 22 1 0) (c4.keep (fun a a1 a2 => f2 a (by omega))) (fun h1 => ?_)
    refine And.intro rfl (Exists.intro _ (And.intro rfl (And.intro rfl ?_)))
    have f3 : ∀ a, a < 2 ∨ 24 < a → upM (upM M2 22 1 0) 24 2 0 a = M a := fun a ha => by rw [upM_ne (by omega)]; exact f2 a (by omega)
    refine c_ilose hG (c5.fr (fun a a1 a2 => f3 a (by omega))) (fun M4 i1 i2 => ?_)
    have f4 : ∀ a, (a < 2 ∨ 24 < a) → a ≠ 128 → M4 a = M a := fun a ha hb => by rw [i2 a hb]; exact f3 a ha
    refine And.intro rfl (Exists.intro _ (And.intro rfl (And.intro rfl ?_)))
    refine c_snlose hG (M := M4) (c6.keep (fun a a1 a2 => f4 a (by omega) (by omega))) (fun s1 => ?_)
    refine And.intro rfl ?_
    refine c_changed hG ?_
    have u : ∀ a, a ≠ 1 → a ≠ 149 → upM (upM (upM M4 149 3 0) 1 9 1) 1 10 1 a = M4 a := fun a ha hb => by rw [upM_ne ha, upM_ne ha, upM_ne hb]
    have u1 : ∀ a, a ≠ 1 → upM (upM (upM M4 149 3 0) 1 9 1) 1 10 1 a = upM M4 149 3 0 a := fun a ha => by rw [upM_ne ha, upM_ne ha]
    refine h.go rfl rfl ⟨g1.keep (fun a a1 a2 => by rw [u a (by omega) (by omega), i2 a (by omega), upM_ne (by omega), upM_ne (by omega)]), z5, t1.keep (by rw [u 22 (by omega) (by omega), i2 22 (by omega), upM_ne (by omega)]) (by rw [u 23 (by omega) (by omega), i2 23 (by omega), upM_ne (by omega)]), h1.keep (fun a a1 a2 => by rw [u a (by omega) (by omega), i2 a (by omega)]), i1.fr (fun a a1 a2 => u a (by omega) (by omega)), s1.keep (fun a a1 a2 => u1 a (by omega)), ⟨G1, z4.keep (fun a a1 a2 => by rw [u a (by omega) (by omega), i2 a (by omega), upM_ne (by omega), upM_ne (by omega), g2 a (by omega)]), z5⟩, ⟨G8, c8.keep (fun a a1 a2 => by rw [u a (by omega) (by omega)]; exact f4 a (by omega) (by omega)), c8'⟩, Or.inr (by rw [upM_k (by decide), upM_eq]), Or.inr upM_eq⟩ (fun a ha => by rw [u a (by omega) (by omega)]; exact f4 a (by omega) (by omega))
  · rw [z1] at h
    refine And.intro (fun y => by omega) (fun y => ?_)
    refine h.go rfl rfl ⟨c1.keep (fun a a1 a2 => f a (by omega)), c2, z3, c4.keep (fun a a1 a2 => f a (by omega)), c5.fr (fun a a1 a2 => f a (by omega)), c6.keep (fun a a1 a2 => f a (by omega)), z4, ⟨G8, c8.keep (fun a a1 a2 => f a (by omega)), c8'⟩, n9k c9 (f 1 (by omega)) (f 154 (by omega)) (f 155 (by omega)), p10k c10 (f 1 (by omega)) (fun a a1 a2 => f a (by omega))⟩ (fun a ha => f a (by omega))
theorem x_wanted (hG : GOK Γ) (hc : CR M S) {k w : Int} (h : Out Q L M (fWanted S k w)) : wp Γ mX9_wanted 0 [some (VR 1), some (VI k), some (VI w)] [] 0 0 (W0 L) M Q := by
  obtain ⟨c1, c2, -⟩ := id hc
  have m1 := c1.2.1
  have m6 := c2.2.1
  refine vc_go hG 60 (B := bX9_wanted) rfl ?_
  refine And.intro (fun y => h.go (cit_n (fun z => by omega)) rfl hc (frC_r M)) (fun y => ?_)
  refine And.intro rfl (Exists.intro _ (And.intro rfl (And.intro rfl ?_)))
  refine And.intro (fun y => h.go (cit_n (fun z => by omega)) rfl hc (frC_r M)) (fun y2 => ?_)
  refine And.intro (fun y => h.go (cit_n (fun z => by have := z.2.1; omega)) rfl hc (frC_r M)) (fun y3 => ?_)
  refine And.intro (fun y4 => ?_) (fun y => h.go (cit_n (fun z => by have := z.2.2; omega)) rfl hc (frC_r M))
  have e1 : fWanted S k w = _ := cit_y ⟨⟨y, by omega⟩, ⟨y3, y4⟩⟩
  have ec := c1.2.2.2.2.2.2 k.toNat (by omega)
  refine And.intro rfl (Exists.intro _ (And.intro rfl (And.intro rfl (Exists.intro _ (And.intro rfl ?_)))))
  refine And.intro (Or.inl rfl) (Exists.intro k.toNat (And.intro (by omega) (And.intro (show k.toNat < 6 by omega) ?_)))
  refine And.intro (fun z => ?_) (fun z => ?_)
  · have e2 := e1.trans (cit_n z)
    refine And.intro rfl (Exists.intro _ (And.intro rfl (And.intro rfl ?_)))
    refine c_isMet hG (W0_g2 L) c1 c2 ec (c2.2.2.2.2.2.2.1 k.toNat (by omega)).2 (fun q => ?_) (fun q => ?_)
    · exact And.intro (fun c => absurd c (by decide)) (fun c => h.go (e2.trans (cit_y q)) rfl hc (frC_r M))
    · exact And.intro (fun c => h.go (e2.trans (cit_n q)) rfl hc (frC_r M)) (fun c => absurd rfl c)
  · exact h.go (e1.trans (cit_y z)) ec hc (frC_r M)
theorem x_sees (hG : GOK Γ) (hc : CR M S) {m r : Int} (h : Out Q L M (fSees S m r)) : wp Γ mX9_sees 0 [some (VR 1), some (VI m), some (VI r)] [] 0 0 (W0 L) M Q := by
  obtain ⟨c1, c2, c3, c4, c5, c6, ⟨G7, c7, c7'⟩, ⟨G8, c8, c8'⟩, c9, c10⟩ := id hc
  refine vc_go hG 60 (B := bX9_sees) rfl ?_
  refine And.intro (fun y => h.go (cit_n (by omega)) rfl hc (frC_r M)) (fun y1 => ?_)
  refine And.intro (fun y => h.go (cit_n (by omega)) rfl hc (frC_r M)) (fun y2 => ?_)
  refine And.intro (fun y => h.go (cit_n (by omega)) rfl hc (frC_r M)) (fun y3 => ?_)
  refine And.intro (fun y4 => ?_) (fun y => h.go (cit_n (by omega)) rfl hc (frC_r M))
  have e1 : fSees S m r = _ := cit_y ⟨⟨y1, y2⟩, y3, y4⟩
  refine And.intro rfl (Exists.intro _ (And.intro rfl (And.intro rfl ?_)))
  refine c_snap hG c6 (m := m.toNat) (r := r.toNat) (by omega) (by omega) (by omega) (fun z => h.go (e1.trans (cit_n (by omega))) rfl hc (frC_r M)) (fun z M1 t1 f => ?_)
  refine h.go (e1.trans (cit_y z)) (by omega) ⟨c1.keep (fun a a1 a2 => f a (by omega)), c2, c3.keep (by rw [f 22 (by omega)]) (f 23 (by omega)), c4.keep (fun a a1 a2 => f a (by omega)), c5.fr (fun a a1 a2 => f a (by omega)), t1, ⟨G7, c7.keep (fun a a1 a2 => f a (by omega)), c7'⟩, ⟨G8, c8.keep (fun a a1 a2 => f a (by omega)), c8'⟩, n9k c9 (f 1 (by omega)) (f 154 (by omega)) (f 155 (by omega)), p10k c10 (f 1 (by omega)) (fun a a1 a2 => f a (by omega))⟩ (fun a ha => f a (by omega))
theorem x_forget (hG : GOK Γ) (hc : CR M S) (h : Out Q L M (fForget S)) : wp Γ mX9_forget 0 [some (VR 1)] [] 0 0 (W0 L) M Q := by
  obtain ⟨c1, c2, c3, c4, c5, c6, ⟨G7, c7, c7'⟩, ⟨G8, c8, c8'⟩, c9, c10⟩ := id hc
  refine vc_go hG 60 (B := bX9_forget) rfl ?_
  refine And.intro rfl (Exists.intro _ (And.intro rfl (And.intro rfl ?_)))
  refine c_snlose hG c6 (fun t1 => ?_)
  have f : ∀ a, a ≠ 149 → upM M 149 3 0 a = M a := fun a ha => upM_ne ha
  refine h.go rfl rfl ⟨c1.keep (fun a a1 a2 => f a (by omega)), c2, c3.keep (by rw [f 22 (by omega)]) (f 23 (by omega)), c4.keep (fun a a1 a2 => f a (by omega)), c5.fr (fun a a1 a2 => f a (by omega)), t1, ⟨G7, c7.keep (fun a a1 a2 => f a (by omega)), c7'⟩, ⟨G8, c8.keep (fun a a1 a2 => f a (by omega)), c8'⟩, n9k c9 (f 1 (by omega)) (f 154 (by omega)) (f 155 (by omega)), p10k c10 (f 1 (by omega)) (fun a a1 a2 => f a (by omega))⟩ (fun a ha => f a (by omega))
theorem x_keep (hG : GOK Γ) (hc : CR M S) {i : Int} (h : Out Q L M (fKeep S i)) : wp Γ mX9_keep 0 [some (VR 1), some (VI i)] [] 0 0 (W0 L) M Q := by
  obtain ⟨c1, c2, c3, c4, c5, c6, ⟨G7, c7, c7'⟩, ⟨G8, c8, c8'⟩, c9, c10⟩ := id hc
  refine vc_go hG 60 (B := bX9_keep) rfl ?_
  refine And.intro (fun y => h.go (cit_n (fun z => by have := z.1; omega)) rfl hc (frC_r M)) (fun y1 => ?_)
  refine And.intro (fun y2 => ?_) (fun y => h.go (cit_n (fun z => by have := z.2; omega)) rfl hc (frC_r M))
  have e1 : fKeep S i = _ := cit_y ⟨y1, by omega⟩
  refine And.intro rfl (Exists.intro _ (And.intro rfl (And.intro rfl (Exists.intro _ (And.intro rfl (And.intro rfl ?_))))))
  refine c_iput hG c5 c1 c2 (i := i.toNat) (by omega) (by omega) (fun M1 t1 f => ?_)
  have c1' : GrR M1 2 (sG S) := c1.keep (fun a a1 a2 => f a (by omega))
  refine And.intro rfl (Exists.intro _ (And.intro rfl (And.intro rfl ?_)))
  refine h.go e1 c1'.1 ⟨c1', c2, c3.keep (by rw [f 22 (by omega)]) (f 23 (by omega)), c4.keep (fun a a1 a2 => f a (by omega)), t1, c6.keep (fun a a1 a2 => f a (by omega)), ⟨G7, c7.keep (fun a a1 a2 => f a (by omega)), c7'⟩, ⟨G8, c8.keep (fun a a1 a2 => f a (by omega)), c8'⟩, n9k c9 (f 1 (by omega)) (f 154 (by omega)) (f 155 (by omega)), p10k c10 (f 1 (by omega)) (fun a a1 a2 => f a (by omega))⟩ (fun a ha => f a (by omega))
end Cls
