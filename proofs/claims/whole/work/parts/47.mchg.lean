/-! ===== the model: changes ===== -/
theorem MR_push {M M1 M2 : MM} {S : ST} {G' : GT} (hc : MR M S) (h1 : mHs M1 (min (sk S + 1) 10) (csH (sG S) (sH S))) (f1 : ∀ a, a ≠ 187 → a ≠ 194 → M1 a = M a) (f2 : ∀ j, j ≠ 14 → M1 187 j = M 187 j) (g : RwR M2 190 G') (hw : WFG G') (f3 : ∀ a, a ≠ 187 → a ≠ 190 → a ≠ 197 → a ≠ 198 → M2 a = M1 a) (f4 : ∀ j, j ≠ 20 → M2 187 j = M1 187 j) (f5 : OB M1 → OB M2) : MR M2 (push S G') ∧ frM M M2 := by
  obtain ⟨c1, c2, c3, c4, c5, c6⟩ := hc
  have f : ∀ a, a ≠ 187 → a ≠ 190 → a ≠ 194 → a ≠ 197 → a ≠ 198 → M2 a = M a := fun a a1 a2 a3 a4 a5 => by rw [f3 a a1 a2 a4 a5, f1 a a1 a3]
  refine ⟨⟨g, hw, c3.keep (by rw [f4 2 (by decide), f2 2 (by decide)]) (f 188 (by decide) (by decide) (by decide) (by decide) (by decide)), h1.keep (f4 14 (by decide)) (f3 194 (by decide) (by decide) (by decide) (by decide)), c5.keep (f 193 (by decide) (by decide) (by decide) (by decide) (by decide)) (f 192 (by decide) (by decide) (by decide) (by decide) (by decide)), c6.keep (by rw [f4 17 (by decide), f2 17 (by decide)]) (f 195 (by decide) (by decide) (by decide) (by decide) (by decide)) (f 196 (by decide) (by decide) (by decide) (by decide) (by decide))⟩, fun a ha => f a (by omega) (by omega) (by omega) (by omega) (by omega), fun z => f5 (z.keep (f1 197 (by decide) (by decide)) (f1 198 (by decide) (by decide)))⟩
theorem MR.rk {M M' : MM} {S : ST} (hc : MR M S) (hf : frK M M') : MR M' S := hc.keep (fun j hj => hf.2.1 j (by omega)) (fun a ha => hf.1 a (by omega) (by omega) (by omega))
theorem frK.m {M M' : MM} (hf : frK M M') : frM M M' := ⟨fun a ha => hf.1 a (by omega) (by omega) (by omega), hf.2.2⟩
section Mod
variable {Γ : GG} {L : Nat} {M : MM} {Q : QT} {S : ST}
theorem y_adds (hG : GOK Γ) (hc : MR M S) {p s q f : Int} (h : OutM Q L M (fAdds S p s q f)) : wp Γ mX10_adds 0 [some (VR 187), some (VI p), some (VI s), some (VI q), some (VI f)] [] 0 0 (W0 L) M Q := by
  have hc0 := hc.th
  have f0 := frM_th M
  obtain ⟨c1, c2, c3, c4, c5, c6⟩ := id hc0
  have n12 := c2.1
  have n0 := c1.1
  have bad : ¬ (inB p (qn (sG S)) ∧ inB q (qn (sG S)) ∧ inB s 9 ∧ inB f 3) → Q (some (VI (-1))) (W0 L) (upM M 187 0 0) := fun z => h.go (cit_n z) rfl hc0 f0
  refine vc_go hG 120 (B := bX10_adds) rfl ?_
  refine And.intro rfl ?_
  refine And.intro rfl (Exists.intro _ (And.intro rfl ?_))
  refine And.intro (Or.inl rfl) (Exists.intro 0 (And.intro rfl (And.intro (show 0 < 57 by decide) ?_)))
  refine m_in hG (fun z1 => ?_) (fun z1 => And.intro (fun _ => bad (fun z => z1 (by have := z.1; unfold inB at this; omega))) (fun c => absurd rfl c))
  refine And.intro (fun c => absurd c (by decide)) (fun c => ?_)
  refine And.intro rfl (Exists.intro _ (And.intro rfl ?_))
  refine And.intro (Or.inl rfl) (Exists.intro 0 (And.intro rfl (And.intro (show 0 < 57 by decide) ?_)))
  refine m_in hG (fun z2 => ?_) (fun z1 => And.intro (fun _ => bad (fun z => z1 (by have := z.2.1; unfold inB at this; omega))) (fun c => absurd rfl c))
  refine And.intro (fun c => absurd c (by decide)) (fun c => ?_)
  refine m_in hG (fun z3 => ?_) (fun z1 => And.intro (fun _ => bad (fun z => z1 (by have := z.2.2.1; unfold inB at this; omega))) (fun c => absurd rfl c))
  refine And.intro (fun c => absurd c (by decide)) (fun c => ?_)
  refine m_in hG (fun z4 => ?_) (fun z1 => And.intro (fun c => absurd rfl c) (fun _ => bad (fun z => z1 (by have := z.2.2.2; unfold inB at this; omega))))
  refine And.intro (fun c => ?_) (fun c => absurd c (by decide))
  have e1 : fAdds S p s q f = _ := cit_y ⟨⟨by omega, by omega⟩, ⟨by omega, by omega⟩, z3, z4⟩
  have ep : p = (p.toNat : Int) := by omega
  have es : s = (s.toNat : Int) := by omega
  have eq : q = (q.toNat : Int) := by omega
  have ef : f = (f.toNat : Int) := by omega
  have bp : p.toNat ≤ qn (sG S) := by omega
  have bq : q.toNat ≤ qn (sG S) := by omega
  have bs : s.toNat ≤ 9 := by omega
  have bf : f.toNat ≤ 3 := by omega
  refine And.intro rfl (Exists.intro _ (And.intro rfl (And.intro rfl ?_)))
  refine m_reckons hG (RwL_s L) (by decide) (by decide) c1 c2 (fun M1 o1 k1 => ?_)
  have hc1 := hc0.rk k1
  have f1 := f0.t k1.m
  have r1 := hc1.1
  refine And.intro rfl (Exists.intro _ (And.intro rfl ?_))
  refine And.intro (Or.inl rfl) (Exists.intro 56 (And.intro rfl (And.intro (show 56 < 57 by decide) ?_)))
  refine And.intro rfl ?_
  refine m_mayBe hG o1 (fun k hk => (WFG_V c2 k (by omega)).2.1) (fun k hk => by have := WFG_D c2 k (by omega); omega) (by omega) ep es eq ef r1.2.2.1 (by omega) bs (by omega) bf (fun mb => ?_) (fun mb => And.intro (fun c => absurd rfl c) (fun c => h.go (e1.trans (cit_n mb)) rfl hc1 f1))
  have mb : mayB (sG S) p.toNat s.toNat q.toNat f.toNat := mb
  refine And.intro (fun c => ?_) (fun c => absurd c (by decide))
  refine And.intro rfl (Exists.intro _ (And.intro rfl ?_))
  have q1 := r1.1
  refine And.intro (Or.inl rfl) (Exists.intro 0 (And.intro rfl (And.intro (show 0 < 57 by decide) ?_)))
  refine And.intro (fun x => ?_) (fun x => h.go (e1.trans ((cit_y mb).trans (cit_n (by omega)))) rfl hc1 f1)
  have hn : qn (sG S) < 12 := by omega
  have e3 := e1.trans ((cit_y mb).trans (cit_y hn))
  refine And.intro rfl ?_
  refine m_notes hG hc1.2.2.2.1 r1 c2 (fun M2 h2 g1 g2 => ?_)
  refine And.intro rfl (Exists.intro _ (And.intro rfl ?_))
  refine m_makes hG (RwL_s L) (r1.keep (g1 190 (by decide) (by decide))) c2 hn ep es eq ef (fun M3 r3 g3 => ?_)
  have hw := addG_wf c2 bp bs bq bf hn mb
  refine And.intro rfl (Exists.intro _ (And.intro rfl (And.intro rfl ?_)))
  refine m_reckons hG (RwL_s L) (by decide) (by decide) r3 hw (fun M4 o4 k4 => ?_)
  have r4 : RwR M4 190 (addG (sG S) p.toNat s.toNat q.toNat f.toNat) := r3.keep (k4.1 190 (by decide) (by decide) (by decide))
  have cp := MR_push hc1 h2 g1 g2 r4 hw (fun a a1 a2 a3 a4 => by rw [k4.1 a a1 a3 a4, g3 a a2]) (fun j hj => by rw [k4.2.1 j hj, g3 187 (by decide)]) (fun z => k4.2.2 (z.keep (g3 197 (by decide)) (g3 198 (by decide))))
  refine And.intro rfl (Exists.intro _ (And.intro rfl (And.intro rfl (Exists.intro _ (And.intro rfl ?_)))))
  refine And.intro (Or.inl rfl) (Exists.intro 0 (And.intro rfl (And.intro (show 0 < 57 by decide) ?_)))
  refine And.intro (Or.inl rfl) (Exists.intro (qn (sG S) + 1) (And.intro r4.1 (And.intro (show qn (sG S) + 1 < 14 by omega) ?_)))
  refine h.go e3 ?_ cp.1 (f1.t cp.2)
  rw [(o4.2 (qn (sG S) + 1) (show qn (sG S) + 1 < qn (sG S) + 1 + 1 by omega)).1]
  show ((upN _ _ _ _ : Nat) : Int) = _
  rw [upN_eq]
theorem y_forget (hG : GOK Γ) (hc : MR M S) (h : OutM Q L M (fForget S)) : wp Γ mX10_forget 0 [some (VR 187)] [] 0 0 (W0 L) M Q := by
  obtain ⟨c1, c2, c3, c4, c5, c6⟩ := hc.th
  refine vc_go hG 60 (B := bX10_forget) rfl ?_
  refine And.intro rfl (And.intro rfl (And.intro rfl ?_))
  exact h.go rfl c6.1 ⟨c1.keep (upM_ne (by decide)), c2, c3.keep (upM_k (by decide)) (upM_ne (by decide)), c4.keep (upM_k (by decide)) (upM_ne (by decide)), c5.keep (upM_ne (by decide)) (upM_ne (by decide)), ⟨upM_eq, Nat.zero_le _, fun k hk => absurd hk (Nat.not_lt_zero k)⟩⟩ (frM.o (fun a ha => by rw [upM_ne (by omega), upM_ne (by omega)]))
theorem y_takes (hG : GOK Γ) (hc : MR M S) (h : OutM Q L M (fTakes S)) : wp Γ mX10_takes_ 0 [some (VR 187)] [] 0 0 (W0 L) M Q := by
  have hc0 := hc.th
  have f0 := frM_th M
  obtain ⟨c1, c2, c3, c4, c5, c6⟩ := id hc0
  have n12 := c2.1
  have n0 := c1.1
  refine vc_go hG 120 (B := bX10_takes_) rfl ?_
  refine And.intro rfl ?_
  refine And.intro rfl (Exists.intro _ (And.intro rfl ?_))
  refine And.intro (Or.inl rfl) (Exists.intro 0 (And.intro rfl (And.intro (show 0 < 57 by decide) ?_)))
  refine And.intro (fun x => ?_) (fun x => h.go (cit_y (by omega)) rfl hc0 f0)
  have e3 : fTakes S = _ := cit_n (by omega)
  refine And.intro rfl ?_
  refine m_notes hG c4 c1 c2 (fun M2 h2 g1 g2 => ?_)
  have r2 := c1.keep (g1 190 (by decide) (by decide))
  refine And.intro rfl (Exists.intro _ (And.intro rfl (And.intro rfl ?_)))
  refine m_reckons hG (RwL_s L) (by decide) (by decide) r2 c2 (fun M3 o3 k3 => ?_)
  have r3 : RwR M3 190 (sG S) := r2.keep (k3.1 190 (by decide) (by decide) (by decide))
  have q3 := r3.1
  refine And.intro rfl (Exists.intro _ (And.intro rfl ?_))
  refine And.intro (Or.inl rfl) (Exists.intro 0 (And.intro rfl (And.intro (show 0 < 57 by decide) ?_)))
  refine And.intro (by omega) ?_
  refine And.intro rfl (Exists.intro 0 (And.intro rfl (And.intro (show 0 < 57 by decide) ?_)))
  refine And.intro rfl (Exists.intro _ (And.intro rfl (And.intro rfl (Exists.intro _ (And.intro rfl ?_)))))
  refine And.intro (Or.inl rfl) (Exists.intro 0 (And.intro rfl (And.intro (show 0 < 57 by decide) ?_)))
  have e0 : upM M3 190 0 (M3 190 0 - 1) 190 0 = ((qn (sG S) - 1 : Nat) : Int) := by rw [upM_eq, q3]; omega
  refine And.intro (by rw [e0]; omega) ?_
  refine And.intro (Or.inl rfl) (Exists.intro (qn (sG S)) (And.intro (by rw [e0]; omega) (And.intro (show qn (sG S) < 14 by omega) ?_)))
  have rt : RwR (upM M3 190 0 (M3 190 0 - 1)) 190 (tkG (sG S)) := by
    obtain ⟨s1, s2, s3, s4, s5⟩ := r3
    refine ⟨e0, by rw [upM_k (by decide)]; exact s2, by rw [upM_k (by decide)]; exact s3, fun k hk => ?_, fun k hk => by rw [upM_k (by omega)]; exact s5 k hk⟩
    have hk : k < qn (sG S) - 1 := hk
    rw [upM_k (by omega), upM_k (by omega), upM_k (by omega), upM_k (by omega)]
    exact s4 k (by omega)
  have cp := MR_push hc0 h2 g1 g2 rt (tkG_wf c2) (fun a a1 a2 a3 a4 => by rw [upM_ne a2, k3.1 a a1 a3 a4]) (fun j hj => by rw [upM_a (by decide), k3.2.1 j hj]) (fun z => (k3.2.2 z).up3 (by decide) (by decide))
  refine h.go e3 ?_ cp.1 (f0.t cp.2)
  rw [upM_a (by decide)]
  exact (o3.2 (qn (sG S)) (by omega)).1
end Mod
