/-! ===== the model: what is wanted ===== -/
section Mod
variable {Γ : GG} {L : Nat} {M : MM} {Q : QT} {S : ST} {G : GT}
theorem l_wantedAt (hG : GOK Γ) {a : Nat} (ha : RwL L a) (hr : RwR M a G) (hw : WFG G) {c : Nat} (h1 : ∀ k, k < qm G → qC G k = c → Q (some (VI k)) (W0 L) M) (h0 : (∀ k, k < qm G → qC G k ≠ c) → Q (some (VI (-1))) (W0 L) M) : ∀ (j k : Nat) (z : Int), k + j = qm G → ((z = -1 ∧ ∀ i, i < k → qC G i ≠ c) ∨ ∃ i : Nat, i < k ∧ z = i ∧ qC G i = c) → wp Γ mX10_wantedAt 4 [some (VR a), some (VI c), some (VI z), some (VI k)] [] 0 0 (W0 L) M Q := by
  have m6 := hw.2.1
  have e0 := hr.2.1
  intro j
  induction j with
  | zero =>
    intro k z hk hz
    have e : k = qm G := by omega
    subst e
    refine vc_go hG 60 (B := bX10_wantedAt) rfl ?_
    refine And.intro (Or.inl ha.1) (Exists.intro 49 (And.intro rfl (And.intro (by rw [ha.2]; decide) ?_)))
    refine And.intro (fun y => ?_) (fun y => by omega)
    rcases hz with ⟨z1, z2⟩ | ⟨i, i1, i2, i3⟩
    · subst z1
      exact h0 z2
    · subst i2
      exact h1 i i1 i3
  | succ j ih =>
    intro k z hk hz
    have e1 := hr.2.2.2.2 k (by omega)
    refine vc_goS hG 60 [27] (B := bX10_wantedAt) rfl ?_
    refine And.intro (Or.inl ha.1) (Exists.intro 49 (And.intro rfl (And.intro (by rw [ha.2]; decide) ?_)))
    refine And.intro (fun y => by omega) (fun y => ?_)
    refine And.intro (by omega) ?_
    refine And.intro (Or.inl ha.1) (Exists.intro (50 + k) (And.intro (by omega) (And.intro (by rw [ha.2]; omega) ?_)))
    refine And.intro (fun y => ?_) (fun y => ?_)
    · refine vc_go hG 60 (B := bX10_wantedAt) rfl ?_
      refine And.intro (by omega) ?_
      refine ih (k + 1) z (by omega) ?_
      have ne : qC G k ≠ c := by omega
      rcases hz with ⟨z1, z2⟩ | ⟨i, i1, i2, i3⟩
      · refine Or.inl ⟨z1, fun i hi => ?_⟩
        by_cases q : i = k
        · subst q; exact ne
        · exact z2 i (by omega)
      · exact Or.inr ⟨i, by omega, i2, i3⟩
    · refine vc_go hG 60 (B := bX10_wantedAt) rfl ?_
      refine And.intro (by omega) ?_
      exact ih (k + 1) k (by omega) (Or.inr ⟨k, by omega, rfl, by omega⟩)
theorem m_wantedAt (hG : GOK Γ) {a : Nat} (ha : RwL L a) (hr : RwR M a G) (hw : WFG G) {cI : Int} {c : Nat} (ec : cI = c) (h1 : ∀ k, k < qm G → qC G k = c → Q (some (VI k)) (W0 L) M) (h0 : (∀ k, k < qm G → qC G k ≠ c) → Q (some (VI (-1))) (W0 L) M) : wp Γ mX10_wantedAt 0 [some (VR a), some (VI cI)] [] 0 0 (W0 L) M Q := by
  subst ec
  refine vc_go hG 60 (B := bX10_wantedAt) rfl ?_
  exact l_wantedAt hG ha hr hw h1 h0 (qm G) 0 (-1) (by omega) (Or.inl ⟨rfl, fun i hi => by omega⟩)
/-- one more wanted -/
theorem RwR.wsh {M : MM} {a : Nat} {G : GT} (hr : RwR M a G) (hw : WFG G) (hm : qm G < 6) {c : Nat} {M' : MM} (h1 : M' a 49 = ((qm G + 1 : Nat) : Int)) (h2 : M' a (50 + qm G) = c) (h3 : ∀ i, i ≠ 49 → i ≠ 50 + qm G → M' a i = M a i) : RwR M' a (wshG G c) := by
  have n12 := hw.1
  obtain ⟨s1, s2, s3, s4, s5⟩ := hr
  refine ⟨by rw [h3 0 (by omega) (by omega)]; exact s1, h1, by rw [h3 56 (by omega) (by omega)]; exact s3, fun k hk => ?_, fun k hk => ?_⟩
  · have hk : k < qn G := hk
    rw [h3 _ (by omega) (by omega), h3 _ (by omega) (by omega), h3 _ (by omega) (by omega), h3 _ (by omega) (by omega)]
    exact s4 k hk
  · have hk : k < qm G + 1 := hk
    show _ = ((upN (qC G) (qm G) c k : Nat) : Int)
    by_cases q : k = qm G
    · subst q
      rw [upN_eq]; exact h2
    · rw [upN_ne q, h3 _ (by omega) (by omega)]
      exact s5 k (by omega)
theorem RwR.drp {M : MM} {a : Nat} {G : GT} (hr : RwR M a G) (hw : WFG G) {p : Nat} (hp : p < qm G) {M' : MM} (h1 : M' a 49 = ((qm G - 1 : Nat) : Int)) (h2 : ∀ i, i < p → M' a (50 + i) = M a (50 + i)) (h3 : ∀ i, p ≤ i → i + 1 < qm G → M' a (50 + i) = M a (50 + (i + 1))) (h4 : ∀ i, (i < 49 ∨ 55 < i) → M' a i = M a i) : RwR M' a (drpG G p) := by
  have n12 := hw.1
  obtain ⟨s1, s2, s3, s4, s5⟩ := hr
  refine ⟨by rw [h4 0 (by omega)]; exact s1, h1, by rw [h4 56 (by omega)]; exact s3, fun k hk => ?_, fun k hk => ?_⟩
  · have hk : k < qn G := hk
    rw [h4 _ (by omega), h4 _ (by omega), h4 _ (by omega), h4 _ (by omega)]
    exact s4 k hk
  · have hk : k < qm G - 1 := hk
    show _ = (((if k < p then qC G k else qC G (k + 1)) : Nat) : Int)
    by_cases q : k < p
    · rw [if_pos q, h2 k q]; exact s5 k (by omega)
    · rw [if_neg q, h3 k (by omega) (by omega)]; exact s5 (k + 1) (by omega)
theorem l_mdrop (hG : GOK Γ) {p m : Nat} {c : Int} (hm : m ≤ 6) (hp : p < m) (M0 : MM) (e49 : M0 190 49 = m) (h : ∀ M', M' 190 49 = ((m - 1 : Nat) : Int) → (∀ i, i < p → M' 190 (50 + i) = M0 190 (50 + i)) → (∀ i, p ≤ i → i + 1 < m → M' 190 (50 + i) = M0 190 (50 + (i + 1))) → (∀ i, (i < 49 ∨ 55 < i) → M' 190 i = M0 190 i) → (∀ a, a ≠ 190 → M' a = M0 a) → Q (some (VI ((m - 1 : Nat) : Int))) (W0 L) M') : ∀ (j k : Nat) (M1 : MM), k + j + 1 = m → p ≤ k → (∀ i, i < p → M1 190 (50 + i) = M0 190 (50 + i)) → (∀ i, p ≤ i → i < k → M1 190 (50 + i) = M0 190 (50 + (i + 1))) → (∀ i, k ≤ i → M1 190 (50 + i) = M0 190 (50 + i)) → (∀ i, (i < 50 ∨ 55 < i) → M1 190 i = M0 190 i) → (∀ a, a ≠ 190 → M1 a = M0 a) → wp Γ mX10_wishes 86 [some (VR 187), some (VI c), some (VI (p : Nat)), some (VI (k : Nat))] [] 0 0 (W0 L) M1 Q := by
  intro j
  induction j with
  | zero =>
    intro k M1 hk hpk h1 h2 h3 h4 hf
    have e : M1 190 49 = m := by rw [h4 49 (by omega)]; exact e49
    refine vc_go hG 60 (B := bX10_wishes) rfl ?_
    refine And.intro (by omega) ?_
    refine And.intro rfl (Exists.intro _ (And.intro rfl ?_))
    refine And.intro (Or.inl rfl) (Exists.intro (49) (And.intro (by omega) (And.intro (show 49 < 57 by omega) ?_)))
    refine And.intro (fun y => ?_) (fun y => by omega)
    refine And.intro rfl (Exists.intro _ (And.intro rfl ?_))
    refine And.intro (Or.inl rfl) (Exists.intro (49) (And.intro (by omega) (And.intro (show 49 < 57 by omega) ?_)))
    refine And.intro (by omega) ?_
    refine And.intro rfl (Exists.intro (49) (And.intro (by omega) (And.intro (show 49 < 57 by omega) ?_)))
    refine And.intro rfl (Exists.intro _ (And.intro rfl ?_))
    refine And.intro (Or.inl rfl) (Exists.intro (49) (And.intro (by omega) (And.intro (show 49 < 57 by omega) ?_)))
    have e2 : M1 190 49 - 1 = ((m - 1 : Nat) : Int) := by omega
    rw [upM_eq, e2]
    refine h _ upM_eq (fun i hi => by rw [upM_k (by omega)]; exact h1 i hi) (fun i i1 i2 => by rw [upM_k (by omega)]; exact h2 i i1 (by omega)) (fun i hi => by rw [upM_k (by omega)]; exact h4 i (by omega)) (fun a ha => by rw [upM_ne ha]; exact hf a ha)
  | succ j ih =>
    intro k M1 hk hpk h1 h2 h3 h4 hf
    have e : M1 190 49 = m := by rw [h4 49 (by omega)]; exact e49
    refine vc_go hG 60 (B := bX10_wishes) rfl ?_
    refine And.intro (by omega) ?_
    refine And.intro rfl (Exists.intro _ (And.intro rfl ?_))
    refine And.intro (Or.inl rfl) (Exists.intro (49) (And.intro (by omega) (And.intro (show 49 < 57 by omega) ?_)))
    refine And.intro (fun y => by omega) (fun y => ?_)
    refine And.intro rfl (Exists.intro _ (And.intro rfl ?_))
    refine And.intro (by omega) ?_
    refine And.intro rfl (Exists.intro _ (And.intro rfl ?_))
    refine And.intro (by omega) ?_
    refine And.intro (by omega) ?_
    refine And.intro (Or.inl rfl) (Exists.intro (50 + (k + 1)) (And.intro (by omega) (And.intro (show 50 + (k + 1) < 57 by omega) ?_)))
    refine And.intro rfl (Exists.intro (50 + k) (And.intro (by omega) (And.intro (show 50 + k < 57 by omega) ?_)))
    refine And.intro (by omega) ?_
    refine ih (k + 1) _ (by omega) (by omega) (fun i hi => by rw [upM_k (by omega)]; exact h1 i hi) (fun i i1 i2 => ?_) (fun i hi => by rw [upM_k (by omega)]; exact h3 i (by omega)) (fun i hi => by rw [upM_k (by omega)]; exact h4 i hi) (fun a ha => by rw [upM_ne ha]; exact hf a ha)
    by_cases q : i = k
    · subst q; rw [upM_eq]; exact h3 (i + 1) (by omega)
    · rw [upM_k (by omega)]; exact h2 i i1 (by omega)
theorem y_wishes (hG : GOK Γ) (hc : MR M S) {c : Int} (h : OutM Q L M (fWish S c)) : wp Γ mX10_wishes 0 [some (VR 187), some (VI c)] [] 0 0 (W0 L) M Q := by
  have hc0 := hc.th
  have f0 := frM_th M
  have n12 := hc.2.1.1
  have m6 := hc.2.1.2.1
  refine vc_go hG 60 (B := bX10_wishes) rfl ?_
  refine And.intro rfl ?_
  refine m_in hG (fun z => ?_) (fun z => And.intro (fun y => absurd rfl y) (fun y => h.go (cit_n z) rfl hc0 f0))
  refine And.intro (fun y => ?_) (fun y => absurd y (by decide))
  have e1 : fWish S c = _ := cit_y z
  have ec : c = (c.toNat : Int) := by omega
  refine And.intro rfl (Exists.intro _ (And.intro rfl ?_))
  refine m_wantedAt hG (RwL_s L) hc0.1 hc0.2.1 ec (fun k hk ek => ?_) (fun hno => ?_)
  · have ep : plc (qC (sG S)) c.toNat (qm (sG S)) = k := plc_eq hk ek (fun i hi e => hc.2.1.2.2.2.2.2.2.2 i k hi hk (e.trans ek.symm))
    rw [ep] at e1
    have e2 := e1.trans (cit_y hk)
    refine And.intro (fun x => ?_) (fun x => by omega)
    refine And.intro rfl ?_
    refine m_notes hG hc0.2.2.2.1 hc0.1 hc0.2.1 (fun M2 h2 g1 g2 => ?_)
    have r2 := hc0.1.keep (g1 190 (by decide) (by decide))
    refine And.intro (fun x => ?_) (fun x => by omega)
    refine l_mdrop hG m6 hk M2 r2.2.1 (fun M3 a1 a2 a3 a4 a5 => ?_) (qm (sG S) - 1 - k) k M2 (by omega) (Nat.le_refl _) (fun _ _ => rfl) (fun i i1 i2 => by omega) (fun _ _ => rfl) (fun _ _ => rfl) (fun _ _ => rfl)
    have cp := MR_push hc0 h2 g1 g2 (r2.drp hc0.2.1 hk a1 a2 a3 a4) (drpG_wf hc0.2.1 hk) (fun a b1 b2 b3 b4 => a5 a b2) (fun j hj => by rw [a5 187 (by decide)]) (fun z => z.keep (a5 197 (by decide)) (a5 198 (by decide)))
    exact h.go e2 (by omega) cp.1 (f0.t cp.2)
  · have ep : plc (qC (sG S)) c.toNat (qm (sG S)) = qm (sG S) := plc_no hno
    rw [ep] at e1
    have e2 := e1.trans (cit_n (Nat.lt_irrefl _))
    have i49 := hc0.1.2.1
    refine And.intro (fun x => absurd x (by decide)) (fun x => ?_)
    refine And.intro rfl (Exists.intro _ (And.intro rfl ?_))
    refine And.intro (Or.inl rfl) (Exists.intro (49) (And.intro (by omega) (And.intro (show 49 < 57 by omega) ?_)))
    refine And.intro (fun x => ?_) (fun x => h.go (e2.trans (cit_n (by omega))) rfl hc0 f0)
    have hm : qm (sG S) < 6 := by omega
    have e3 := e2.trans (cit_y hm)
    refine And.intro rfl ?_
    refine m_notes hG hc0.2.2.2.1 hc0.1 hc0.2.1 (fun M2 h2 g1 g2 => ?_)
    have r2 := hc0.1.keep (g1 190 (by decide) (by decide))
    have j49 := r2.2.1
    refine And.intro (fun x => absurd x (by decide)) (fun x => ?_)
    refine And.intro rfl (Exists.intro _ (And.intro rfl ?_))
    refine And.intro rfl (Exists.intro _ (And.intro rfl ?_))
    refine And.intro (Or.inl rfl) (Exists.intro (49) (And.intro (by omega) (And.intro (show 49 < 57 by omega) ?_)))
    refine And.intro (by omega) ?_
    refine And.intro rfl (Exists.intro (50 + qm (sG S)) (And.intro (by omega) (And.intro (show 50 + qm (sG S) < 57 by omega) ?_)))
    refine And.intro rfl (Exists.intro _ (And.intro rfl ?_))
    refine And.intro (Or.inl rfl) (Exists.intro (49) (And.intro (by omega) (And.intro (show 49 < 57 by omega) ?_)))
    refine And.intro (by rw [upM_k (by omega)]; omega) ?_
    refine And.intro rfl (Exists.intro (49) (And.intro (by omega) (And.intro (show 49 < 57 by omega) ?_)))
    refine And.intro rfl (Exists.intro _ (And.intro rfl ?_))
    refine And.intro (Or.inl rfl) (Exists.intro (49) (And.intro (by omega) (And.intro (show 49 < 57 by omega) ?_)))
    have cp := MR_push (M2 := upM (upM M2 190 (50 + qm (sG S)) c) 190 49 (upM M2 190 (50 + qm (sG S)) c 190 49 + 1)) hc0 h2 g1 g2 (r2.wsh hc0.2.1 hm (c := c.toNat) (by rw [upM_eq, upM_k (by omega), j49]; omega) (by rw [upM_k (by omega), upM_eq]; exact ec) (fun i i1 i2 => by rw [upM_k i1, upM_k i2])) (wshG_wf hc0.2.1 hm (by omega) hno) (fun a b1 b2 b3 b4 => by rw [upM_ne b2, upM_ne b2]) (fun j hj => by rw [upM_a (by decide), upM_a (by decide)]) (fun z => (z.up3 (by decide) (by decide)).up3 (by decide) (by decide))
    exact h.go e3 (by rw [upM_eq, upM_k (by omega), j49]) cp.1 (f0.t cp.2)
end Mod
