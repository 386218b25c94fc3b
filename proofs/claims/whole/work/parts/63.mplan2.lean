/-! ===== the model: plans, plan ===== -/
def frP (M M' : MM) : Prop := (∀ a, a ≠ 187 → a ≠ 191 → a ≠ 197 → a ≠ 198 → a ≠ 199 → a ≠ 200 → M' a = M a) ∧ (∀ j, j ≠ 20 → j ≠ 23 → M' 187 j = M 187 j) ∧ (OB M → OB M')
theorem frP.t {M M' M2 : MM} (h1 : frP M M') (h2 : frP M' M2) : frP M M2 := ⟨fun a a1 a2 a3 a4 a5 a6 => (h2.1 a a1 a2 a3 a4 a5 a6).trans (h1.1 a a1 a2 a3 a4 a5 a6), fun j j1 j2 => (h2.2.1 j j1 j2).trans (h1.2.1 j j1 j2), fun z => h2.2.2 (h1.2.2 z)⟩
theorem frN9.p {M M' : MM} (h : frN9 M M') : frP M M' := ⟨fun a a1 _ a3 a4 a5 _ => h.1 a a1 a3 a4 a5, fun j j1 _ => h.2.1 j j1, h.2.2⟩
theorem frP_1 {M M' : MM} (h : ∀ b, b ≠ 191 → M' b = M b) : frP M M' := ⟨fun a _ a2 _ _ _ _ => h a a2, fun j _ _ => by rw [h 187 (by decide)], fun z => z.keep (h 197 (by decide)) (h 198 (by decide))⟩
theorem frP_2 (M : MM) (i : Nat) (x : Int) : frP M (upM M 200 i x) := ⟨fun a _ _ _ _ _ a6 => upM_ne a6, fun j _ _ => upM_a (by decide), fun z => z.up3 (by decide) (by decide)⟩
theorem frP_3 (M : MM) (x : Int) : frP M (upM M 187 23 x) := ⟨fun a a1 _ _ _ _ _ => upM_ne a1, fun j _ j2 => upM_k j2, fun z => z.up3 (by decide) (by decide)⟩
theorem frP.m {M M' : MM} (h : frP M M') : frM M M' := ⟨fun a ha => h.1 a (by omega) (by omega) (by omega) (by omega) (by omega) (by omega), h.2.2⟩
theorem MR.p {M M' : MM} {S : ST} (hc : MR M S) (h : frP M M') : MR M' S := hc.keep (fun j hj => h.2.1 j (by omega) (by omega)) (fun a ha => h.1 a (by omega) (by omega) (by omega) (by omega) (by omega) (by omega))
/-- what is planned so far -/
def pNx (G : GT) (x : Int) : Prop := (pMore G ∧ isCh G x) ∨ (¬ pMore G ∧ x = -9)
def pLs (M : MM) (G0 G : GT) : Prop := M 187 23 = ((qn G - qn G0 : Nat) : Int) ∧ qn G0 ≤ qn G ∧ ∀ i, i < qn G - qn G0 → M 200 i = ((qV G (qn G0 + 1 + i) : Nat) : Int)
theorem isCh_cases {G : GT} {x : Int} (h : isCh G x) : x = -9 ∨ ∃ n : Nat, x = n := by
  rcases h with ⟨e, -, h2⟩ | ⟨-, ⟨e, -, h2⟩ | ⟨-, h2⟩⟩
  · exact Or.inr ⟨e, h2⟩
  · rcases h2 with ⟨h3, -⟩ | ⟨t, h3, -⟩
    · exact Or.inl h3
    · exact Or.inr ⟨t, h3⟩
  · exact Or.inl h2
section Mod
variable {Γ : GG} {L : Nat} {M : MM} {Q : QT} {S : ST} {G : GT}
theorem l_plans (hG : GOK Γ) (G0 : GT) (h : ∀ H M', isPl G0 H → WFG H → RwR M' 191 H → OdR M' (qn H + 1) (qV H) (qD H) → pLs M' G0 H → frP M M' → Q none (W0 L) M') : ∀ (j : Nat) (G : GT) (x : Int) (M1 : MM), qn G + j = 12 → WFG G → RwR M1 191 G → OdR M1 (qn G + 1) (qV G) (qD G) → NF M1 G → pNx G x → pLs M1 G0 G → frP M M1 → (∀ H, isPl G H → isPl G0 H) → wp Γ mX10_plans 60 [some (VR 187), some (VI x)] [] 0 0 (W0 L) M1 Q := by
  intro j
  induction j with
  | zero =>
    intro G x M1 hj hw hr ho ht hx hp hf hP
    have e : x = -9 := by
      rcases hx with ⟨a1, -⟩ | ⟨-, a1⟩
      · have := a1.1; omega
      · exact a1
    have nm : ¬ pMore G := fun z => by have := z.1; omega
    refine vc_go hG 60 (B := bX10_plans) rfl ?_
    exact And.intro (fun y => h G M1 (hP G (isPl_0 (fun z => nm z.1))) hw hr ho hp hf) (fun y => absurd e y)
  | succ j ih =>
    intro G x M1 hj hw hr ho ht hx hp hf hP
    have n12 := hw.1
    by_cases e : x = -9
    · refine vc_go hG 60 (B := bX10_plans) rfl ?_
      refine And.intro (fun y => h G M1 (hP G (isPl_0 (fun z => ?_))) hw hr ho hp hf) (fun y => absurd e y)
      obtain ⟨z1, G', x', p', q', s', f', z2, -⟩ := z
      rcases hx with ⟨a1, a2⟩ | ⟨a1, -⟩
      · have := isCh_u a2 z2
        omega
      · exact a1 z1
    · have hx2 : pMore G ∧ isCh G x := by
        rcases hx with a | ⟨-, a1⟩
        · exact a
        · exact absurd a1 e
      obtain ⟨hm, hch⟩ := hx2
      obtain ⟨n, hn⟩ : ∃ n : Nat, x = n := by
        rcases isCh_cases hch with a | a
        · exact absurd a e
        · exact a
      subst hn
      have nr := isCh_nr hch
      have nb := isNr_b nr
      obtain ⟨p, q, s, f, b3, b4⟩ : ∃ p q s f, byW G n p q s f ∧ M1 199 n = ((mcd p q s f + 1 : Nat) : Int) := by
        rcases ht.nr (v := n) (by omega) with ⟨-, -, b⟩ | ⟨b1, -⟩
        · exact b
        · exact absurd nr b1
      have bb := byW_b hw b3
      have hw' := byW_wf hw hm.1 b3
      have hn' : qn (addG G p s q f) = qn G + 1 := rfl
      have step : pStep G (addG G p s q f) := ⟨n, p, q, s, f, hch, b3, rfl⟩
      refine vc_goS hG 80 [120] (B := bX10_plans) rfl ?_
      refine And.intro (fun y => by omega) (fun y => ?_)
      refine And.intro rfl (Exists.intro _ (And.intro rfl ?_))
      refine And.intro (Or.inl rfl) (Exists.intro (n) (And.intro (by omega) (And.intro (show n < 1024 by omega) ?_)))
      refine And.intro rfl (Exists.intro _ (And.intro rfl ?_))
      refine m_partOf hG b4 (by omega) (by omega) bb.2.2.1 bb.2.2.2.1 ?_
      refine m_partOf hG b4 (by omega) (by omega) bb.2.2.1 bb.2.2.2.1 ?_
      refine m_partOf hG b4 (by omega) (by omega) bb.2.2.1 bb.2.2.2.1 ?_
      refine m_partOf hG b4 (by omega) (by omega) bb.2.2.1 bb.2.2.2.1 ?_
      refine m_makes hG (RwL_w L) hr hw hm.1 (p := p) (s := s) (q := q) (f := f) rfl rfl rfl rfl (fun M2 r2 g2 => ?_)
      have p23 : M2 187 23 = ((qn G - qn G0 : Nat) : Int) := by rw [g2 187 (by decide)]; exact hp.1
      have hle := hp.2.1
      refine And.intro rfl (Exists.intro _ (And.intro rfl ?_))
      refine And.intro rfl ?_
      refine And.intro rfl (Exists.intro (qn G - qn G0) (And.intro p23 (And.intro (show qn G - qn G0 < 12 by have := hm.1; omega) ?_)))
      refine And.intro rfl ?_
      refine And.intro (by rw [upM_a (by decide)]; omega) ?_
      refine And.intro rfl ?_
      have pv : pLs (upM (upM M2 200 (qn G - qn G0) (n : Int)) 187 23 (upM M2 200 (qn G - qn G0) (n : Int) 187 23 + 1)) G0 (addG G p s q f) := by
        refine ⟨?_, by rw [hn']; omega, fun i hi => ?_⟩
        · rw [upM_eq, upM_a (by decide), p23, hn']; omega
        · rw [hn'] at hi
          rw [upM_a (by decide)]
          show _ = ((upN (qV G) (qn G + 1) (odp (cms (qV G p) s (qV G q) f)) (qn G0 + 1 + i) : Nat) : Int)
          by_cases c : i = qn G - qn G0
          · subst c
            rw [upM_eq, show qn G0 + 1 + (qn G - qn G0) = qn G + 1 by omega, upN_eq]
            exact congrArg Nat.cast b3.2.1.symm
          · rw [upM_k c, upN_ne (by omega), g2 200 (by decide)]
            exact hp.2.2 i (by omega)
      have f3 : frP M (upM (upM M2 200 (qn G - qn G0) (n : Int)) 187 23 (upM M2 200 (qn G - qn G0) (n : Int) 187 23 + 1)) := ((hf.t (frP_1 g2)).t (frP_2 _ _ _)).t (frP_3 _ _)
      have r3 : RwR (upM (upM M2 200 (qn G - qn G0) (n : Int)) 187 23 (upM M2 200 (qn G - qn G0) (n : Int) 187 23 + 1)) 191 (addG G p s q f) := r2.keep (by rw [upM_ne (by decide), upM_ne (by decide)])
      generalize upM (upM M2 200 (qn G - qn G0) (n : Int)) 187 23 (upM M2 200 (qn G - qn G0) (n : Int) 187 23 + 1) = M3 at pv f3 r3
      generalize addG G p s q f = G' at *
      refine vc_goS hG 80 [163] (B := bX10_plans) rfl ?_
      refine And.intro rfl (Exists.intro _ (And.intro rfl ?_))
      refine And.intro rfl ?_
      refine m_nearsOf hG (RwL_w L) (by decide) (by decide) r3 hw' (fun M4 o4 t4 f4 => ?_)
      have r4 : RwR M4 191 G' := r3.keep (f4.1 191 (by decide) (by decide) (by decide) (by decide))
      have pk : ∀ {M5 : MM}, frN9 M3 M5 → pLs M5 G0 G' := fun k5 => ⟨by rw [k5.2.1 23 (by decide)]; exact pv.1, pv.2.1, fun i hi => by rw [k5.1 200 (by decide) (by decide) (by decide) (by decide)]; exact pv.2.2 i hi⟩
      have fin : ∀ (x' : Int) (M5 : MM), pNx G' x' → OdR M5 (qn G' + 1) (qV G') (qD G') → NF M5 G' → frN9 M3 M5 → wp Γ mX10_plans 163 [some (VR 187), some (VI (n : Int)), some (VI (M1 199 n))] [VI x'] 0 0 (W0 L) M5 Q := by
        intro x' M5 k1 k2 k3 k4
        refine vc_go hG 60 (B := bX10_plans) rfl ?_
        exact wp_pre [some (VR 187), some (VI x')] [some (VI (M1 199 n))] (ih G' x' M5 (by omega) hw' (r3.keep (k4.1 191 (by decide) (by decide) (by decide) (by decide))) k2 k3 k1 (pk k4) (f3.t k4.p) (fun H hH => hP H (isPl_s hm step hH)))
      refine And.intro rfl (Exists.intro _ (And.intro rfl ?_))
      refine And.intro rfl ?_
      refine m_unmet hG (RwL_w L) r4 hw' o4 ?_
      refine And.intro (fun y => ?_) (fun y => ?_)
      · exact fin (-9) M4 (Or.inr ⟨fun z => by have := z.2; omega, rfl⟩) o4 t4 f4
      · have q0 := r4.1
        refine And.intro rfl (Exists.intro _ (And.intro rfl ?_))
        refine And.intro (Or.inl rfl) (Exists.intro (0) (And.intro (by omega) (And.intro (show 0 < 57 by omega) ?_)))
        refine And.intro (fun y2 => ?_) (fun y2 => ?_)
        · exact fin (-9) M4 (Or.inr ⟨fun z => by have := z.1; omega, rfl⟩) o4 t4 f4
        · refine And.intro rfl (Exists.intro _ (And.intro rfl ?_))
          refine And.intro rfl ?_
          refine m_nextOf hG r4 hw' o4 t4 (fun x' M5 k1 k2 k3 k4 => ?_)
          exact fin x' M5 (Or.inl ⟨⟨by omega, by omega⟩, k1⟩) k2 k3 (f4.t k4)
theorem m_plans (hG : GOK Γ) (hr : RwR M 190 G) (hw : WFG G) (h : ∀ H M', isPl G H → WFG H → RwR M' 191 H → OdR M' (qn H + 1) (qV H) (qD H) → pLs M' G H → frP M M' → Q none (W0 L) M') : wp Γ mX10_plans 0 [some (VR 187)] [] 0 0 (W0 L) M Q := by
  have n12 := hw.1
  refine vc_goS hG 80 [59] (B := bX10_plans) rfl ?_
  refine And.intro rfl (Exists.intro _ (And.intro rfl ?_))
  refine And.intro rfl (Exists.intro _ (And.intro rfl ?_))
  refine m_copies hG (RwL_s L) (RwL_w L) (by decide) (fun M1 c1 c2 => ?_)
  refine And.intro rfl ?_
  have r2 : RwR (upM M1 187 23 0) 191 G := (hr.cp hw c1).keep (upM_ne (by decide))
  have f2 : frP M (upM M1 187 23 0) := (frP_1 c2).t (frP_3 _ _)
  have p2 : upM M1 187 23 0 187 23 = ((qn G - qn G : Nat) : Int) := by rw [upM_eq, Nat.sub_self]; rfl
  generalize upM M1 187 23 0 = M2 at r2 f2 p2
  refine And.intro rfl (Exists.intro _ (And.intro rfl ?_))
  refine And.intro rfl ?_
  refine m_nearsOf hG (RwL_w L) (by decide) (by decide) r2 hw (fun M4 o4 t4 f4 => ?_)
  have r4 : RwR M4 191 G := r2.keep (f4.1 191 (by decide) (by decide) (by decide) (by decide))
  have fin : ∀ (x' : Int) (M5 : MM), pNx G x' → OdR M5 (qn G + 1) (qV G) (qD G) → NF M5 G → frN9 M2 M5 → wp Γ mX10_plans 59 [some (VR 187)] [VI x'] 0 0 (W0 L) M5 Q := by
    intro x' M5 k1 k2 k3 k4
    refine vc_go hG 60 (B := bX10_plans) rfl ?_
    exact l_plans (M := M) hG G h (12 - qn G) G x' M5 (by omega) hw (r2.keep (k4.1 191 (by decide) (by decide) (by decide) (by decide))) k2 k3 k1 ⟨by rw [k4.2.1 23 (by decide)]; exact p2, Nat.le_refl _, fun i hi => by omega⟩ (f2.t k4.p) (fun H hH => hH)
  refine And.intro rfl (Exists.intro _ (And.intro rfl ?_))
  refine And.intro rfl ?_
  refine m_unmet hG (RwL_w L) r4 hw o4 ?_
  refine And.intro (fun y => ?_) (fun y => ?_)
  · exact fin (-9) M4 (Or.inr ⟨fun z => by have := z.2; omega, rfl⟩) o4 t4 f4
  · have q0 := r4.1
    refine And.intro rfl (Exists.intro _ (And.intro rfl ?_))
    refine And.intro (Or.inl rfl) (Exists.intro (0) (And.intro (by omega) (And.intro (show 0 < 57 by omega) ?_)))
    refine And.intro (fun y2 => ?_) (fun y2 => ?_)
    · exact fin (-9) M4 (Or.inr ⟨fun z => by have := z.1; omega, rfl⟩) o4 t4 f4
    · refine And.intro rfl (Exists.intro _ (And.intro rfl ?_))
      refine And.intro rfl ?_
      refine m_nextOf hG r4 hw o4 t4 (fun x' M5 k1 k2 k3 k4 => ?_)
      exact fin x' M5 (Or.inl ⟨⟨by omega, by omega⟩, k1⟩) k2 k3 (f4.t k4)
theorem y_plan (hG : GOK Γ) (hc : MR M S) {k : Int} (h : OutMR Q L M S (planR (sG S) k)) : wp Γ mX10_plan 0 [some (VR 187), some (VI k)] [] 0 0 (W0 L) M Q := by
  have hc0 := hc.th
  have f0 := frM_th M
  refine vc_go hG 60 (B := bX10_plan) rfl ?_
  refine And.intro rfl ?_
  refine And.intro (fun y => ?_) (fun y => h _ _ (Or.inl ⟨y, rfl⟩) hc0 f0)
  refine And.intro rfl ?_
  refine m_plans hG hc0.1 hc0.2.1 (fun H M1 h1 h2 h3 h4 h5 h6 => ?_)
  have hc1 := hc0.p h6
  have f1 := f0.t h6.m
  have n12 := h2.1
  have fin : ∀ r : Int, r = selP (sG S) H k → Q (some (VI r)) (W0 L) M1 := fun r hr => h r M1 (Or.inr ⟨y, H, h1, hr⟩) hc1 f1
  unfold selP at fin
  obtain ⟨p1, p2, p3⟩ := h5
  refine And.intro (fun y1 => ?_) (fun y1 => ?_)
  · rw [if_neg y1] at fin
    refine And.intro (fun y2 => ?_) (fun y2 => ?_)
    · rw [if_neg y2] at fin
      refine And.intro rfl (And.intro (fun y3 => ?_) (fun y3 => ?_))
      · rw [if_neg (by omega)] at fin
        exact fin _ rfl
      · rw [if_pos (by omega)] at fin
        refine And.intro rfl (Exists.intro _ (And.intro rfl ?_))
        refine And.intro (Or.inl rfl) (Exists.intro (k.toNat) (And.intro (by omega) (And.intro (show k.toNat < 12 by omega) ?_)))
        exact fin _ (p3 k.toNat (by omega))
    · rw [if_pos y2] at fin
      refine And.intro rfl (Exists.intro _ (And.intro rfl ?_))
      refine And.intro rfl ?_
      exact m_unmet hG (RwL_w L) h3 h2 h4 (fin _ rfl)
  · rw [if_pos y1] at fin
    refine And.intro rfl ?_
    exact fin _ (by omega)
end Mod
