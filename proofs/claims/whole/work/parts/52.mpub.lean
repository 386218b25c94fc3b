/-! ===== the model: odd, wanted, count, product ===== -/
theorem hv_odd {n : Nat} (h : n % 2 = 1) : hv n = 0 := by
  show hvF 11 n = 0
  unfold hvF
  rw [if_neg (fun z => by omega)]
theorem hv_half {n : Nat} (h0 : n ≠ 0) (h2 : n < 2048) (h : n % 2 = 0) : hv n = hv (n / 2) + 1 := by
  refine ((odd_uniq (a := odp (n / 2)) (b := odp n) (i := hv (n / 2) + 1) (j := hv n) (odp_odd (by omega) (by omega)) (odp_odd h0 h2) ?_).2).symm
  rw [odp_mul, Nat.pow_succ, ← Nat.mul_assoc, odp_mul]
  omega
section Mod
variable {Γ : GG} {L : Nat} {M : MM} {Q : QT} {S : ST} {G : GT}
theorem l_mhalf (hG : GOK Γ) {x0 x1 x2 x3 : Option AV} {t : Nat} (ht : t ≤ 100) (h : Q (some (VI t)) (W0 L) M) : ∀ (j m n : Nat), m < 2 ^ j → m < 2048 → m ≠ 0 → n + hv m = t → wp Γ mX10_odd 204 [x0, x1, x2, x3, some (VI m), some (VI n)] [] 0 0 (W0 L) M Q := by
  intro j
  induction j with
  | zero =>
    intro m n h1 h2 h3 h4
    simp at h1
    omega
  | succ j ih =>
    intro m n h1 h2 h3 h4
    refine vc_go hG 60 (B := bX10_odd) rfl ?_
    refine And.intro ⟨by omega, by decide⟩ (And.intro (fun b => ?_) (fun b => ?_))
    · have e : m % 2 = 1 := by omega
      rw [hv_odd e] at h4
      subst h4
      exact h
    · refine And.intro ⟨by omega, by decide⟩ ?_
      have e : (m : Int) / 2 = ((m / 2 : Nat) : Int) := rfl
      rw [e]
      have e2 := hv_half h3 h2 (by omega)
      rw [Nat.pow_succ] at h1
      exact And.intro (by omega) (ih (m / 2) (n + 1) (by omega) (by omega) (by omega) (by omega))
theorem y_odd (hG : GOK Γ) (hc : MR M S) {k w : Int} (h : OutM Q L M (fOdd S k w)) : wp Γ mX10_odd 0 [some (VR 187), some (VI k), some (VI w)] [] 0 0 (W0 L) M Q := by
  have hc0 := hc.th
  have f0 := frM_th M
  have n12 := hc.2.1.1
  have i0 := hc0.1.1
  refine vc_go hG 100 (B := bX10_odd) rfl ?_
  refine And.intro rfl ?_
  refine And.intro rfl (Exists.intro _ (And.intro rfl ?_))
  refine And.intro (Or.inl rfl) (Exists.intro (0) (And.intro (by omega) (And.intro (show 0 < 57 by omega) ?_)))
  refine m_in hG (fun z1 => ?_) (fun z1 => And.intro (fun c => h.go (cit_n (fun z => z1 (by have := z.1.1; have := z.1.2; omega))) rfl hc0 f0) (fun c => absurd rfl c))
  refine And.intro (fun c => absurd c (by decide)) (fun c => ?_)
  refine m_in hG (fun z2 => ?_) (fun z2 => And.intro (fun c => absurd rfl c) (fun c => h.go (cit_n (fun z => z2 (by have := z.2.1; have := z.2.2; omega))) rfl hc0 f0))
  refine And.intro (fun c => ?_) (fun c => absurd c (by decide))
  have e1 : fOdd S k w = _ := cit_y ⟨⟨z1.1, by omega⟩, ⟨z2.1, by omega⟩⟩
  refine And.intro rfl (Exists.intro _ (And.intro rfl ?_))
  refine And.intro rfl ?_
  refine m_reckons hG (RwL_s L) (by decide) (by decide) hc0.1 hc0.2.1 (fun M1 o1 k1 => ?_)
  have hc1 := hc0.rk k1
  have f1 := f0.t k1.m
  have fin : ∀ r : Int, r = oddF (sG S) k.toNat w.toNat → Q (some (VI r)) (W0 L) M1 := fun r hr => h.go e1 hr hc1 f1
  unfold oddF at fin
  have ok := o1.2 k.toNat (by omega)
  have ek : k = (k.toNat : Int) := by omega
  refine And.intro (fun y => ?_) (fun y => ?_)
  · refine And.intro (fun y2 => ?_) (fun y2 => ?_)
    · have p1 : ∀ j, k = ((j : Nat) : Int) + 1 → _ := fun j hj => hc1.1.2.2.2.1 j (by omega)
      have q1 := p1 (k.toNat - 1) (by omega)
      obtain ⟨w1, w2, w3, w4, w5, w6, w7, w8⟩ := hc1.2.1.2.2.2.2.2.1 (k.toNat - 1) (by omega)
      rw [if_neg (by omega), if_neg (by omega), if_neg (by omega)] at fin
      refine And.intro (by omega) ?_
      refine And.intro (fun y3 => ?_) (fun y3 => ?_)
      · have v1 := WFG_V hc1.2.1 (qP (sG S) (k.toNat - 1)) (by omega)
        have v2 := WFG_V hc1.2.1 (qQ (sG S) (k.toNat - 1)) (by omega)
        have oo1 := (o1.2 (qP (sG S) (k.toNat - 1)) (by omega)).1
        have oo2 := (o1.2 (qQ (sG S) (k.toNat - 1)) (by omega)).1
        rw [if_neg (by omega), if_neg (by omega), if_neg (by omega), if_neg (by omega)] at fin
        refine And.intro rfl (Exists.intro _ (And.intro rfl ?_))
        refine And.intro rfl (Exists.intro _ (And.intro rfl ?_))
        refine And.intro (by omega) ?_
        refine And.intro (Or.inl rfl) (Exists.intro (1 + (k.toNat - 1)) (And.intro (by omega) (And.intro (show 1 + (k.toNat - 1) < 57 by omega) ?_)))
        refine And.intro (Or.inl rfl) (Exists.intro (qP (sG S) (k.toNat - 1)) (And.intro q1.1 (And.intro (show qP (sG S) (k.toNat - 1) < 14 by omega) ?_)))
        refine And.intro rfl (Exists.intro _ (And.intro rfl ?_))
        refine And.intro (by omega) ?_
        refine And.intro (Or.inl rfl) (Exists.intro (13 + (k.toNat - 1)) (And.intro (by omega) (And.intro (show 13 + (k.toNat - 1) < 57 by omega) ?_)))
        refine And.intro rfl (Exists.intro _ (And.intro rfl ?_))
        refine And.intro rfl (Exists.intro _ (And.intro rfl ?_))
        refine And.intro (by omega) ?_
        refine And.intro (Or.inl rfl) (Exists.intro (25 + (k.toNat - 1)) (And.intro (by omega) (And.intro (show 25 + (k.toNat - 1) < 57 by omega) ?_)))
        refine And.intro (Or.inl rfl) (Exists.intro (qQ (sG S) (k.toNat - 1)) (And.intro q1.2.2.1 (And.intro (show qQ (sG S) (k.toNat - 1) < 14 by omega) ?_)))
        refine And.intro rfl (Exists.intro _ (And.intro rfl ?_))
        refine And.intro (by omega) ?_
        refine And.intro (Or.inl rfl) (Exists.intro (37 + (k.toNat - 1)) (And.intro (by omega) (And.intro (show 37 + (k.toNat - 1) < 57 by omega) ?_)))
        refine m_comes hG oo1 q1.2.1 oo2 q1.2.2.2 v1.2.1 w3 v2.2.1 w4 ?_
        have w6' : qX (sG S) (k.toNat - 1) < 2048 := by omega
        exact l_mhalf hG (t := hv (qX (sG S) (k.toNat - 1))) (by have := hv_le (qX (sG S) (k.toNat - 1)); omega) (fin _ rfl) 11 (qX (sG S) (k.toNat - 1)) 0 w6' w6' (by omega) (by omega)
      · refine And.intro (fun y4 => ?_) (fun y4 => ?_)
        · refine And.intro (fun y5 => ?_) (fun y5 => ?_)
          · refine And.intro (fun y6 => ?_) (fun y6 => ?_)
            · rw [if_neg (by omega), if_neg (by omega), if_neg (by omega), if_pos (by omega)] at fin
              refine And.intro rfl (Exists.intro _ (And.intro rfl ?_))
              refine And.intro (by omega) ?_
              refine And.intro (Or.inl rfl) (Exists.intro (37 + (k.toNat - 1)) (And.intro (by omega) (And.intro (show 37 + (k.toNat - 1) < 57 by omega) ?_)))
              exact fin _ q1.2.2.2
            · rw [if_neg (by omega), if_neg (by omega), if_pos (by omega)] at fin
              refine And.intro rfl (Exists.intro _ (And.intro rfl ?_))
              refine And.intro (by omega) ?_
              refine And.intro (Or.inl rfl) (Exists.intro (13 + (k.toNat - 1)) (And.intro (by omega) (And.intro (show 13 + (k.toNat - 1) < 57 by omega) ?_)))
              exact fin _ q1.2.1
          · rw [if_neg (by omega), if_pos (by omega)] at fin
            refine And.intro rfl (Exists.intro _ (And.intro rfl ?_))
            refine And.intro (by omega) ?_
            refine And.intro (Or.inl rfl) (Exists.intro (25 + (k.toNat - 1)) (And.intro (by omega) (And.intro (show 25 + (k.toNat - 1) < 57 by omega) ?_)))
            exact fin _ q1.2.2.1
        · rw [if_pos (by omega)] at fin
          refine And.intro rfl (Exists.intro _ (And.intro rfl ?_))
          refine And.intro (by omega) ?_
          refine And.intro (Or.inl rfl) (Exists.intro (1 + (k.toNat - 1)) (And.intro (by omega) (And.intro (show 1 + (k.toNat - 1) < 57 by omega) ?_)))
          exact fin _ q1.1
    · rw [if_neg (by omega), if_neg (by omega), if_pos (by omega)] at fin
      refine And.intro (fun y3 => ?_) (fun y3 => ?_)
      · rw [if_neg (by omega)] at fin
        exact fin _ rfl
      · rw [if_pos (by omega)] at fin
        exact fin _ rfl
  · refine And.intro (fun y2 => ?_) (fun y2 => ?_)
    · rw [if_neg (by omega), if_pos (by omega)] at fin
      refine And.intro rfl (Exists.intro _ (And.intro rfl ?_))
      refine And.intro (Or.inl rfl) (Exists.intro (k.toNat) (And.intro (by omega) (And.intro (show k.toNat < 14 by omega) ?_)))
      exact fin _ ok.2
    · rw [if_pos (by omega)] at fin
      refine And.intro rfl (Exists.intro _ (And.intro rfl ?_))
      refine And.intro (Or.inl rfl) (Exists.intro (k.toNat) (And.intro (by omega) (And.intro (show k.toNat < 14 by omega) ?_)))
      exact fin _ ok.1
theorem y_wanted (hG : GOK Γ) (hc : MR M S) {k w : Int} (h : OutM Q L M (fWanted S k w)) : wp Γ mX10_wanted 0 [some (VR 187), some (VI k), some (VI w)] [] 0 0 (W0 L) M Q := by
  have hc0 := hc.th
  have f0 := frM_th M
  have m6 := hc.2.1.2.1
  have i0 := hc0.1.2.1
  refine vc_go hG 100 (B := bX10_wanted) rfl ?_
  refine And.intro rfl ?_
  refine And.intro rfl (Exists.intro _ (And.intro rfl ?_))
  refine And.intro (Or.inl rfl) (Exists.intro (49) (And.intro (by omega) (And.intro (show 49 < 57 by omega) ?_)))
  refine And.intro (by omega) ?_
  refine m_in hG (fun z1 => ?_) (fun z1 => And.intro (fun c => h.go (cit_n (fun z => z1 (by have := z.1.1; have := z.1.2; omega))) rfl hc0 f0) (fun c => absurd rfl c))
  refine And.intro (fun c => absurd c (by decide)) (fun c => ?_)
  refine m_in hG (fun z2 => ?_) (fun z2 => And.intro (fun c => absurd rfl c) (fun c => h.go (cit_n (fun z => z2 (by have := z.2.1; have := z.2.2; omega))) rfl hc0 f0))
  refine And.intro (fun c => ?_) (fun c => absurd c (by decide))
  have e1 : fWanted S k w = _ := cit_y ⟨⟨z1.1, by omega⟩, ⟨z2.1, by omega⟩⟩
  refine And.intro rfl (Exists.intro _ (And.intro rfl ?_))
  refine And.intro rfl ?_
  refine m_reckons hG (RwL_s L) (by decide) (by decide) hc0.1 hc0.2.1 (fun M1 o1 k1 => ?_)
  have hc1 := hc0.rk k1
  have f1 := f0.t k1.m
  have n12 := hc.2.1.1
  have cc := hc1.1.2.2.2.2 k.toNat (by omega)
  have cb := hc1.2.1.2.2.2.2.2.2.1 k.toNat (by omega)
  refine And.intro (fun y => ?_) (fun y => ?_)
  · have e2 := e1.trans (cit_n y)
    refine And.intro rfl (Exists.intro _ (And.intro rfl ?_))
    refine And.intro (by omega) ?_
    refine And.intro (Or.inl rfl) (Exists.intro (50 + k.toNat) (And.intro (by omega) (And.intro (show 50 + k.toNat < 57 by omega) ?_)))
    refine m_oddPart hG cc (by omega) ?_
    refine And.intro rfl ?_
    refine m_isOdds hG o1 (by omega) rfl (fun q => ?_) (fun q => ?_)
    · refine And.intro (fun y => absurd y (by decide)) (fun y => ?_)
      obtain ⟨i, i1, i2⟩ := q
      exact h.go (e2.trans (cit_y ⟨i, by omega, i2⟩)) rfl hc1 f1
    · refine And.intro (fun y => ?_) (fun y => absurd rfl y)
      refine h.go (e2.trans (cit_n (fun z => ?_))) rfl hc1 f1
      obtain ⟨i, i1, i2⟩ := z
      exact q i (by omega) i2
  · refine And.intro rfl (Exists.intro _ (And.intro rfl ?_))
    refine And.intro (by omega) ?_
    refine And.intro (Or.inl rfl) (Exists.intro (50 + k.toNat) (And.intro (by omega) (And.intro (show 50 + k.toNat < 57 by omega) ?_)))
    exact h.go (e1.trans (cit_y y)) cc hc1 f1
theorem l_unmet (hG : GOK Γ) {a : Nat} (ha : RwL L a) (hr : RwR M a G) (hw : WFG G) (ho : OdR M (qn G + 1) (qV G) (qD G)) (h : Q (some (VI (nMt G (qm G) : Nat))) (W0 L) M) : ∀ (j k : Nat), k + j = qm G → nMt G k ≤ k → wp Γ mX10_unmet 4 [some (VR 187), some (VR a), some (VI (nMt G k : Nat)), some (VI k)] [] 0 0 (W0 L) M Q := by
  have m6 := hw.2.1
  have n12 := hw.1
  have e0 := hr.2.1
  intro j
  induction j with
  | zero =>
    intro k hk hl
    have e : k = qm G := by omega
    subst e
    refine vc_go hG 60 (B := bX10_unmet) rfl ?_
    refine And.intro (Or.inl ha.1) (Exists.intro 49 (And.intro rfl (And.intro (by rw [ha.2]; decide) ?_)))
    exact And.intro (fun y => h) (fun y => by omega)
  | succ j ih =>
    intro k hk hl
    have e1 := hr.2.2.2.2 k (by omega)
    have cb := hw.2.2.2.2.2.2.1 k (by omega)
    have nx := ih (k + 1) (by omega)
    have en : nMt G (k + 1) = nMt G k + (@ite _ (isMt G (qC G k)) (Classical.propDecidable _) 0 1) := rfl
    rw [en] at nx
    refine vc_go hG 60 (B := bX10_unmet) rfl ?_
    refine And.intro (Or.inl ha.1) (Exists.intro 49 (And.intro rfl (And.intro (by rw [ha.2]; decide) ?_)))
    refine And.intro (fun y => by omega) (fun y => ?_)
    refine And.intro (by omega) ?_
    refine And.intro (Or.inl ha.1) (Exists.intro (50 + k) (And.intro (by omega) (And.intro (by rw [ha.2]; omega) ?_)))
    refine m_oddPart hG e1 (by omega) ?_
    refine And.intro rfl ?_
    refine m_isOdds hG ho (by omega) rfl (fun q => ?_) (fun q => ?_)
    · refine And.intro (fun y => absurd y (by decide)) (fun y => ?_)
      obtain ⟨i, i1, i2⟩ := q
      have mt : isMt G (qC G k) := ⟨i, by omega, i2⟩
      rw [if_pos mt] at nx
      refine And.intro (by omega) (And.intro (by omega) ?_)
      exact nx (by omega)
    · refine And.intro (fun y => ?_) (fun y => absurd rfl y)
      have mt : ¬ isMt G (qC G k) := fun z => by
        obtain ⟨i, i1, i2⟩ := z
        exact q i (by omega) i2
      rw [if_neg mt] at nx
      refine And.intro (by omega) (And.intro (by omega) ?_)
      exact nx (by omega)
theorem m_unmet (hG : GOK Γ) {a : Nat} (ha : RwL L a) (hr : RwR M a G) (hw : WFG G) (ho : OdR M (qn G + 1) (qV G) (qD G)) (h : Q (some (VI (nMt G (qm G) : Nat))) (W0 L) M) : wp Γ mX10_unmet 0 [some (VR 187), some (VR a)] [] 0 0 (W0 L) M Q := by
  refine vc_go hG 60 (B := bX10_unmet) rfl ?_
  exact l_unmet hG ha hr hw ho h (qm G) 0 (by omega) (Nat.le_refl _)
theorem y_count (hG : GOK Γ) (hc : MR M S) {w : Int} (h : OutM Q L M (fCount S w)) : wp Γ mX10_count 0 [some (VR 187), some (VI w)] [] 0 0 (W0 L) M Q := by
  have hc0 := hc.th
  have f0 := frM_th M
  unfold fCount at h
  refine vc_go hG 60 (B := bX10_count) rfl ?_
  refine And.intro rfl ?_
  refine m_in hG (fun z => ?_) (fun z => And.intro (fun c => absurd rfl c) (fun c => ?_))
  · refine And.intro (fun c => ?_) (fun c => absurd c (by decide))
    refine And.intro (fun y => ?_) (fun y => ?_)
    · rw [if_neg (by omega), if_neg (by omega), if_neg (by omega)] at h
      refine And.intro (fun y => ?_) (fun y => ?_)
      · rw [if_neg (by omega), if_neg (by omega)] at h
        refine And.intro (fun y => ?_) (fun y => ?_)
        · rw [if_neg (by omega)] at h
          refine And.intro (fun y => ?_) (fun y => ?_)
          · rw [if_neg (by omega), if_pos (by omega)] at h
            exact And.intro rfl (h.go rfl hc0.2.2.2.1.1 hc0 f0)
          · rw [if_pos (by omega)] at h
            exact And.intro rfl (h.go rfl hc0.2.2.1.1 hc0 f0)
        · rw [if_pos (by omega)] at h
          exact And.intro rfl (h.go rfl hc0.2.2.2.2.2.1 hc0 f0)
      · refine And.intro rfl ?_
        refine m_deepest hG hc0 (fun M1 hc1 o1 k1 => ?_)
        have f1 := f0.t k1.m
        refine And.intro (fun y => ?_) (fun y => ?_)
        · rw [if_neg (by omega), if_pos (by omega)] at h
          exact h.go rfl rfl hc1 f1
        · rw [if_pos (by omega)] at h
          refine And.intro rfl (Exists.intro _ (And.intro rfl ?_))
          refine And.intro rfl ?_
          exact m_unmet hG (RwL_s L) hc1.1 hc1.2.1 o1 (h.go rfl rfl hc1 f1)
    · refine And.intro (fun y => ?_) (fun y => ?_)
      · rw [if_neg (by omega)] at h
        refine And.intro (fun y => ?_) (fun y => ?_)
        · rw [if_neg (by omega), if_pos (by omega)] at h
          refine And.intro rfl (Exists.intro _ (And.intro rfl ?_))
          refine And.intro (Or.inl rfl) (Exists.intro (56) (And.intro (by omega) (And.intro (show 56 < 57 by omega) ?_)))
          exact h.go rfl hc0.1.2.2.1 hc0 f0
        · rw [if_pos (by omega)] at h
          refine And.intro rfl (Exists.intro _ (And.intro rfl ?_))
          refine And.intro (Or.inl rfl) (Exists.intro (49) (And.intro (by omega) (And.intro (show 49 < 57 by omega) ?_)))
          exact h.go rfl hc0.1.2.1 hc0 f0
      · rw [if_pos (by omega)] at h
        refine And.intro rfl (Exists.intro _ (And.intro rfl ?_))
        refine And.intro (Or.inl rfl) (Exists.intro (0) (And.intro (by omega) (And.intro (show 0 < 57 by omega) ?_)))
        exact h.go rfl hc0.1.1 hc0 f0
  · rw [if_neg (by omega), if_neg (by omega), if_neg (by omega), if_neg (by omega), if_neg (by omega), if_neg (by omega), if_neg (by omega), if_neg (by omega)] at h
    exact h.go rfl rfl hc0 f0
theorem y_product (hG : GOK Γ) (hc : MR M S) {k x : Int} (h : ∀ M', MR M' S → frM M M' → Q (some (VL (fProd S k x))) (W0 L) M') : wp Γ mX10_product 0 [some (VR 187), some (VI k), some (VI x)] [] 0 0 (W0 L) M Q := by
  have hc0 := hc.th
  have f0 := frM_th M
  have n12 := hc.2.1.1
  have i0 := hc0.1.1
  have bad : ¬ (inB k (qn (sG S)) ∧ -99999 ≤ x ∧ x ≤ 99999) → Q (some (VL 0)) (W0 L) (upM M 187 0 0) := fun z => by
    have := h _ hc0 f0
    unfold fProd at this
    rw [cit_n z] at this
    exact this
  refine vc_go hG 60 (B := bX10_product) rfl ?_
  refine And.intro rfl ?_
  refine And.intro rfl (Exists.intro _ (And.intro rfl ?_))
  refine And.intro (Or.inl rfl) (Exists.intro (0) (And.intro (by omega) (And.intro (show 0 < 57 by omega) ?_)))
  refine m_in hG (fun z1 => ?_) (fun z1 => And.intro (fun c => bad (fun z => z1 (by have := z.1.1; have := z.1.2; omega))) (fun c => absurd rfl c))
  refine And.intro (fun c => absurd c (by decide)) (fun c => ?_)
  refine m_in hG (fun z2 => ?_) (fun z2 => And.intro (fun c => absurd rfl c) (fun c => bad (fun z => z2 z.2)))
  refine And.intro (fun c => ?_) (fun c => absurd c (by decide))
  refine And.intro rfl (Exists.intro _ (And.intro rfl ?_))
  refine And.intro rfl ?_
  refine m_reckons hG (RwL_s L) (by decide) (by decide) hc0.1 hc0.2.1 (fun M1 o1 k1 => ?_)
  have hc1 := hc0.rk k1
  have f1 := f0.t k1.m
  have ok := (o1.2 k.toNat (by omega)).1
  have v1 := WFG_V hc.2.1 k.toNat (by omega)
  refine And.intro rfl (Exists.intro _ (And.intro rfl ?_))
  refine And.intro (Or.inl rfl) (Exists.intro (k.toNat) (And.intro (by omega) (And.intro (show k.toNat < 14 by omega) ?_)))
  have := h _ hc1 f1
  unfold fProd at this
  have z2 : -99999 ≤ x ∧ x ≤ 99999 := z2
  rw [cit_y ⟨⟨z1.1, by omega⟩, z2⟩] at this
  rw [ok]
  refine And.intro ?_ this
  generalize qV (sG S) k.toNat = V at *
  have hv : (0 : Int) ≤ V ∧ (V : Int) ≤ 1023 := by omega
  constructor
  · have : -(1023 * 99999 : Int) ≤ (V : Int) * x := by
      rcases Int.le_total 0 x with q | q
      · have := Int.mul_nonneg hv.1 q
        omega
      · have h1 : (V : Int) * (-x) ≤ 1023 * 99999 := Int.mul_le_mul hv.2 (by omega) (by omega) (by omega)
        have h2 : (V : Int) * (-x) = -((V : Int) * x) := Int.mul_neg _ _
        omega
    omega
  · have : (V : Int) * x ≤ 1023 * 99999 := by
      rcases Int.le_total 0 x with q | q
      · exact Int.mul_le_mul hv.2 (by omega) (by omega) (by omega)
      · have h1 : 0 ≤ (V : Int) * (-x) := Int.mul_nonneg hv.1 (by omega)
        have h2 : (V : Int) * (-x) = -((V : Int) * x) := Int.mul_neg _ _
        omega
    omega
end Mod
