/-! ===== the model: rows ===== -/
def mayV (V D : Nat → Nat) (lim p s q f : Nat) : Prop := 1 ≤ cms (V p) s (V q) f ∧ cms (V p) s (V q) f ≤ 1023 ∧ max (D p) (D q) + 1 ≤ lim
theorem RwR.cp {M M' : MM} {a b : Nat} {G : GT} (h : RwR M a G) (hw : WFG G) (hc : ∀ i, i < 57 → M' b i = M a i) : RwR M' b G := by
  have n12 := hw.1
  have m6 := hw.2.1
  obtain ⟨r1, r2, r3, r4, r5⟩ := h
  refine ⟨by rw [hc 0 (by decide)]; exact r1, by rw [hc 49 (by decide)]; exact r2, by rw [hc 56 (by decide)]; exact r3, fun k hk => ?_, fun k hk => by rw [hc _ (by omega)]; exact r5 k hk⟩
  rw [hc _ (by omega), hc _ (by omega), hc _ (by omega), hc _ (by omega)]
  exact r4 k hk
section Mod
variable {Γ : GG} {L : Nat} {M : MM} {Q : QT} {G : GT}
theorem m_mayBeB (hG : GOK Γ) {m : Nat} {V D : Nat → Nat} (ho : ∀ k, k < m → M 197 k = V k ∧ M 198 k = D k) (hV : ∀ k, k < m → V k ≤ 1023) (hD : ∀ k, k < m → D k ≤ 13) (hm : m ≤ 14) {pI sI qI fI lI : Int} {p s q f l : Nat} (ep : pI = p) (es : sI = s) (eq : qI = q) (ef : fI = f) (el : lI = l) (hp : p < m) (hs : s ≤ 9) (hq : q < m) (hf : f ≤ 3) (h1 : mayV V D l p s q f → Q (some (VI 1)) (W0 L) M) (h0 : ¬ mayV V D l p s q f → Q (some (VI 0)) (W0 L) M) : wp Γ mX10_mayBe 0 [some (VR 187), some (VI pI), some (VI sI), some (VI qI), some (VI fI), some (VI lI)] [] 0 0 (W0 L) M Q := by
  subst ep es eq ef el
  have e1 := (ho p hp).1
  have e2 := (ho q hq).1
  refine vc_go hG 60 (B := bX10_mayBe) rfl ?_
  refine And.intro rfl (Exists.intro _ (And.intro rfl ?_))
  refine And.intro (Or.inl rfl) (Exists.intro p (And.intro rfl (And.intro (show p < 14 by omega) ?_)))
  refine And.intro rfl (Exists.intro _ (And.intro rfl ?_))
  refine And.intro (Or.inl rfl) (Exists.intro q (And.intro rfl (And.intro (show q < 14 by omega) ?_)))
  refine m_comes hG e1 rfl e2 rfl (hV p hp) hs (hV q hq) hf ?_
  refine m_in hG (fun z => ?_) (fun z => And.intro (fun c => And.intro (Or.inl rfl) (h0 (fun x => by have := x.1; have := x.2.1; omega))) (fun c => absurd rfl c))
  refine And.intro (fun c => absurd c (by decide)) (fun c => ?_)
  refine And.intro rfl ?_
  refine m_deeperB hG ho hD rfl rfl hm hp hq ?_
  refine And.intro (fun c => And.intro (Or.inl rfl) (h0 (fun x => by have := x.2.2; omega))) (fun c => And.intro (Or.inr rfl) (h1 ⟨by omega, by omega, by omega⟩))
theorem m_mayBe (hG : GOK Γ) {m : Nat} {V D : Nat → Nat} (ho : OdR M m V D) (hV : ∀ k, k < m → V k ≤ 1023) (hD : ∀ k, k < m → D k ≤ 13) (hm : m ≤ 14) {pI sI qI fI lI : Int} {p s q f l : Nat} (ep : pI = p) (es : sI = s) (eq : qI = q) (ef : fI = f) (el : lI = l) (hp : p < m) (hs : s ≤ 9) (hq : q < m) (hf : f ≤ 3) (h1 : mayV V D l p s q f → Q (some (VI 1)) (W0 L) M) (h0 : ¬ mayV V D l p s q f → Q (some (VI 0)) (W0 L) M) : wp Γ mX10_mayBe 0 [some (VR 187), some (VI pI), some (VI sI), some (VI qI), some (VI fI), some (VI lI)] [] 0 0 (W0 L) M Q := m_mayBeB hG ho.2 hV hD hm ep es eq ef el hp hs hq hf h1 h0
theorem m_makes (hG : GOK Γ) {a : Nat} (ha : RwL L a) (hr : RwR M a G) (hw : WFG G) (hn : qn G < 12) {pI sI qI fI : Int} {p s q f : Nat} (ep : pI = p) (es : sI = s) (eq : qI = q) (ef : fI = f) (h : ∀ M', RwR M' a (addG G p s q f) → (∀ b, b ≠ a → M' b = M b) → Q none (W0 L) M') : wp Γ mX10_makes 0 [some (VR a), some (VI pI), some (VI sI), some (VI qI), some (VI fI)] [] 0 0 (W0 L) M Q := by
  subst ep es eq ef
  obtain ⟨r1, r2, r3, r4, r5⟩ := hr
  have m6 := hw.2.1
  refine vc_go hG 60 (B := bX10_makes) rfl ?_
  refine And.intro (Or.inl ha.1) (Exists.intro 0 (And.intro rfl (And.intro (by rw [ha.2]; decide) ?_)))
  refine And.intro (by omega) ?_
  refine And.intro ha.1 (Exists.intro (1 + qn G) (And.intro (by omega) (And.intro (by rw [ha.2]; omega) ?_)))
  refine And.intro (by omega) ?_
  refine And.intro ha.1 (Exists.intro (13 + qn G) (And.intro (by omega) (And.intro (by rw [ha.2]; omega) ?_)))
  refine And.intro (by omega) ?_
  refine And.intro ha.1 (Exists.intro (25 + qn G) (And.intro (by omega) (And.intro (by rw [ha.2]; omega) ?_)))
  refine And.intro (by omega) ?_
  refine And.intro ha.1 (Exists.intro (37 + qn G) (And.intro (by omega) (And.intro (by rw [ha.2]; omega) ?_)))
  refine And.intro (Or.inl ha.1) (Exists.intro 0 (And.intro rfl (And.intro (by rw [ha.2]; decide) ?_)))
  have e0 : upM (upM (upM (upM M a (1 + qn G) (p : Int)) a (13 + qn G) (s : Int)) a (25 + qn G) (q : Int)) a (37 + qn G) (f : Int) a 0 = qn G := by
    rw [upM_k (by omega), upM_k (by omega), upM_k (by omega), upM_k (by omega)]; exact r1
  rw [e0]
  refine And.intro (by omega) ?_
  refine And.intro ha.1 (Exists.intro 0 (And.intro rfl (And.intro (by rw [ha.2]; decide) ?_)))
  refine h _ ⟨by rw [upM_eq]; rfl, ?_, ?_, fun k hk => ?_, fun k hk => ?_⟩ (fun b hb => by rw [upM_ne hb, upM_ne hb, upM_ne hb, upM_ne hb, upM_ne hb])
  · rw [upM_k (by omega), upM_k (by omega), upM_k (by omega), upM_k (by omega), upM_k (by omega)]; exact r2
  · rw [upM_k (by omega), upM_k (by omega), upM_k (by omega), upM_k (by omega), upM_k (by omega)]; exact r3
  · have hk : k < qn G + 1 := hk
    by_cases z : k = qn G
    · subst z
      refine ⟨?_, ?_, ?_, ?_⟩
      · rw [upM_k (by omega), upM_k (by omega), upM_k (by omega), upM_k (by omega), upM_eq]
        show _ = ((upN _ _ _ _ : Nat) : Int)
        rw [upN_eq]
      · rw [upM_k (by omega), upM_k (by omega), upM_k (by omega), upM_eq]
        show _ = ((upN _ _ _ _ : Nat) : Int)
        rw [upN_eq]
      · rw [upM_k (by omega), upM_k (by omega), upM_eq]
        show _ = ((upN _ _ _ _ : Nat) : Int)
        rw [upN_eq]
      · rw [upM_k (by omega), upM_eq]
        show _ = ((upN _ _ _ _ : Nat) : Int)
        rw [upN_eq]
    · obtain ⟨z1, z2, z3, z4⟩ := r4 k (by omega)
      refine ⟨?_, ?_, ?_, ?_⟩
      · rw [upM_k (by omega), upM_k (by omega), upM_k (by omega), upM_k (by omega), upM_k (by omega)]
        show _ = ((upN _ _ _ _ : Nat) : Int)
        rw [upN_ne z]; exact z1
      · rw [upM_k (by omega), upM_k (by omega), upM_k (by omega), upM_k (by omega), upM_k (by omega)]
        show _ = ((upN _ _ _ _ : Nat) : Int)
        rw [upN_ne z]; exact z2
      · rw [upM_k (by omega), upM_k (by omega), upM_k (by omega), upM_k (by omega), upM_k (by omega)]
        show _ = ((upN _ _ _ _ : Nat) : Int)
        rw [upN_ne z]; exact z3
      · rw [upM_k (by omega), upM_k (by omega), upM_k (by omega), upM_k (by omega), upM_k (by omega)]
        show _ = ((upN _ _ _ _ : Nat) : Int)
        rw [upN_ne z]; exact z4
  · rw [upM_k (by omega), upM_k (by omega), upM_k (by omega), upM_k (by omega), upM_k (by omega)]; exact r5 k hk
theorem l_isOdds (hG : GOK Γ) {m : Nat} {V D : Nat → Nat} (ho : OdR M m V D) (hm : m ≤ 14) {v : Nat} (h1 : (∃ k, k < m ∧ V k = v) → Q (some (VI 1)) (W0 L) M) (h0 : (∀ k, k < m → V k ≠ v) → Q (some (VI 0)) (W0 L) M) : ∀ (j k : Nat) (z : Int), k + j = m → ((z = 1 ∧ ∃ i, i < k ∧ V i = v) ∨ (z = 0 ∧ ∀ i, i < k → V i ≠ v)) → wp Γ mX10_isOdds 4 [some (VR 187), some (VI v), some (VI z), some (VI k)] [] 0 0 (W0 L) M Q := by
  have e0 := ho.1
  intro j
  induction j with
  | zero =>
    intro k z hk hz
    have e : k = m := by omega
    subst e
    refine vc_go hG 60 (B := bX10_isOdds) rfl ?_
    refine And.intro rfl (And.intro (fun y => ?_) (fun y => by omega))
    rcases hz with ⟨rfl, hz⟩ | ⟨rfl, hz⟩
    · exact And.intro (Or.inr rfl) (h1 hz)
    · exact And.intro (Or.inl rfl) (h0 hz)
  | succ j ih =>
    intro k z hk hz
    have e1 := (ho.2 k (by omega)).1
    refine vc_go hG 60 (B := bX10_isOdds) rfl ?_
    refine And.intro rfl (And.intro (fun y => by omega) (fun y => ?_))
    refine And.intro (fun y2 => ?_) (fun y2 => ?_)
    · refine And.intro (by omega) ?_
      refine ih (k + 1) 1 (by omega) (Or.inl ⟨rfl, ?_⟩)
      rcases hz with ⟨-, i, h1, h2⟩ | ⟨e, -⟩
      · exact ⟨i, by omega, h2⟩
      · exact absurd e y2
    · have no : ∀ i, i < k → V i ≠ v := by
        rcases hz with ⟨e, -⟩ | ⟨-, hz⟩
        · omega
        · exact hz
      refine And.intro rfl (Exists.intro _ (And.intro rfl ?_))
      refine And.intro (Or.inl rfl) (Exists.intro k (And.intro rfl (And.intro (show k < 14 by omega) ?_)))
      refine And.intro (fun y3 => ?_) (fun y3 => ?_)
      · refine And.intro (by omega) ?_
        refine ih (k + 1) 0 (by omega) (Or.inr ⟨rfl, fun i hi => ?_⟩)
        by_cases q : i = k
        · subst q; omega
        · exact no i (by omega)
      · refine And.intro (by omega) ?_
        exact ih (k + 1) 1 (by omega) (Or.inl ⟨rfl, k, by omega, by omega⟩)
theorem m_isOdds (hG : GOK Γ) {m : Nat} {V D : Nat → Nat} (ho : OdR M m V D) (hm : m ≤ 14) {vI : Int} {v : Nat} (ev : vI = v) (h1 : (∃ k, k < m ∧ V k = v) → Q (some (VI 1)) (W0 L) M) (h0 : (∀ k, k < m → V k ≠ v) → Q (some (VI 0)) (W0 L) M) : wp Γ mX10_isOdds 0 [some (VR 187), some (VI vI)] [] 0 0 (W0 L) M Q := by
  subst ev
  refine vc_go hG 60 (B := bX10_isOdds) rfl ?_
  exact l_isOdds hG ho hm h1 h0 m 0 0 (by omega) (Or.inr ⟨rfl, fun i hi => by omega⟩)
theorem l_begins (hG : GOK Γ) (h : ∀ M', RwR M' 189 E6 → (∀ b, b ≠ 189 → M' b = M b) → Q none (W0 L) M') : ∀ (j k : Nat) (M1 : MM), k + j = 57 → (∀ i, i < k → M1 189 i = 0) → (∀ b, b ≠ 189 → M1 b = M b) → wp Γ mX10_begins 2 [some (VR 187), some (VI k)] [] 0 0 (W0 L) M1 Q := by
  intro j
  induction j with
  | zero =>
    intro k M1 hk hz hf
    have e : k = 57 := by omega
    subst e
    refine vc_go hG 60 (B := bX10_begins) rfl ?_
    refine And.intro (fun y => ?_) (fun y => by omega)
    refine And.intro rfl (Exists.intro _ (And.intro rfl ?_))
    refine And.intro rfl (Exists.intro 56 (And.intro rfl (And.intro (show 56 < 57 by decide) ?_)))
    refine h _ ⟨?_, ?_, upM_eq, fun k hk => absurd hk (Nat.not_lt_zero k), fun k hk => absurd hk (Nat.not_lt_zero k)⟩ (fun b hb => by rw [upM_ne hb]; exact hf b hb)
    · rw [upM_k (by decide)]; exact hz 0 (by decide)
    · rw [upM_k (by decide)]; exact hz 49 (by decide)
  | succ j ih =>
    intro k M1 hk hz hf
    refine vc_go hG 60 (B := bX10_begins) rfl ?_
    refine And.intro (fun y => by omega) (fun y => ?_)
    refine And.intro rfl (Exists.intro _ (And.intro rfl ?_))
    refine And.intro rfl (Exists.intro k (And.intro rfl (And.intro (show k < 57 by omega) ?_)))
    refine And.intro (by omega) ?_
    refine ih (k + 1) _ (by omega) (fun i hi => ?_) (fun b hb => by rw [upM_ne hb]; exact hf b hb)
    by_cases q : i = k
    · subst q; exact upM_eq
    · rw [upM_k q]; exact hz i (by omega)
theorem m_begins (hG : GOK Γ) (h : ∀ M', RwR M' 189 E6 → (∀ b, b ≠ 189 → M' b = M b) → Q none (W0 L) M') : wp Γ mX10_begins 0 [some (VR 187)] [] 0 0 (W0 L) M Q := by
  refine vc_go hG 60 (B := bX10_begins) rfl ?_
  exact l_begins hG h 57 0 M rfl (fun i hi => by omega) (fun b _ => rfl)
theorem l_copies (hG : GOK Γ) {a c : Nat} (ha : RwL L a) (hc : RwL L c) (hd : a ≠ c) (h : ∀ M', (∀ i, i < 57 → M' c i = M a i) → (∀ b, b ≠ c → M' b = M b) → Q none (W0 L) M') : ∀ (j k : Nat) (M1 : MM), k + j = 57 → (∀ i, i < k → M1 c i = M a i) → (∀ b, b ≠ c → M1 b = M b) → wp Γ mX10_copies 2 [some (VR a), some (VR c), some (VI k)] [] 0 0 (W0 L) M1 Q := by
  intro j
  induction j with
  | zero =>
    intro k M1 hk hz hf
    have e : k = 57 := by omega
    subst e
    refine vc_go hG 60 (B := bX10_copies) rfl ?_
    exact And.intro (fun y => h M1 hz hf) (fun y => by omega)
  | succ j ih =>
    intro k M1 hk hz hf
    refine vc_go hG 60 (B := bX10_copies) rfl ?_
    refine And.intro (fun y => by omega) (fun y => ?_)
    refine And.intro (Or.inl ha.1) (Exists.intro k (And.intro rfl (And.intro (by rw [ha.2]; omega) ?_)))
    refine And.intro hc.1 (Exists.intro k (And.intro rfl (And.intro (by rw [hc.2]; omega) ?_)))
    refine And.intro (by omega) ?_
    refine ih (k + 1) _ (by omega) (fun i hi => ?_) (fun b hb => by rw [upM_ne hb]; exact hf b hb)
    by_cases q : i = k
    · subst q; rw [upM_eq, hf a hd]
    · rw [upM_k q]; exact hz i (by omega)
theorem m_copies (hG : GOK Γ) {a c : Nat} (ha : RwL L a) (hc : RwL L c) (hd : a ≠ c) (h : ∀ M', (∀ i, i < 57 → M' c i = M a i) → (∀ b, b ≠ c → M' b = M b) → Q none (W0 L) M') : wp Γ mX10_copies 0 [some (VR a), some (VR c)] [] 0 0 (W0 L) M Q := by
  refine vc_go hG 60 (B := bX10_copies) rfl ?_
  exact l_copies hG ha hc hd h 57 0 M rfl (fun i hi => by omega) (fun b _ => rfl)
end Mod
