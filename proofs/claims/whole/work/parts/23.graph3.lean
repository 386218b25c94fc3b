/-! ===== the class's Graph: wanted, copies ===== -/
theorem nMt_y {G : GT} {k : Nat} (h : isMt G (qC G k)) : nMt G (k + 1) = nMt G k := by
  show nMt G k + (@ite _ (isMt G (qC G k)) (Classical.propDecidable _) 0 1) = _
  rw [if_pos h]; rfl
theorem nMt_n {G : GT} {k : Nat} (h : ¬ isMt G (qC G k)) : nMt G (k + 1) = nMt G k + 1 := by
  show nMt G k + (@ite _ (isMt G (qC G k)) (Classical.propDecidable _) 0 1) = _
  rw [if_neg h]
theorem nMt_le (G : GT) : ∀ k, nMt G k ≤ k
  | 0 => Nat.le_refl _
  | k + 1 => by
    have := nMt_le G k
    by_cases h : isMt G (qC G k)
    · rw [nMt_y h]; omega
    · rw [nMt_n h]; omega
section Graph
variable {Γ : GG} {w : Wd} {M : MM} {Q : QT} {g : Nat} {G : GT}
theorem l_notMet (hG : GOK Γ) (hg : GrL w g) (hr : GrR M g G) (hw : WFG G) (h : Q (some (VI (nMt G (qm G) : Nat))) w M) : ∀ (j k : Nat), k + j = qm G → wp Γ mX1_notMet 4 [some (VR g), some (VI (nMt G k : Nat)), some (VI k)] [] 0 0 w M Q := by
  have e1 := hr.2.1
  have e3 := hw.2.1
  intro j
  induction j with
  | zero =>
    intro k hk
    have ek : k = qm G := by omega
    subst ek
    refine vc_go hG 40 (B := bX1_notMet) rfl ?_
    refine And.intro hg.k ?_
    refine And.intro (fun a => h) (fun a => by omega)
  | succ j ih =>
    intro k hk
    have e2 := hr.2.2.2.2.2.2 k (by omega)
    have e4 := hw.2.2.2.2.2.2.1 k (by omega)
    have e5 := nMt_le G k
    refine vc_go hG 40 (B := bX1_notMet) rfl ?_
    refine And.intro hg.k ?_
    refine And.intro (fun a => by omega) (fun a => ?_)
    refine And.intro hg.k (Exists.intro _ (And.intro hg.c ?_))
    refine And.intro (Or.inl hg.ck) (Exists.intro k (And.intro rfl (And.intro (by rw [hg.cl]; omega) ?_)))
    refine And.intro hg.k ?_
    refine c_isMet hG hg hr hw e2 e4.2 (fun b => ?_) (fun b => ?_)
    · refine And.intro (fun c => ?_) (fun c => absurd c (by decide))
      refine And.intro (by omega) ?_
      have := ih (k + 1) (by omega)
      rw [nMt_y b] at this
      exact this
    · refine And.intro (fun c => absurd rfl c) (fun c => ?_)
      refine And.intro (by omega) ?_
      refine And.intro (by omega) ?_
      have := ih (k + 1) (by omega)
      rw [nMt_n b] at this
      exact this
theorem c_notMet (hG : GOK Γ) (hg : GrL w g) (hr : GrR M g G) (hw : WFG G) (h : Q (some (VI (nMt G (qm G) : Nat))) w M) : wp Γ mX1_notMet 0 [some (VR g)] [] 0 0 w M Q := by
  refine vc_go hG 40 (B := bX1_notMet) rfl ?_
  exact l_notMet hG hg hr hw h (qm G) 0 (by omega)
theorem l_placeOf (hG : GOK Γ) (hg : GrL w g) (hr : GrR M g G) (hw : WFG G) {c : Nat} (h1 : ∀ k, k < qm G → qC G k = c → Q (some (VI k)) w M) (h0 : (∀ k, k < qm G → qC G k ≠ c) → Q (some (VI (-1))) w M) : ∀ (j k : Nat), k + j = qm G → (∀ i, i < k → qC G i ≠ c) → wp Γ mX1_placeOf 2 [some (VR g), some (VI c), some (VI k)] [] 0 0 w M Q := by
  have e1 := hr.2.1
  have e3 := hw.2.1
  intro j
  induction j with
  | zero =>
    intro k hk hi
    refine vc_go hG 40 (B := bX1_placeOf) rfl ?_
    refine And.intro hg.k ?_
    refine And.intro (fun a => h0 (fun i hi2 => hi i (by omega))) (fun a => by omega)
  | succ j ih =>
    intro k hk hi
    have e2 := hr.2.2.2.2.2.2 k (by omega)
    refine vc_go hG 40 (B := bX1_placeOf) rfl ?_
    refine And.intro hg.k ?_
    refine And.intro (fun a => by omega) (fun a => ?_)
    refine And.intro hg.k (Exists.intro _ (And.intro hg.c ?_))
    refine And.intro (Or.inl hg.ck) (Exists.intro k (And.intro rfl (And.intro (by rw [hg.cl]; omega) ?_)))
    refine And.intro (fun b => ?_) (fun b => h1 k (by omega) (by rw [e2] at b; omega))
    rw [e2] at b
    refine And.intro (by omega) ?_
    refine ih (k + 1) (by omega) (fun i hi2 => ?_)
    by_cases e : i = k
    · subst e; omega
    · exact hi i (by omega)
theorem c_placeOf (hG : GOK Γ) (hg : GrL w g) (hr : GrR M g G) (hw : WFG G) {cI : Int} {c : Nat} (ec : cI = c) (h1 : ∀ k, k < qm G → qC G k = c → Q (some (VI k)) w M) (h0 : (∀ k, k < qm G → qC G k ≠ c) → Q (some (VI (-1))) w M) : wp Γ mX1_placeOf 0 [some (VR g), some (VI cI)] [] 0 0 w M Q := by
  subst ec
  refine vc_go hG 40 (B := bX1_placeOf) rfl ?_
  exact l_placeOf hG hg hr hw h1 h0 (qm G) 0 (by omega) (fun i hi => by omega)
/-- one wanted more; one less -/
def wshG (G : GT) (c : Nat) : GT := (qn G, qP G, qS G, qQ G, qF G, qV G, qD G, qm G + 1, upN (qC G) (qm G) c, qL G)
def drpG (G : GT) (i : Nat) : GT := (qn G, qP G, qS G, qQ G, qF G, qV G, qD G, qm G - 1, fun k => if k < i then qC G k else qC G (k + 1), qL G)
def limG (G : GT) (l : Nat) : GT := (qn G, qP G, qS G, qQ G, qF G, qV G, qD G, qm G, qC G, l)
def tkG (G : GT) : GT := (qn G - 1, qP G, qS G, qQ G, qF G, qV G, qD G, qm G, qC G, qL G)
def empG (G : GT) : GT := (0, qP G, qS G, qQ G, qF G, qV G, qD G, 0, qC G, 6)
theorem wshG_wf {G : GT} (hw : WFG G) {c : Nat} (hm : qm G < 6) (hc : 1 ≤ c ∧ c ≤ 1023) (hn : ∀ k, k < qm G → qC G k ≠ c) : WFG (wshG G c) := by
  obtain ⟨h1, h2, h3, h4, h5, h6, h7, h8⟩ := hw
  refine ⟨h1, hm, h3, h4, h5, h6, fun k hk => ?_, fun i j hi hj e => ?_⟩
  · have hk : k < qm G + 1 := hk
    show 1 ≤ upN (qC G) (qm G) c k ∧ upN (qC G) (qm G) c k ≤ 1023
    unfold upN
    split
    · exact hc
    · exact h7 k (by omega)
  · have hi : i < qm G + 1 := hi
    have hj : j < qm G + 1 := hj
    have e : upN (qC G) (qm G) c i = upN (qC G) (qm G) c j := e
    unfold upN at e
    by_cases a : i = qm G <;> by_cases b : j = qm G
    · omega
    · rw [if_pos a, if_neg b] at e; exact absurd e.symm (hn j (by omega))
    · rw [if_neg a, if_pos b] at e; exact absurd e (hn i (by omega))
    · rw [if_neg a, if_neg b] at e; exact h8 i j (by omega) (by omega) e
theorem drpG_wf {G : GT} (hw : WFG G) {p : Nat} (hp : p < qm G) : WFG (drpG G p) := by
  obtain ⟨h1, h2, h3, h4, h5, h6, h7, h8⟩ := hw
  refine ⟨h1, by show qm G - 1 ≤ 6; omega, h3, h4, h5, h6, fun k hk => ?_, fun i j hi hj e => ?_⟩
  · have hk : k < qm G - 1 := hk
    show 1 ≤ (if k < p then qC G k else qC G (k + 1)) ∧ (if k < p then qC G k else qC G (k + 1)) ≤ 1023
    split
    · exact h7 k (by omega)
    · exact h7 (k + 1) (by omega)
  · have hi : i < qm G - 1 := hi
    have hj : j < qm G - 1 := hj
    have e : (if i < p then qC G i else qC G (i + 1)) = (if j < p then qC G j else qC G (j + 1)) := e
    by_cases a : i < p <;> by_cases b : j < p
    · rw [if_pos a, if_pos b] at e; exact h8 i j (by omega) (by omega) e
    · rw [if_pos a, if_neg b] at e; have := h8 i (j + 1) (by omega) (by omega) e; omega
    · rw [if_neg a, if_pos b] at e; have := h8 (i + 1) j (by omega) (by omega) e; omega
    · rw [if_neg a, if_neg b] at e; have := h8 (i + 1) (j + 1) (by omega) (by omega) e; omega
theorem limG_wf {G : GT} (hw : WFG G) {l : Nat} (hl : 1 ≤ l ∧ l ≤ 9) : WFG (limG G l) := by
  obtain ⟨h1, h2, h3, h4, h5, h6, h7, h8⟩ := hw
  exact ⟨h1, h2, hl, h4, h5, h6, h7, h8⟩
theorem tkG_wf {G : GT} (hw : WFG G) : WFG (tkG G) := by
  obtain ⟨h1, h2, h3, h4, h5, h6, h7, h8⟩ := hw
  exact ⟨by show qn G - 1 ≤ 12; omega, h2, h3, h4, h5, fun k hk => h6 k (by have hk : k < qn G - 1 := hk; omega), h7, h8⟩
theorem empG_wf {G : GT} (hw : WFG G) : WFG (empG G) := by
  obtain ⟨h1, h2, h3, h4, h5, h6, h7, h8⟩ := hw
  exact ⟨by show 0 ≤ 12; decide, by show 0 ≤ 6; decide, by show 1 ≤ 6 ∧ 6 ≤ 9; decide, h4, h5, fun k hk => absurd hk (Nat.not_lt_zero k), fun k hk => absurd hk (Nat.not_lt_zero k), fun i j hi => absurd hi (Nat.not_lt_zero i)⟩
theorem c_wish (hG : GOK Γ) (hg : GrL w g) (hr : GrR M g G) (hw : WFG G) {cI : Int} {c : Nat} (ec : cI = c) (hm : qm G < 6) (h : ∀ M', GrR M' g (wshG G c) → frG M M' g → Q none w M') : wp Γ mX1_wish 0 [some (VR g), some (VI cI)] [] 0 0 w M Q := by
  subst ec
  have e1 := hr.2.1
  refine vc_go hG 40 (B := bX1_wish) rfl ?_
  refine And.intro hg.k ?_
  refine And.intro (fun a => by omega) (fun a => ?_)
  refine And.intro hg.k (Exists.intro _ (And.intro hg.c ?_))
  refine And.intro hg.k ?_
  refine And.intro hg.ck (Exists.intro (qm G) (And.intro e1 (And.intro (by rw [hg.cl]; exact hm) ?_)))
  refine And.intro hg.k ?_
  refine And.intro (by simp [upM]; omega) ?_
  refine And.intro hg.k ?_
  refine h _ ?_ (fun a ha => ?_)
  · obtain ⟨r1, r2, r3, r4, r5, r6, r7⟩ := hr
    refine ⟨by simp [upM]; exact r1, by simp [upM, e1]; rfl, by simp [upM]; exact r3, fun k hk => by simp [upM]; exact r4 k hk, by simp [upM]; exact r5, fun k hk => by simp [upM]; exact r6 k hk, fun k hk => ?_⟩
    have hk : k < qm G + 1 := hk
    show _ = ((upN (qC G) (qm G) c k : Nat) : Int)
    unfold upN
    by_cases e : k = qm G
    · simp [upM, e]
    · rw [if_neg e]
      simp [upM, e]
      exact r7 k (by omega)
  · funext j
    rw [upM_a (by omega), upM_a (by omega)]
theorem l_dropWish (hG : GOK Γ) (hg : GrL w g) {p mm : Nat} (hm : mm < 6) (M0 : MM) (h : ∀ M', (∀ j, M' (g + 9) j = if p ≤ j ∧ j < mm then M0 (g + 9) (j + 1) else M0 (g + 9) j) → (∀ a, a ≠ g + 9 → M' a = M0 a) → Q none w M') : ∀ (j k : Nat) (M : MM), k + j = mm → p ≤ k → M0 g 3 = mm → (∀ i, M (g + 9) i = if p ≤ i ∧ i < k then M0 (g + 9) (i + 1) else M0 (g + 9) i) → (∀ a, a ≠ g + 9 → M a = M0 a) → wp Γ mX1_dropWish 12 [some (VR g), some (VI p), some (VI k)] [] 0 0 w M Q := by
  intro j
  induction j with
  | zero =>
    intro k M hk hp h3 hi hf
    have ek : k = mm := by omega
    subst ek
    have e3 : M g 3 = k := by rw [hf g (by omega)]; exact h3
    refine vc_go hG 40 (B := bX1_dropWish) rfl ?_
    refine And.intro hg.k ?_
    refine And.intro (fun a => h M hi hf) (fun a => by omega)
  | succ j ih =>
    intro k M hk hp h3 hi hf
    have e3 : M g 3 = mm := by rw [hf g (by omega)]; exact h3
    refine vc_go hG 40 (B := bX1_dropWish) rfl ?_
    refine And.intro hg.k ?_
    refine And.intro (fun a => by omega) (fun a => ?_)
    refine And.intro hg.k (Exists.intro _ (And.intro hg.c ?_))
    refine And.intro hg.k (Exists.intro _ (And.intro hg.c ?_))
    refine And.intro (by omega) ?_
    refine And.intro (Or.inl hg.ck) (Exists.intro (k + 1) (And.intro rfl (And.intro (by rw [hg.cl]; omega) ?_)))
    refine And.intro hg.ck (Exists.intro k (And.intro rfl (And.intro (by rw [hg.cl]; omega) ?_)))
    refine And.intro (by omega) ?_
    refine ih (k + 1) _ (by omega) (by omega) h3 (fun i => ?_) (fun a ha => ?_)
    · by_cases e : i = k
      · subst e
        rw [upM_eq, hi, if_neg (by omega), if_pos (by omega)]
      · rw [upM_k e, hi]
        by_cases q : p ≤ i ∧ i < k
        · rw [if_pos q, if_pos (by omega)]
        · rw [if_neg q, if_neg (by omega)]
    · funext i
      rw [upM_a ha, hf a ha]
theorem c_dropWish (hG : GOK Γ) (hg : GrL w g) (hr : GrR M g G) (hw : WFG G) {pI : Int} {p : Nat} (ep : pI = p) (hp : p < qm G) (h : ∀ M', GrR M' g (drpG G p) → frG M M' g → Q none w M') : wp Γ mX1_dropWish 0 [some (VR g), some (VI pI)] [] 0 0 w M Q := by
  subst ep
  have e1 := hr.2.1
  have e2 := hw.2.1
  refine vc_go hG 40 (B := bX1_dropWish) rfl ?_
  refine And.intro hg.k ?_
  refine And.intro (by omega) ?_
  refine And.intro hg.k ?_
  refine l_dropWish hG hg (mm := qm G - 1) (by omega) (upM M g 3 (M g 3 - 1)) (fun M' hc hf => h M' ?_ (fun a ha => ?_)) (qm G - 1 - p) p (upM M g 3 (M g 3 - 1)) (by omega) (Nat.le_refl _) (by rw [upM_eq]; omega) (fun i => by rw [if_neg (by omega)]) (fun a ha => rfl)
  · obtain ⟨r1, r2, r3, r4, r5, r6, r7⟩ := hr
    have f0 : M' g = upM M g 3 (M g 3 - 1) g := hf g (by omega)
    have f2 : M' (g + 2) = M (g + 2) := (hf _ (by omega)).trans (upM_ne (by omega))
    have f3 : M' (g + 3) = M (g + 3) := (hf _ (by omega)).trans (upM_ne (by omega))
    have f4 : M' (g + 4) = M (g + 4) := (hf _ (by omega)).trans (upM_ne (by omega))
    have f5 : M' (g + 5) = M (g + 5) := (hf _ (by omega)).trans (upM_ne (by omega))
    have f6 : M' (g + 6) = M (g + 6) := (hf _ (by omega)).trans (upM_ne (by omega))
    have f7 : M' (g + 7) = M (g + 7) := (hf _ (by omega)).trans (upM_ne (by omega))
    have f8 : M' (g + 8) = M (g + 8) := (hf _ (by omega)).trans (upM_ne (by omega))
    unfold GrR
    rw [f0, f2, f3, f4, f5, f6, f7, f8]
    refine ⟨by rw [upM_k (by decide)]; exact r1, ?_, by rw [upM_k (by decide)]; exact r3, r4, r5, r6, fun k hk => ?_⟩
    · rw [upM_eq]
      show _ = ((qm G - 1 : Nat) : Int)
      omega
    · have hk : k < qm G - 1 := hk
      rw [hc]
      show _ = ((if k < p then qC G k else qC G (k + 1) : Nat) : Int)
      by_cases q : k < p
      · rw [if_neg (by omega), if_pos q, upM_a (by omega)]; exact r7 k (by omega)
      · rw [if_pos (by omega), if_neg q, upM_a (by omega)]; exact r7 (k + 1) (by omega)
  · rw [hf a (by omega), upM_ne (by omega)]
theorem c_empty (hG : GOK Γ) (hg : GrL w g) (hr : GrR M g G) (h : ∀ M', GrR M' g (empG G) → frG M M' g → Q none w M') : wp Γ mX1_empty 0 [some (VR g)] [] 0 0 w M Q := by
  refine vc_go hG 40 (B := bX1_empty) rfl ?_
  refine And.intro hg.k (And.intro hg.k (And.intro hg.k ?_))
  refine h _ ?_ (fun a ha => ?_)
  · obtain ⟨r1, r2, r3, r4, r5, r6, r7⟩ := hr
    refine ⟨by simp [upM, empG], by simp [upM, empG], by simp [upM, empG], fun k hk => ?_, by simp [upM]; exact r5, fun k hk => absurd hk (Nat.not_lt_zero k), fun k hk => absurd hk (Nat.not_lt_zero k)⟩
    have hk : k ≤ 0 := hk
    simp [upM]
    exact r4 k (by omega)
  · funext j
    rw [upM_a (by omega), upM_a (by omega), upM_a (by omega)]
theorem l_copy (hG : GOK Γ) {o : Nat} (hg : GrL w g) (ho : GrL w o) (hd : o + 9 < g ∨ g + 9 < o) (hr : GrR M o G) (hn : qn G ≤ 12) (hm : qm G ≤ 6) (h : ∀ M', GrR M' g G → frG M M' g → Q none w M') : ∀ (j k : Nat) (M1 : MM), k + j = 7 → (∀ i, i < k → ∀ x, x < 13 → M1 (g + 2 + i) x = M (o + 2 + i) x) → (∀ a, a < g + 2 ∨ g + 2 + k ≤ a → M1 a = M a) → wp Γ mX1_copy 2 [some (VR g), some (VR o), some (VI k)] [] 0 0 w M1 Q := by
  intro j
  induction j with
  | zero =>
    intro k M1 hk hc hf
    have ek : k = 7 := by omega
    subst ek
    refine vc_go hG 60 (B := bX1_copy) rfl ?_
    refine And.intro (fun a => ?_) (fun a => by omega)
    refine And.intro ho.k (Exists.intro _ (And.intro ho.c ?_))
    refine And.intro hg.k (Exists.intro _ (And.intro hg.c ?_))
    refine And.intro ⟨ho.ck, hg.ck⟩ (And.intro ⟨rfl, rfl, by omega, by rw [ho.cl]; decide, by rw [hg.cl]; decide⟩ ?_)
    refine And.intro ho.k (And.intro hg.k ?_)
    refine And.intro ho.k (And.intro hg.k ?_)
    refine And.intro ho.k (And.intro hg.k ?_)
    obtain ⟨r1, r2, r3, r4, ⟨s4, s5, s6, s7, s8⟩, r6, r7⟩ := hr
    have c0 := hc 0 (by omega)
    have c1 := hc 1 (by omega)
    have c2 := hc 2 (by omega)
    have c3 := hc 3 (by omega)
    have c4 := hc 4 (by omega)
    have c5 := hc 5 (by omega)
    have c6 := hc 6 (by omega)
    have fo : M1 o = M o := hf o (by omega)
    have fc : M1 (o + 9) = M (o + 9) := hf (o + 9) (by omega)
    have n1 : o ≠ g := by omega
    have n2 : o ≠ g + 9 := by omega
    have n3 : ∀ i, i < 7 → g + 2 + i ≠ g + 9 ∧ g + 2 + i ≠ g := fun i hi => by omega
    refine h _ ⟨?_, ?_, ?_, fun k hk => ⟨?_, ?_⟩, ⟨?_, ?_, ?_, ?_, ?_⟩, fun k hk => ⟨?_, ?_, ?_, ?_, ?_⟩, fun k hk => ?_⟩ (fun a ha => ?_)
    · simp [upM, cpM, n1, n2, fo]; exact r1
    · simp [upM, cpM, n1, n2, fo]; exact r2
    · simp [upM, cpM, n1, n2, fo]; exact r3
    · simp [upM, cpM]; rw [c0 k (by omega)]; exact (r4 k hk).1
    · simp [upM, cpM]; rw [c1 k (by omega)]; exact (r4 k hk).2
    · simp [upM, cpM]; rw [c2 0 (by omega)]; exact s4
    · simp [upM, cpM]; rw [c3 0 (by omega)]; exact s5
    · simp [upM, cpM]; rw [c4 0 (by omega)]; exact s6
    · simp [upM, cpM]; rw [c5 0 (by omega)]; exact s7
    · simp [upM, cpM]; rw [c6 0 (by omega)]; exact s8
    · simp [upM, cpM]; rw [c2 (k + 1) (by omega)]; exact (r6 k hk).1
    · simp [upM, cpM]; rw [c3 (k + 1) (by omega)]; exact (r6 k hk).2.1
    · simp [upM, cpM]; rw [c4 (k + 1) (by omega)]; exact (r6 k hk).2.2.1
    · simp [upM, cpM]; rw [c5 (k + 1) (by omega)]; exact (r6 k hk).2.2.2.1
    · simp [upM, cpM]; rw [c6 (k + 1) (by omega)]; exact (r6 k hk).2.2.2.2
    · simp [upM, cpM, show k < 6 by omega, fc]; exact r7 k hk
    · funext x
      rw [upM_a (by omega), upM_a (by omega), upM_a (by omega), cpM_ne (by omega), hf a (by omega)]
  | succ j ih =>
    intro k M1 hk hc hf
    refine vc_go hG 60 (B := bX1_copy) rfl ?_
    refine And.intro (fun a => by omega) (fun a => ?_)
    refine And.intro ho.k (Exists.intro _ (And.intro ho.o ?_))
    refine And.intro (Or.inl ho.ok) (Exists.intro k (And.intro rfl (And.intro (by rw [ho.ol]; omega) (Exists.intro _ (And.intro (ho.r k (by omega)) ?_)))))
    refine And.intro hg.k (Exists.intro _ (And.intro hg.o ?_))
    refine And.intro (Or.inl hg.ok) (Exists.intro k (And.intro rfl (And.intro (by rw [hg.ol]; omega) (Exists.intro _ (And.intro (hg.r k (by omega)) ?_)))))
    refine And.intro ⟨ho.rk k (by omega), hg.rk k (by omega)⟩ (And.intro ⟨rfl, rfl, by omega, by rw [ho.rl k (by omega)]; decide, by rw [hg.rl k (by omega)]; decide⟩ ?_)
    refine And.intro (by omega) ?_
    refine ih (k + 1) _ (by omega) (fun i hi x hx => ?_) (fun a ha => ?_)
    · by_cases e : i = k
      · subst e
        unfold cpM
        rw [if_pos ⟨rfl, hx⟩, hf (o + 2 + i) (by omega)]
      · rw [cpM_ne (by omega)]
        exact hc i (by omega) x hx
    · rw [cpM_ne (by omega)]
      exact hf a (by omega)
theorem c_copy (hG : GOK Γ) {o : Nat} (hg : GrL w g) (ho : GrL w o) (hd : o + 9 < g ∨ g + 9 < o) (hr : GrR M o G) (hw : WFG G) (h : ∀ M', GrR M' g G → frG M M' g → Q none w M') : wp Γ mX1_copy 0 [some (VR g), some (VR o)] [] 0 0 w M Q := by
  refine vc_go hG 40 (B := bX1_copy) rfl ?_
  exact l_copy hG hg ho hd hr hw.1 hw.2.1 h 7 0 M rfl (fun i hi => by omega) (fun a ha => rfl)
end Graph
