/-! ===== the class's Graph ===== -/
/-- a graph, as mathematics: adders n, their p, s, q, form, the values and depths of ODDS, how many are wanted, which, the limit -/
abbrev GT : Type := Nat × (Nat → Nat) × (Nat → Nat) × (Nat → Nat) × (Nat → Nat) × (Nat → Nat) × (Nat → Nat) × Nat × (Nat → Nat) × Nat
abbrev qn (G : GT) : Nat := G.1
abbrev qP (G : GT) : Nat → Nat := G.2.1
abbrev qS (G : GT) : Nat → Nat := G.2.2.1
abbrev qQ (G : GT) : Nat → Nat := G.2.2.2.1
abbrev qF (G : GT) : Nat → Nat := G.2.2.2.2.1
abbrev qV (G : GT) : Nat → Nat := G.2.2.2.2.2.1
abbrev qD (G : GT) : Nat → Nat := G.2.2.2.2.2.2.1
abbrev qm (G : GT) : Nat := G.2.2.2.2.2.2.2.1
abbrev qC (G : GT) : Nat → Nat := G.2.2.2.2.2.2.2.2.1
abbrev qL (G : GT) : Nat := G.2.2.2.2.2.2.2.2.2
/-- what comes of adder k -/
abbrev qX (G : GT) (k : Nat) : Nat := cms (qV G (qP G k)) (qS G k) (qV G (qQ G k)) (qF G k)
def WFG (G : GT) : Prop := qn G ≤ 12 ∧ qm G ≤ 6 ∧ (1 ≤ qL G ∧ qL G ≤ 9) ∧ qV G 0 = 1 ∧ qD G 0 = 0 ∧
  (∀ k, k < qn G → qP G k ≤ k ∧ qQ G k ≤ k ∧ qS G k ≤ 9 ∧ qF G k ≤ 3 ∧ 1 ≤ qX G k ∧ qX G k ≤ 1023 ∧ qV G (k + 1) = odp (qX G k) ∧ qD G (k + 1) = max (qD G (qP G k)) (qD G (qQ G k)) + 1) ∧
  (∀ k, k < qm G → 1 ≤ qC G k ∧ qC G k ≤ 1023) ∧ ∀ i j, i < qm G → j < qm G → qC G i = qC G j → i = j
theorem WFG_V {G : GT} (h : WFG G) : ∀ k, k ≤ qn G → 1 ≤ qV G k ∧ qV G k ≤ 1023 ∧ qV G k % 2 = 1 := by
  obtain ⟨h1, h2, h3, h4, h5, h6, -⟩ := h
  intro k hk
  cases k with
  | zero => rw [h4]; decide
  | succ k =>
    obtain ⟨-, -, -, -, a1, a2, a3, -⟩ := h6 k hk
    have b1 := odp_le (qX G k)
    have b2 := odp_pos (n := qX G k) (by omega)
    have b3 := odp_odd (n := qX G k) (by omega) (by omega)
    rw [a3]
    omega
theorem WFG_D {G : GT} (h : WFG G) : ∀ k, k ≤ qn G → qD G k ≤ k := by
  obtain ⟨h1, h2, h3, h4, h5, h6, -⟩ := h
  intro k
  induction k using Nat.strongRecOn with
  | ind k ih =>
    intro hk
    cases k with
    | zero => rw [h5]; exact Nat.le_refl _
    | succ k =>
      obtain ⟨a1, a2, -, -, -, -, -, a4⟩ := h6 k hk
      have b1 := ih (qP G k) (by omega) (by omega)
      have b2 := ih (qQ G k) (by omega) (by omega)
      rw [a4]
      omega
/-- a graph's cells: the object, the array of rows, seven rows, the constants -/
def GrL (w : Wd) (g : Nat) : Prop := w.1 g = 5 ∧ w.2.2.1 g 0 = some (g + 1) ∧ w.2.2.1 g 1 = some (g + 9) ∧ w.1 (g + 1) = 2 ∧ w.2.1 (g + 1) = 7 ∧ (∀ j, j < 7 → w.2.2.1 (g + 1) j = some (g + 2 + j) ∧ w.1 (g + 2 + j) = 0 ∧ w.2.1 (g + 2 + j) = 13) ∧ w.1 (g + 9) = 0 ∧ w.2.1 (g + 9) = 6
theorem GrL.k {w : Wd} {g : Nat} (h : GrL w g) : w.1 g = 5 := h.1
theorem GrL.o {w : Wd} {g : Nat} (h : GrL w g) : w.2.2.1 g 0 = some (g + 1) := h.2.1
theorem GrL.c {w : Wd} {g : Nat} (h : GrL w g) : w.2.2.1 g 1 = some (g + 9) := h.2.2.1
theorem GrL.ok {w : Wd} {g : Nat} (h : GrL w g) : w.1 (g + 1) = 2 := h.2.2.2.1
theorem GrL.ol {w : Wd} {g : Nat} (h : GrL w g) : w.2.1 (g + 1) = 7 := h.2.2.2.2.1
theorem GrL.r {w : Wd} {g : Nat} (h : GrL w g) (j : Nat) (hj : j < 7) : w.2.2.1 (g + 1) j = some (g + 2 + j) := (h.2.2.2.2.2.1 j hj).1
theorem GrL.rk {w : Wd} {g : Nat} (h : GrL w g) (j : Nat) (hj : j < 7) : w.1 (g + 2 + j) = 0 := (h.2.2.2.2.2.1 j hj).2.1
theorem GrL.rl {w : Wd} {g : Nat} (h : GrL w g) (j : Nat) (hj : j < 7) : w.2.1 (g + 2 + j) = 13 := (h.2.2.2.2.2.1 j hj).2.2
theorem GrL.r0 {w : Wd} {g : Nat} (h : GrL w g) : w.2.2.1 (g + 1) 0 = some (g + 2) := h.r 0 (by decide)
theorem GrL.k0 {w : Wd} {g : Nat} (h : GrL w g) : w.1 (g + 2) = 0 := h.rk 0 (by decide)
theorem GrL.l0 {w : Wd} {g : Nat} (h : GrL w g) : w.2.1 (g + 2) = 13 := h.rl 0 (by decide)
theorem GrL.r1 {w : Wd} {g : Nat} (h : GrL w g) : w.2.2.1 (g + 1) 1 = some (g + 3) := h.r 1 (by decide)
theorem GrL.k1 {w : Wd} {g : Nat} (h : GrL w g) : w.1 (g + 3) = 0 := h.rk 1 (by decide)
theorem GrL.l1 {w : Wd} {g : Nat} (h : GrL w g) : w.2.1 (g + 3) = 13 := h.rl 1 (by decide)
theorem GrL.r2 {w : Wd} {g : Nat} (h : GrL w g) : w.2.2.1 (g + 1) 2 = some (g + 4) := h.r 2 (by decide)
theorem GrL.k2 {w : Wd} {g : Nat} (h : GrL w g) : w.1 (g + 4) = 0 := h.rk 2 (by decide)
theorem GrL.l2 {w : Wd} {g : Nat} (h : GrL w g) : w.2.1 (g + 4) = 13 := h.rl 2 (by decide)
theorem GrL.r3 {w : Wd} {g : Nat} (h : GrL w g) : w.2.2.1 (g + 1) 3 = some (g + 5) := h.r 3 (by decide)
theorem GrL.k3 {w : Wd} {g : Nat} (h : GrL w g) : w.1 (g + 5) = 0 := h.rk 3 (by decide)
theorem GrL.l3 {w : Wd} {g : Nat} (h : GrL w g) : w.2.1 (g + 5) = 13 := h.rl 3 (by decide)
theorem GrL.r4 {w : Wd} {g : Nat} (h : GrL w g) : w.2.2.1 (g + 1) 4 = some (g + 6) := h.r 4 (by decide)
theorem GrL.k4 {w : Wd} {g : Nat} (h : GrL w g) : w.1 (g + 6) = 0 := h.rk 4 (by decide)
theorem GrL.l4 {w : Wd} {g : Nat} (h : GrL w g) : w.2.1 (g + 6) = 13 := h.rl 4 (by decide)
theorem GrL.r5 {w : Wd} {g : Nat} (h : GrL w g) : w.2.2.1 (g + 1) 5 = some (g + 7) := h.r 5 (by decide)
theorem GrL.k5 {w : Wd} {g : Nat} (h : GrL w g) : w.1 (g + 7) = 0 := h.rk 5 (by decide)
theorem GrL.l5 {w : Wd} {g : Nat} (h : GrL w g) : w.2.1 (g + 7) = 13 := h.rl 5 (by decide)
theorem GrL.r6 {w : Wd} {g : Nat} (h : GrL w g) : w.2.2.1 (g + 1) 6 = some (g + 8) := h.r 6 (by decide)
theorem GrL.k6 {w : Wd} {g : Nat} (h : GrL w g) : w.1 (g + 8) = 0 := h.rk 6 (by decide)
theorem GrL.l6 {w : Wd} {g : Nat} (h : GrL w g) : w.2.1 (g + 8) = 13 := h.rl 6 (by decide)
theorem GrL.ck {w : Wd} {g : Nat} (h : GrL w g) : w.1 (g + 9) = 0 := h.2.2.2.2.2.2.1
theorem GrL.cl {w : Wd} {g : Nat} (h : GrL w g) : w.2.1 (g + 9) = 6 := h.2.2.2.2.2.2.2
def GrR (M : MM) (g : Nat) (G : GT) : Prop := M g 2 = qn G ∧ M g 3 = qm G ∧ M g 4 = qL G ∧ (∀ k, k ≤ qn G → M (g + 2) k = qV G k ∧ M (g + 3) k = qD G k) ∧ (M (g + 4) 0 = -9 ∧ M (g + 5) 0 = -9 ∧ M (g + 6) 0 = -9 ∧ M (g + 7) 0 = -9 ∧ M (g + 8) 0 = 0) ∧
  (∀ k, k < qn G → M (g + 4) (k + 1) = qP G k ∧ M (g + 5) (k + 1) = qQ G k ∧ M (g + 6) (k + 1) = qS G k ∧ M (g + 7) (k + 1) = qF G k ∧ M (g + 8) (k + 1) = hv (qX G k)) ∧ ∀ k, k < qm G → M (g + 9) k = qC G k
/-- nothing but a graph's ten cells has changed -/
def frG (M M' : MM) (g : Nat) : Prop := ∀ a, a < g ∨ g + 9 < a → M' a = M a
theorem GrR.keep {M M' : MM} {g : Nat} {G : GT} (h : GrR M g G) (hf : ∀ a, g ≤ a → a ≤ g + 9 → M' a = M a) : GrR M' g G := by
  unfold GrR
  rw [hf g (by omega) (by omega), hf (g + 2) (by omega) (by omega), hf (g + 3) (by omega) (by omega), hf (g + 4) (by omega) (by omega), hf (g + 5) (by omega) (by omega), hf (g + 6) (by omega) (by omega), hf (g + 7) (by omega) (by omega), hf (g + 8) (by omega) (by omega), hf (g + 9) (by omega) (by omega)]
  exact h
section Graph
variable {Γ : GG} {w : Wd} {M : MM} {Q : QT} {g : Nat} {G : GT}
theorem c_isThere (hG : GOK Γ) (hg : GrL w g) (hr : GrR M g G) {k : Int} (h1 : 0 ≤ k ∧ k ≤ qn G → Q (some (VI 1)) w M) (h0 : ¬ (0 ≤ k ∧ k ≤ qn G) → Q (some (VI 0)) w M) : wp Γ mX1_isThere 0 [some (VR g), some (VI k)] [] 0 0 w M Q := by
  have e := hr.1
  refine vc_go hG 40 (B := bX1_isThere) rfl ?_
  refine And.intro (fun a => And.intro (Or.inl rfl) (h0 (by omega))) (fun a => ?_)
  refine And.intro hg.k ?_
  refine And.intro (fun b => And.intro (Or.inl rfl) (h0 (by omega))) (fun b => And.intro (Or.inr rfl) (h1 (by omega)))
theorem c_value (hG : GOK Γ) (hg : GrL w g) (hr : GrR M g G) (hw : WFG G) {kI : Int} {k : Nat} (ek : kI = k) (hk : k ≤ qn G) (h : Q (some (VI (qV G k))) w M) : wp Γ mX1_value 0 [some (VR g), some (VI kI)] [] 0 0 w M Q := by
  subst ek
  have e := hr.1
  have e2 := (hr.2.2.2.1 k hk).1
  have e3 := hw.1
  refine vc_go hG 40 (B := bX1_value) rfl ?_
  refine And.intro (fun a => by omega) (fun a => ?_)
  refine And.intro hg.k ?_
  refine And.intro (fun b => by omega) (fun b => ?_)
  refine And.intro hg.k (Exists.intro _ (And.intro hg.o ?_))
  refine And.intro (Or.inl hg.ok) (Exists.intro 0 (And.intro rfl (And.intro (by rw [hg.ol]; omega) (Exists.intro _ (And.intro hg.r0 ?_)))))
  refine And.intro (Or.inl hg.k0) (Exists.intro k (And.intro rfl (And.intro (by rw [hg.l0]; omega) ?_)))
  rw [← e2] at h
  exact h
theorem c_depth (hG : GOK Γ) (hg : GrL w g) (hr : GrR M g G) (hw : WFG G) {kI : Int} {k : Nat} (ek : kI = k) (hk : k ≤ qn G) (h : Q (some (VI (qD G k))) w M) : wp Γ mX1_depth 0 [some (VR g), some (VI kI)] [] 0 0 w M Q := by
  subst ek
  have e := hr.1
  have e2 := (hr.2.2.2.1 k hk).2
  have e3 := hw.1
  refine vc_go hG 40 (B := bX1_depth) rfl ?_
  refine And.intro (fun a => by omega) (fun a => ?_)
  refine And.intro hg.k ?_
  refine And.intro (fun b => by omega) (fun b => ?_)
  refine And.intro hg.k (Exists.intro _ (And.intro hg.o ?_))
  refine And.intro (Or.inl hg.ok) (Exists.intro 1 (And.intro rfl (And.intro (by rw [hg.ol]; omega) (Exists.intro _ (And.intro hg.r1 ?_)))))
  refine And.intro (Or.inl hg.k1) (Exists.intro k (And.intro rfl (And.intro (by rw [hg.l1]; omega) ?_)))
  rw [← e2] at h
  exact h
theorem c_depthOver (hG : GOK Γ) (hg : GrL w g) (hr : GrR M g G) (hw : WFG G) {pI qI : Int} {p q : Nat} (ep : pI = p) (eq : qI = q) (hp : p ≤ qn G) (hq : q ≤ qn G) (h : Q (some (VI ((max (qD G p) (qD G q) + 1 : Nat)))) w M) : wp Γ mX1_depthOver 0 [some (VR g), some (VI pI), some (VI qI)] [] 0 0 w M Q := by
  have h1 := WFG_D hw p hp
  have h2 := WFG_D hw q hq
  have h3 := hw.1
  refine vc_go hG 40 (B := bX1_depthOver) rfl ?_
  refine And.intro hg.k ?_
  refine c_depth hG hg hr hw ep hp ?_
  refine And.intro hg.k ?_
  refine c_depth hG hg hr hw eq hq ?_
  refine And.intro (by omega) ?_
  have e : (max (qD G p : Int) (qD G q : Int)) + 1 = ((max (qD G p) (qD G q) + 1 : Nat) : Int) := by omega
  show Q (some (VI ((max (qD G p : Int) (qD G q : Int)) + 1))) w M
  rw [e]
  exact h
/-- an adder may be -/
def mayB (G : GT) (p s q f : Nat) : Prop := 1 ≤ cms (qV G p) s (qV G q) f ∧ cms (qV G p) s (qV G q) f ≤ 1023 ∧ max (qD G p) (qD G q) + 1 ≤ qL G
theorem c_mayBe (hG : GOK Γ) (hg : GrL w g) (hr : GrR M g G) (hw : WFG G) {pI sI qI fI : Int} {p s q f : Nat} (ep : pI = p) (es : sI = s) (eq : qI = q) (ef : fI = f) (hp : p ≤ qn G) (hs : s ≤ 9) (hq : q ≤ qn G) (hf : f ≤ 3) (h1 : mayB G p s q f → Q (some (VI 1)) w M) (h0 : ¬ mayB G p s q f → Q (some (VI 0)) w M) : wp Γ mX1_mayBe 0 [some (VR g), some (VI pI), some (VI sI), some (VI qI), some (VI fI)] [] 0 0 w M Q := by
  have v1 := WFG_V hw p hp
  have v2 := WFG_V hw q hq
  have e4 := hr.2.2.1
  unfold mayB at h1 h0
  refine vc_go hG 60 (B := bX1_mayBe) rfl ?_
  refine And.intro hg.k ?_
  refine c_value hG hg hr hw ep hp ?_
  refine And.intro hg.k ?_
  refine c_value hG hg hr hw eq hq ?_
  refine c_comes hG rfl es rfl ef v1.2.1 hs v2.2.1 hf ?_
  generalize cms (qV G p) s (qV G q) f = x at h1 h0
  refine And.intro (fun a => And.intro (Or.inl rfl) (h0 (by omega))) (fun a => ?_)
  refine And.intro (fun b => And.intro (Or.inl rfl) (h0 (by omega))) (fun b => ?_)
  refine And.intro hg.k ?_
  refine c_depthOver hG hg hr hw ep eq hp hq ?_
  refine And.intro hg.k ?_
  refine And.intro (fun c => And.intro (Or.inl rfl) (h0 (by omega))) (fun c => And.intro (Or.inr rfl) (h1 (by omega)))
/-- an adder more -/
def addG (G : GT) (p s q f : Nat) : GT := (qn G + 1, upN (qP G) (qn G) p, upN (qS G) (qn G) s, upN (qQ G) (qn G) q, upN (qF G) (qn G) f, upN (qV G) (qn G + 1) (odp (cms (qV G p) s (qV G q) f)), upN (qD G) (qn G + 1) (max (qD G p) (qD G q) + 1), qm G, qC G, qL G)
theorem upN_ne {α : Type} {f : Nat → α} {a b : Nat} {x : α} (h : b ≠ a) : upN f a x b = f b := if_neg h
theorem upN_eq {α : Type} {f : Nat → α} {a : Nat} {x : α} : upN f a x a = x := if_pos rfl
theorem addG_X {G : GT} {p s q f : Nat} (hp : p ≤ qn G) (hq : q ≤ qn G) : qX (addG G p s q f) (qn G) = cms (qV G p) s (qV G q) f := by
  show cms (upN (qV G) (qn G + 1) (odp (cms (qV G p) s (qV G q) f)) (upN (qP G) (qn G) p (qn G))) (upN (qS G) (qn G) s (qn G)) (upN (qV G) (qn G + 1) (odp (cms (qV G p) s (qV G q) f)) (upN (qQ G) (qn G) q (qn G))) (upN (qF G) (qn G) f (qn G)) = _
  rw [upN_eq (f := qP G), upN_eq (f := qS G), upN_eq (f := qQ G), upN_eq (f := qF G), upN_ne (f := qV G) (by omega), upN_ne (f := qV G) (by omega)]
theorem addG_X' {G : GT} (hw : WFG G) {p s q f k : Nat} (hk : k < qn G) : qX (addG G p s q f) k = qX G k := by
  obtain ⟨a1, a2, -⟩ := hw.2.2.2.2.2.1 k hk
  show cms (upN (qV G) (qn G + 1) (odp (cms (qV G p) s (qV G q) f)) (upN (qP G) (qn G) p k)) (upN (qS G) (qn G) s k) (upN (qV G) (qn G + 1) (odp (cms (qV G p) s (qV G q) f)) (upN (qQ G) (qn G) q k)) (upN (qF G) (qn G) f k) = _
  rw [upN_ne (f := qP G) (by omega), upN_ne (f := qS G) (by omega), upN_ne (f := qQ G) (by omega), upN_ne (f := qF G) (by omega), upN_ne (f := qV G) (by omega), upN_ne (f := qV G) (by omega)]
theorem addG_wf {G : GT} (hw : WFG G) {p s q f : Nat} (hp : p ≤ qn G) (hs : s ≤ 9) (hq : q ≤ qn G) (hf : f ≤ 3) (hn : qn G < 12) (hm : mayB G p s q f) : WFG (addG G p s q f) := by
  have hx := addG_X (s := s) (f := f) hp hq
  have hx' := fun k => addG_X' hw (p := p) (s := s) (q := q) (f := f) (k := k)
  obtain ⟨h1, h2, h3, h4, h5, h6, h7⟩ := hw
  refine ⟨hn, h2, h3, ?_, ?_, fun k hk => ?_, h7⟩
  · show upN (qV G) (qn G + 1) (odp (cms (qV G p) s (qV G q) f)) 0 = 1
    rw [upN_ne (by omega)]; exact h4
  · show upN (qD G) (qn G + 1) (max (qD G p) (qD G q) + 1) 0 = 0
    rw [upN_ne (by omega)]; exact h5
  · have hk : k < qn G + 1 := hk
    by_cases e : k = qn G
    · subst e
      rw [hx]
      refine ⟨?_, ?_, ?_, ?_, hm.1, hm.2.1, ?_, ?_⟩
      · show upN (qP G) (qn G) p (qn G) ≤ _; rw [upN_eq]; exact hp
      · show upN (qQ G) (qn G) q (qn G) ≤ _; rw [upN_eq]; exact hq
      · show upN (qS G) (qn G) s (qn G) ≤ _; rw [upN_eq]; exact hs
      · show upN (qF G) (qn G) f (qn G) ≤ _; rw [upN_eq]; exact hf
      · show upN (qV G) (qn G + 1) (odp (cms (qV G p) s (qV G q) f)) (qn G + 1) = _; rw [upN_eq]
      · show upN (qD G) (qn G + 1) (max (qD G p) (qD G q) + 1) (qn G + 1) = max (upN (qD G) (qn G + 1) (max (qD G p) (qD G q) + 1) (upN (qP G) (qn G) p (qn G))) (upN (qD G) (qn G + 1) (max (qD G p) (qD G q) + 1) (upN (qQ G) (qn G) q (qn G))) + 1
        rw [upN_eq (f := qD G), upN_eq (f := qP G), upN_eq (f := qQ G), upN_ne (f := qD G) (by omega), upN_ne (f := qD G) (by omega)]
    · obtain ⟨a1, a2, a3, a4, a5, a6, a7, a8⟩ := h6 k (by omega)
      rw [hx' k (by omega)]
      refine ⟨?_, ?_, ?_, ?_, a5, a6, ?_, ?_⟩
      · show upN (qP G) (qn G) p k ≤ _; rw [upN_ne e]; exact a1
      · show upN (qQ G) (qn G) q k ≤ _; rw [upN_ne e]; exact a2
      · show upN (qS G) (qn G) s k ≤ _; rw [upN_ne e]; exact a3
      · show upN (qF G) (qn G) f k ≤ _; rw [upN_ne e]; exact a4
      · show upN (qV G) (qn G + 1) (odp (cms (qV G p) s (qV G q) f)) (k + 1) = _; rw [upN_ne (by omega)]; exact a7
      · show upN (qD G) (qn G + 1) (max (qD G p) (qD G q) + 1) (k + 1) = max (upN (qD G) (qn G + 1) (max (qD G p) (qD G q) + 1) (upN (qP G) (qn G) p k)) (upN (qD G) (qn G + 1) (max (qD G p) (qD G q) + 1) (upN (qQ G) (qn G) q k)) + 1
        rw [upN_ne (f := qP G) (by omega), upN_ne (f := qQ G) (by omega), upN_ne (f := qD G) (by omega), upN_ne (f := qD G) (by omega), upN_ne (f := qD G) (by omega)]; exact a8
/-- the cells of a graph behind an adder more -/
theorem GrR_add {M M' : MM} {g : Nat} {G : GT} (hr : GrR M g G) (hw : WFG G) {p s q f : Nat} (hp : p ≤ qn G) (hq : q ≤ qn G)
    (h0 : M' g = fun j => if j = 2 then (qn G : Int) + 1 else M g j) (h2 : M' (g + 2) = fun j => if j = qn G + 1 then ((odp (cms (qV G p) s (qV G q) f) : Nat) : Int) else M (g + 2) j) (h3 : M' (g + 3) = fun j => if j = qn G + 1 then ((max (qD G p) (qD G q) + 1 : Nat) : Int) else M (g + 3) j)
    (h4 : M' (g + 4) = fun j => if j = qn G + 1 then (p : Int) else M (g + 4) j) (h5 : M' (g + 5) = fun j => if j = qn G + 1 then (q : Int) else M (g + 5) j) (h6 : M' (g + 6) = fun j => if j = qn G + 1 then (s : Int) else M (g + 6) j) (h7 : M' (g + 7) = fun j => if j = qn G + 1 then (f : Int) else M (g + 7) j) (h8 : M' (g + 8) = fun j => if j = qn G + 1 then ((hv (cms (qV G p) s (qV G q) f) : Nat) : Int) else M (g + 8) j) (h9 : M' (g + 9) = M (g + 9)) : GrR M' g (addG G p s q f) := by
  have hx := addG_X (s := s) (f := f) hp hq
  have hx' := fun k => addG_X' hw (p := p) (s := s) (q := q) (f := f) (k := k)
  obtain ⟨r1, r2, r3, r4, ⟨r5a, r5b, r5c, r5d, r5e⟩, r6, r7⟩ := hr
  unfold GrR
  rw [h0, h2, h3, h4, h5, h6, h7, h8, h9]
  refine ⟨rfl, r2, r3, fun k hk => ?_, ⟨r5a, r5b, r5c, r5d, r5e⟩, fun k hk => ?_, r7⟩
  · have hk : k ≤ qn G + 1 := hk
    show (if k = qn G + 1 then _ else _) = ((upN (qV G) (qn G + 1) (odp (cms (qV G p) s (qV G q) f)) k : Nat) : Int) ∧ (if k = qn G + 1 then _ else _) = ((upN (qD G) (qn G + 1) (max (qD G p) (qD G q) + 1) k : Nat) : Int)
    unfold upN
    by_cases e : k = qn G + 1
    · rw [if_pos e, if_pos e, if_pos e, if_pos e]; exact ⟨rfl, rfl⟩
    · rw [if_neg e, if_neg e, if_neg e, if_neg e]; exact r4 k (by omega)
  · have hk : k < qn G + 1 := hk
    by_cases e : k = qn G
    · subst e
      rw [hx]
      refine ⟨?_, ?_, ?_, ?_, if_pos rfl⟩
      · show (if qn G + 1 = qn G + 1 then _ else _) = ((upN (qP G) (qn G) p (qn G) : Nat) : Int); rw [if_pos rfl, upN_eq]
      · show (if qn G + 1 = qn G + 1 then _ else _) = ((upN (qQ G) (qn G) q (qn G) : Nat) : Int); rw [if_pos rfl, upN_eq]
      · show (if qn G + 1 = qn G + 1 then _ else _) = ((upN (qS G) (qn G) s (qn G) : Nat) : Int); rw [if_pos rfl, upN_eq]
      · show (if qn G + 1 = qn G + 1 then _ else _) = ((upN (qF G) (qn G) f (qn G) : Nat) : Int); rw [if_pos rfl, upN_eq]
    · obtain ⟨a1, a2, a3, a4, a5⟩ := r6 k (by omega)
      rw [hx' k (by omega)]
      have ne : ¬ (k + 1 = qn G + 1) := by omega
      refine ⟨?_, ?_, ?_, ?_, (if_neg ne).trans a5⟩
      · show (if k + 1 = qn G + 1 then _ else _) = ((upN (qP G) (qn G) p k : Nat) : Int); rw [if_neg ne, upN_ne e]; exact a1
      · show (if k + 1 = qn G + 1 then _ else _) = ((upN (qQ G) (qn G) q k : Nat) : Int); rw [if_neg ne, upN_ne e]; exact a2
      · show (if k + 1 = qn G + 1 then _ else _) = ((upN (qS G) (qn G) s k : Nat) : Int); rw [if_neg ne, upN_ne e]; exact a3
      · show (if k + 1 = qn G + 1 then _ else _) = ((upN (qF G) (qn G) f k : Nat) : Int); rw [if_neg ne, upN_ne e]; exact a4
end Graph
