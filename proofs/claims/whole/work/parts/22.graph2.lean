/-! ===== the class's Graph, what writes and what goes through ===== -/
section Graph
variable {Γ : GG} {w : Wd} {M : MM} {Q : QT} {g : Nat} {G : GT}
set_option maxRecDepth 20000 in
set_option maxHeartbeats 4000000 in
theorem c_append (hG : GOK Γ) (hg : GrL w g) (hr : GrR M g G) (hw : WFG G) {pI sI qI fI : Int} {p s q f : Nat} (ep : pI = p) (es : sI = s) (eq : qI = q) (ef : fI = f) (hp : p ≤ qn G) (hs : s ≤ 9) (hq : q ≤ qn G) (hf : f ≤ 3) (hn : qn G < 12) (hx : cms (qV G p) s (qV G q) f ≤ 1023) (h : ∀ M', GrR M' g (addG G p s q f) → frG M M' g → Q none w M') : wp Γ mX1_append 0 [some (VR g), some (VI pI), some (VI sI), some (VI qI), some (VI fI)] [] 0 0 w M Q := by
  have v1 := WFG_V hw p hp
  have v2 := WFG_V hw q hq
  have e1 := hr.1
  subst ep es eq ef
  refine vc_go hG 120 (B := bX1_append) rfl ?_
  refine And.intro hg.k ?_
  refine And.intro (fun a => ?_) (fun a => by omega)
  refine And.intro hg.k ?_
  refine c_value hG hg hr hw rfl hp ?_
  refine And.intro hg.k ?_
  refine c_value hG hg hr hw rfl hq ?_
  refine c_comes hG rfl rfl rfl rfl v1.2.1 hs v2.2.1 hf ?_
  refine And.intro hg.k ?_
  refine c_depthOver hG hg hr hw rfl rfl hp hq ?_
  refine And.intro hg.k ?_
  refine And.intro (by omega) ?_
  refine And.intro hg.k ?_
  -- VALUE
  refine And.intro hg.k (Exists.intro _ (And.intro hg.o ?_))
  refine And.intro (Or.inl hg.ok) (Exists.intro 0 (And.intro rfl (And.intro (by rw [hg.ol]; omega) (Exists.intro _ (And.intro hg.r0 ?_)))))
  refine And.intro hg.k ?_
  refine c_oddPart hG rfl (by omega) ?_
  refine And.intro hg.k0 (Exists.intro (qn G + 1) (And.intro (by simp [upM, e1]) (And.intro (by rw [hg.l0]; omega) ?_)))
  -- DEPTH
  refine And.intro hg.k (Exists.intro _ (And.intro hg.o ?_))
  refine And.intro (Or.inl hg.ok) (Exists.intro 1 (And.intro rfl (And.intro (by rw [hg.ol]; omega) (Exists.intro _ (And.intro hg.r1 ?_)))))
  refine And.intro hg.k ?_
  refine And.intro hg.k1 (Exists.intro (qn G + 1) (And.intro (by simp [upM, e1]) (And.intro (by rw [hg.l1]; omega) ?_)))
  -- P
  refine And.intro hg.k (Exists.intro _ (And.intro hg.o ?_))
  refine And.intro (Or.inl hg.ok) (Exists.intro 2 (And.intro rfl (And.intro (by rw [hg.ol]; omega) (Exists.intro _ (And.intro hg.r2 ?_)))))
  refine And.intro hg.k ?_
  refine And.intro hg.k2 (Exists.intro (qn G + 1) (And.intro (by simp [upM, e1]) (And.intro (by rw [hg.l2]; omega) ?_)))
  -- Q
  refine And.intro hg.k (Exists.intro _ (And.intro hg.o ?_))
  refine And.intro (Or.inl hg.ok) (Exists.intro 3 (And.intro rfl (And.intro (by rw [hg.ol]; omega) (Exists.intro _ (And.intro hg.r3 ?_)))))
  refine And.intro hg.k ?_
  refine And.intro hg.k3 (Exists.intro (qn G + 1) (And.intro (by simp [upM, e1]) (And.intro (by rw [hg.l3]; omega) ?_)))
  -- SHIFT
  refine And.intro hg.k (Exists.intro _ (And.intro hg.o ?_))
  refine And.intro (Or.inl hg.ok) (Exists.intro 4 (And.intro rfl (And.intro (by rw [hg.ol]; omega) (Exists.intro _ (And.intro hg.r4 ?_)))))
  refine And.intro hg.k ?_
  refine And.intro hg.k4 (Exists.intro (qn G + 1) (And.intro (by simp [upM, e1]) (And.intro (by rw [hg.l4]; omega) ?_)))
  -- FORM
  refine And.intro hg.k (Exists.intro _ (And.intro hg.o ?_))
  refine And.intro (Or.inl hg.ok) (Exists.intro 5 (And.intro rfl (And.intro (by rw [hg.ol]; omega) (Exists.intro _ (And.intro hg.r5 ?_)))))
  refine And.intro hg.k ?_
  refine And.intro hg.k5 (Exists.intro (qn G + 1) (And.intro (by simp [upM, e1]) (And.intro (by rw [hg.l5]; omega) ?_)))
  -- HALVED
  refine And.intro hg.k (Exists.intro _ (And.intro hg.o ?_))
  refine And.intro (Or.inl hg.ok) (Exists.intro 6 (And.intro rfl (And.intro (by rw [hg.ol]; omega) (Exists.intro _ (And.intro hg.r6 ?_)))))
  refine And.intro hg.k ?_
  refine c_halvings hG rfl (by omega) ?_
  refine And.intro hg.k6 (Exists.intro (qn G + 1) (And.intro (by simp [upM, e1]) (And.intro (by rw [hg.l6]; omega) ?_)))
  refine h _ (GrR_add hr hw hp hq ?_ ?_ ?_ ?_ ?_ ?_ ?_ ?_ ?_) (fun a ha => ?_)
  · funext j; simp [upM, e1]
  · funext j; simp [upM]
  · funext j; simp [upM]
  · funext j; simp [upM]
  · funext j; simp [upM]
  · funext j; simp [upM]
  · funext j; simp [upM]
  · funext j; simp [upM]
  · funext j; simp [upM]
  · funext j
    have n0 : a ≠ g := by omega
    have n2 : a ≠ g + 2 := by omega
    have n3 : a ≠ g + 3 := by omega
    have n4 : a ≠ g + 4 := by omega
    have n5 : a ≠ g + 5 := by omega
    have n6 : a ≠ g + 6 := by omega
    have n7 : a ≠ g + 7 := by omega
    have n8 : a ≠ g + 8 := by omega
    rw [upM_a n8, upM_a n7, upM_a n6, upM_a n5, upM_a n4, upM_a n3, upM_a n2, upM_a n0]
theorem c_appendW (hG : GOK Γ) (hg : GrL w g) (hr : GrR M g G) (hw : WFG G) {cI : Int} {p s q f : Nat} (ec : cI = (cdw p q s f : Nat)) (hp : p ≤ qn G) (hs : s ≤ 9) (hq : q ≤ qn G) (hf : f ≤ 3) (hn : qn G < 12) (hx : cms (qV G p) s (qV G q) f ≤ 1023) (h : ∀ M', GrR M' g (addG G p s q f) → frG M M' g → Q none w M') : wp Γ mX1_append_ 0 [some (VR g), some (VI cI)] [] 0 0 w M Q := by
  have hc : cdw p q s f ≤ 2147483647 := by unfold cdw; omega
  have e1 : cdw p q s f / 1024 = p := by unfold cdw; omega
  have e2 : cdw p q s f / 64 % 16 = q := by unfold cdw; omega
  have e3 : cdw p q s f / 4 % 16 = s := by unfold cdw; omega
  have e4 : cdw p q s f % 4 = f := by unfold cdw; omega
  refine vc_go hG 40 (B := bX1_append_) rfl ?_
  refine c_wayP hG ec hc ?_
  refine c_wayS hG ec hc ?_
  refine c_wayQ hG ec hc ?_
  refine c_wayF hG ec hc ?_
  rw [e1, e2, e3, e4]
  refine And.intro hg.k ?_
  refine c_append hG hg hr hw rfl rfl rfl rfl hp hs hq hf hn hx (fun M' hr' hf' => ?_)
  exact h M' hr' hf'
/-- a number is among the values -/
def isV (G : GT) (v : Nat) : Prop := ∃ k, k ≤ qn G ∧ qV G k = v
theorem l_hasValue (hG : GOK Γ) (hg : GrL w g) (hr : GrR M g G) (hw : WFG G) {vI : Int} {v : Nat} (ev : vI = v) (h1 : isV G v → Q (some (VI 1)) w M) (h0 : ¬ isV G v → Q (some (VI 0)) w M) : ∀ (j k : Nat), k + j = qn G + 1 → (∀ i, i < k → qV G i ≠ v) → wp Γ mX1_hasValue 2 [some (VR g), some (VI vI), some (VI k)] [] 0 0 w M Q := by
  subst ev
  have e1 := hr.1
  have e3 := hw.1
  intro j
  induction j with
  | zero =>
    intro k hk hi
    refine vc_go hG 40 (B := bX1_hasValue) rfl ?_
    refine And.intro hg.k ?_
    refine And.intro (fun a => And.intro (Or.inl rfl) (h0 ?_)) (fun a => by omega)
    rintro ⟨i, hi1, hi2⟩
    exact hi i (by omega) hi2
  | succ j ih =>
    intro k hk hi
    have e2 := (hr.2.2.2.1 k (by omega)).1
    refine vc_go hG 40 (B := bX1_hasValue) rfl ?_
    refine And.intro hg.k ?_
    refine And.intro (fun a => by omega) (fun a => ?_)
    refine And.intro hg.k (Exists.intro _ (And.intro hg.o ?_))
    refine And.intro (Or.inl hg.ok) (Exists.intro 0 (And.intro rfl (And.intro (by rw [hg.ol]; omega) (Exists.intro _ (And.intro hg.r0 ?_)))))
    refine And.intro (Or.inl hg.k0) (Exists.intro k (And.intro rfl (And.intro (by rw [hg.l0]; omega) ?_)))
    refine And.intro (fun b => ?_) (fun b => And.intro (Or.inr rfl) (h1 ⟨k, by omega, ?_⟩))
    · have b : ¬ M (g + 2) k = v := b
      refine And.intro (by omega) ?_
      refine ih (k + 1) (by omega) (fun i hi2 => ?_)
      by_cases e : i = k
      · subst e; rw [e2] at b; omega
      · exact hi i (by omega)
    · have b : M (g + 2) k = v := b
      rw [e2] at b; omega
theorem c_hasValue (hG : GOK Γ) (hg : GrL w g) (hr : GrR M g G) (hw : WFG G) {vI : Int} {v : Nat} (ev : vI = v) (h1 : isV G v → Q (some (VI 1)) w M) (h0 : ¬ isV G v → Q (some (VI 0)) w M) : wp Γ mX1_hasValue 0 [some (VR g), some (VI vI)] [] 0 0 w M Q := by
  refine vc_go hG 40 (B := bX1_hasValue) rfl ?_
  exact l_hasValue hG hg hr hw ev h1 h0 (qn G + 1) 0 (by omega) (fun i hi => by omega)
def isMt (G : GT) (c : Nat) : Prop := isV G (odp c)
theorem c_isMet (hG : GOK Γ) (hg : GrL w g) (hr : GrR M g G) (hw : WFG G) {cI : Int} {c : Nat} (ec : cI = c) (hc : c ≤ 1023) (h1 : isMt G c → Q (some (VI 1)) w M) (h0 : ¬ isMt G c → Q (some (VI 0)) w M) : wp Γ mX1_isMet 0 [some (VR g), some (VI cI)] [] 0 0 w M Q := by
  refine vc_go hG 40 (B := bX1_isMet) rfl ?_
  refine c_oddPart hG ec (by omega) ?_
  refine And.intro hg.k ?_
  exact c_hasValue hG hg hr hw rfl (fun a => And.intro (Or.inr rfl) (h1 a)) (fun a => And.intro (Or.inl rfl) (h0 a))
/-- the greatest depth of the first k -/
def mxD (D : Nat → Nat) : Nat → Nat
  | 0 => 0
  | k + 1 => max (mxD D k) (D k)
theorem l_greatest (hG : GOK Γ) (hg : GrL w g) (hr : GrR M g G) (hw : WFG G) (h : Q (some (VI (mxD (qD G) (qn G + 1) : Nat))) w M) : ∀ (j k : Nat), k + j = qn G + 1 → wp Γ mX1_greatestDepth 4 [some (VR g), some (VI (mxD (qD G) k : Nat)), some (VI k)] [] 0 0 w M Q := by
  have e1 := hr.1
  have e3 := hw.1
  intro j
  induction j with
  | zero =>
    intro k hk
    have ek : k = qn G + 1 := by omega
    subst ek
    refine vc_go hG 40 (B := bX1_greatestDepth) rfl ?_
    refine And.intro hg.k ?_
    refine And.intro (fun a => h) (fun a => by omega)
  | succ j ih =>
    intro k hk
    have e2 := (hr.2.2.2.1 k (by omega)).2
    refine vc_go hG 40 (B := bX1_greatestDepth) rfl ?_
    refine And.intro hg.k ?_
    refine And.intro (fun a => by omega) (fun a => ?_)
    refine And.intro hg.k (Exists.intro _ (And.intro hg.o ?_))
    refine And.intro (Or.inl hg.ok) (Exists.intro 1 (And.intro rfl (And.intro (by rw [hg.ol]; omega) (Exists.intro _ (And.intro hg.r1 ?_)))))
    refine And.intro (Or.inl hg.k1) (Exists.intro k (And.intro rfl (And.intro (by rw [hg.l1]; omega) ?_)))
    refine And.intro (by omega) ?_
    have e : max (mxD (qD G) k : Int) (M (g + 3) k) = ((mxD (qD G) (k + 1) : Nat) : Int) := by
      rw [e2]
      show _ = ((max (mxD (qD G) k) (qD G k) : Nat) : Int)
      omega
    have := ih (k + 1) (by omega)
    rw [← e] at this
    exact this
theorem c_greatest (hG : GOK Γ) (hg : GrL w g) (hr : GrR M g G) (hw : WFG G) (h : Q (some (VI (mxD (qD G) (qn G + 1) : Nat))) w M) : wp Γ mX1_greatestDepth 0 [some (VR g)] [] 0 0 w M Q := by
  refine vc_go hG 40 (B := bX1_greatestDepth) rfl ?_
  exact l_greatest hG hg hr hw h (qn G + 1) 0 (by omega)
/-- how many of the first k wanted are not met -/
noncomputable def nMt (G : GT) : Nat → Nat
  | 0 => 0
  | k + 1 => nMt G k + (@ite _ (isMt G (qC G k)) (Classical.propDecidable _) 0 1)
end Graph
