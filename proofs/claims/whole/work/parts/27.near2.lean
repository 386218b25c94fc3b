/-! ===== the class's Near: all that a pair makes, a number of ODDS comes, the whole table ===== -/
section Near
variable {Γ : GG} {w : Wd} {M : MM} {Q : QT} {a g : Nat} {G : GT}
theorem GrR.frn {M M' : MM} {g a : Nat} {G : GT} (h : GrR M g G) (hf : frN M M' a) (hd : a + 2 < g ∨ g + 9 < a + 1) : GrR M' g G := h.keep (fun b h1 h2 => hf b (by omega) (by omega))
/-- offered: X, and of the pair p, q what lies below c (shift and form) -/
def YX (G : GT) (X : XP) (p q c : Nat) : XP := fun p' q' s' f' => X p' q' s' f' ∨ (p' = p ∧ q' = q ∧ s' ≤ 9 ∧ f' ≤ 3 ∧ 4 * s' + f' < c ∧ mayB G p s' q f')
theorem l_offerIn (hG : GOK Γ) (ha : NrL w a) (hg : GrL w g) (hd : a + 2 < g ∨ g + 9 < a + 1) (hw : WFG G) {Th : Nat → Prop} {X : XP} {p q : Nat} (hp : p ≤ qn G) (hq : q ≤ qn G) (hdp : dpt G p q ≤ qL G) {s : Nat} (hs : s ≤ 9)
    (hk : ∀ M', NrT M' a G Th (YX G X p q (4 * (s + 1))) → frN M M' a → wp Γ mX4_offerAll 35 [some (VR a), some (VR g), some (VI p), some (VI q), some (VI (dpt G p q : Nat)), some (VI (qV G p)), some (VI (qV G q)), some (VI ((s + 1 : Nat) : Int))] [] 0 0 w M' Q) :
    ∀ (j f : Nat) (M1 : MM), f + j = 4 → NrT M1 a G Th (YX G X p q (4 * s + f)) → frN M M1 a → wp Γ mX4_offerAll 45 [some (VR a), some (VR g), some (VI p), some (VI q), some (VI (dpt G p q : Nat)), some (VI (qV G p)), some (VI (qV G q)), some (VI s), some (VI f)] [] 0 0 w M1 Q := by
  have v1 := WFG_V hw p hp
  have v2 := WFG_V hw q hq
  have hn := hw.1
  intro j
  induction j with
  | zero =>
    intro f M1 hf ht hfr
    have e : f = 4 := by omega
    subst e
    refine vc_go hG 60 (B := bX4_offerAll) rfl ?_
    refine And.intro (fun b => ?_) (fun b => by omega)
    refine And.intro (by omega) ?_
    refine wp_pre [some (VR a), some (VR g), some (VI p), some (VI q), some (VI (dpt G p q : Nat)), some (VI (qV G p)), some (VI (qV G q)), some (VI ((s + 1 : Nat) : Int))] _ ?_
    exact hk M1 ht hfr
  | succ j ih =>
    intro f M1 hf ht hfr
    refine vc_go hG 60 (B := bX4_offerAll) rfl ?_
    refine And.intro (fun b => by omega) (fun b => ?_)
    refine c_comes hG rfl rfl rfl rfl v1.2.1 hs v2.2.1 (by omega) ?_
    have skip : ¬ mayB G p s q f → wp Γ mX4_offerAll 45 [some (VR a), some (VR g), some (VI p), some (VI q), some (VI (dpt G p q : Nat)), some (VI (qV G p)), some (VI (qV G q)), some (VI s), some (VI ((f + 1 : Nat) : Int))] [] 0 0 w M1 Q := by
      intro hm
      refine ih (f + 1) M1 (by omega) (ht.congr (fun v => Iff.rfl) (fun p' q' s' f' => ?_)) hfr
      unfold YX
      constructor
      · rintro (h | ⟨h1, h2, h3, h4, h5, h6⟩)
        · exact Or.inl h
        · exact Or.inr ⟨h1, h2, h3, h4, by omega, h6⟩
      · rintro (h | ⟨h1, h2, h3, h4, h5, h6⟩)
        · exact Or.inl h
        · refine Or.inr ⟨h1, h2, h3, h4, ?_, h6⟩
          by_cases e : 4 * s' + f' = 4 * s + f
          · have e1 : s' = s := by omega
            have e2 : f' = f := by omega
            subst e1 e2
            exact absurd h6 hm
          · omega
    refine And.intro (fun c => ?_) (fun c => ?_)
    · refine And.intro (by omega) ?_
      refine wp_pre [some (VR a), some (VR g), some (VI p), some (VI q), some (VI (dpt G p q : Nat)), some (VI (qV G p)), some (VI (qV G q)), some (VI s), some (VI ((f + 1 : Nat) : Int))] _ (skip ?_)
      intro hm
      have := hm.1
      omega
    refine And.intro (fun d => ?_) (fun d => ?_)
    · refine And.intro (by omega) ?_
      refine wp_pre [some (VR a), some (VR g), some (VI p), some (VI q), some (VI (dpt G p q : Nat)), some (VI (qV G p)), some (VI (qV G q)), some (VI s), some (VI ((f + 1 : Nat) : Int))] _ (skip ?_)
      intro hm
      have := hm.2.1
      omega
    have hm : mayB G p s q f := ⟨by omega, by omega, hdp⟩
    have ho := odp_odd (n := cms (qV G p) s (qV G q) f) (by omega) (by omega)
    have ho2 := odp_le (cms (qV G p) s (qV G q) f)
    refine c_oddPart hG rfl (by omega) ?_
    refine c_wayOf hG rfl rfl rfl rfl (by omega) (by omega) hs (by omega) ?_
    refine And.intro ha.k ?_
    refine c_offer hG ha ht (p := p) (q := q) (s := s) (f := f) (i := odp (cms (qV G p) s (qV G q) f) / 2) (by omega) (by omega) rfl rfl (by show odp _ = _; omega) (fun M' g1 g2 => ?_)
    refine And.intro (by omega) ?_
    refine wp_pre [some (VR a), some (VR g), some (VI p), some (VI q), some (VI (dpt G p q : Nat)), some (VI (qV G p)), some (VI (qV G q)), some (VI s), some (VI ((f + 1 : Nat) : Int))] _ ?_
    refine ih (f + 1) M' (by omega) (g1.congr (fun v => Iff.rfl) (fun p' q' s' f' => ?_)) (hfr.t g2)
    unfold YX
    constructor
    · rintro ((h | ⟨h1, h2, h3, h4, h5, h6⟩) | ⟨h1, h2, h3, h4⟩)
      · exact Or.inl h
      · exact Or.inr ⟨h1, h2, h3, h4, by omega, h6⟩
      · subst h1 h2 h3 h4
        exact Or.inr ⟨rfl, rfl, hs, by omega, by omega, hm⟩
    · rintro (h | ⟨h1, h2, h3, h4, h5, h6⟩)
      · exact Or.inl (Or.inl h)
      · by_cases e : 4 * s' + f' = 4 * s + f
        · exact Or.inr ⟨h1, h2, by omega, by omega⟩
        · exact Or.inl (Or.inr ⟨h1, h2, h3, h4, by omega, h6⟩)
theorem l_offerOut (hG : GOK Γ) (ha : NrL w a) (hg : GrL w g) (hd : a + 2 < g ∨ g + 9 < a + 1) (hw : WFG G) {Th : Nat → Prop} {X : XP} {p q : Nat} (hp : p ≤ qn G) (hq : q ≤ qn G) (hdp : dpt G p q ≤ qL G)
    (h : ∀ M', NrT M' a G Th (YX G X p q 40) → frN M M' a → Q none w M') :
    ∀ (j s : Nat) (M1 : MM), s + j = 10 → NrT M1 a G Th (YX G X p q (4 * s)) → frN M M1 a → wp Γ mX4_offerAll 35 [some (VR a), some (VR g), some (VI p), some (VI q), some (VI (dpt G p q : Nat)), some (VI (qV G p)), some (VI (qV G q)), some (VI s)] [] 0 0 w M1 Q := by
  intro j
  induction j with
  | zero =>
    intro s M1 hs ht hfr
    have e : s = 10 := by omega
    subst e
    refine vc_go hG 60 (B := bX4_offerAll) rfl ?_
    refine And.intro (fun b => ?_) (fun b => by omega)
    exact h M1 ht hfr
  | succ j ih =>
    intro s M1 hs ht hfr
    refine vc_go hG 60 (B := bX4_offerAll) rfl ?_
    refine And.intro (fun b => by omega) (fun b => ?_)
    exact l_offerIn hG ha hg hd hw hp hq hdp (by omega) (fun M' g1 g2 => ih (s + 1) M' (by omega) g1 g2) 4 0 M1 rfl ht hfr
/-- the pair p, q is offered whole -/
def ZX (G : GT) (X : XP) (p q : Nat) : XP := fun p' q' s' f' => X p' q' s' f' ∨ (p' = p ∧ q' = q ∧ s' ≤ 9 ∧ f' ≤ 3 ∧ mayB G p s' q f')
theorem c_offerAll (hG : GOK Γ) (ha : NrL w a) (hg : GrL w g) (hd : a + 2 < g ∨ g + 9 < a + 1) (hr : GrR M g G) (hw : WFG G) {Th : Nat → Prop} {X : XP} (ht : NrT M a G Th X) {pI qI : Int} {p q : Nat} (ep : pI = p) (eq : qI = q) (hp : p ≤ qn G) (hq : q ≤ qn G)
    (h : ∀ M', NrT M' a G Th (ZX G X p q) → frN M M' a → Q none w M') : wp Γ mX4_offerAll 0 [some (VR a), some (VR g), some (VI pI), some (VI qI)] [] 0 0 w M Q := by
  subst ep eq
  have e4 := hr.2.2.1
  refine vc_go hG 60 (B := bX4_offerAll) rfl ?_
  refine And.intro hg.k ?_
  refine c_depthOver hG hg hr hw rfl rfl hp hq ?_
  refine And.intro hg.k ?_
  refine And.intro (fun b => ?_) (fun b => ?_)
  · refine And.intro hg.k ?_
    refine c_value hG hg hr hw rfl hp ?_
    refine And.intro hg.k ?_
    refine c_value hG hg hr hw rfl hq ?_
    refine l_offerOut (X := X) hG ha hg hd hw hp hq (by show max _ _ + 1 ≤ _; omega) (fun M' g1 g2 => h M' (g1.congr (fun v => Iff.rfl) (fun p' q' s' f' => ?_)) g2) 10 0 M rfl (ht.congr (fun v => Iff.rfl) (fun p' q' s' f' => ?_)) (fun b _ _ => rfl)
    · unfold YX ZX
      constructor
      · rintro (h | ⟨h1, h2, h3, h4, h5, h6⟩)
        · exact Or.inl h
        · exact Or.inr ⟨h1, h2, h3, h4, h6⟩
      · rintro (h | ⟨h1, h2, h3, h4, h6⟩)
        · exact Or.inl h
        · exact Or.inr ⟨h1, h2, h3, h4, by omega, h6⟩
    · unfold YX
      constructor
      · exact fun h => Or.inl h
      · rintro (h | ⟨h1, h2, h3, h4, h5, h6⟩)
        · exact h
        · omega
  · refine h M (ht.congr (fun v => Iff.rfl) (fun p' q' s' f' => ?_)) (fun b _ _ => rfl)
    unfold ZX
    constructor
    · exact fun h => Or.inl h
    · rintro (h | ⟨h1, h2, h3, h4, h6⟩)
      · exact h
      · have := h6.2.2
        omega
/-- offered: X, and all pairs (p, k) with p below c -/
def PX (G : GT) (X : XP) (k c : Nat) : XP := fun p' q' s' f' => X p' q' s' f' ∨ (p' < c ∧ q' = k ∧ s' ≤ 9 ∧ f' ≤ 3 ∧ mayB G p' s' k f')
theorem l_widen (hG : GOK Γ) (ha : NrL w a) (hg : GrL w g) (hd : a + 2 < g ∨ g + 9 < a + 1) (hr : GrR M g G) (hw : WFG G) {Th : Nat → Prop} {X : XP} {k : Nat} (hk : k ≤ qn G)
    (h : ∀ M', NrT M' a G Th (PX G X k (k + 1)) → frN M M' a → Q none w M') :
    ∀ (j c : Nat) (M1 : MM), c + j = k + 1 → NrT M1 a G Th (PX G X k c) → frN M M1 a → wp Γ mX4_widen 27 [some (VR a), some (VR g), some (VI k), some (VI (qV G k)), some (VI c)] [] 0 0 w M1 Q := by
  have hn := hw.1
  intro j
  induction j with
  | zero =>
    intro c M1 hc ht hfr
    have e : c = k + 1 := by omega
    subst e
    refine vc_go hG 60 (B := bX4_widen) rfl ?_
    refine And.intro (fun b => ?_) (fun b => by omega)
    exact h M1 ht hfr
  | succ j ih =>
    intro c M1 hc ht hfr
    refine vc_go hG 60 (B := bX4_widen) rfl ?_
    refine And.intro (fun b => by omega) (fun b => ?_)
    refine And.intro ha.k ?_
    refine c_offerAll hG ha hg hd (hr.frn hfr hd) hw ht rfl rfl (by omega) hk (fun M' g1 g2 => ?_)
    refine And.intro (by omega) ?_
    refine ih (c + 1) M' (by omega) (g1.congr (fun v => Iff.rfl) (fun p' q' s' f' => ?_)) (hfr.t g2)
    unfold ZX PX
    constructor
    · rintro ((h | ⟨h1, h2, h3, h4, h6⟩) | ⟨h1, h2, h3, h4, h6⟩)
      · exact Or.inl h
      · exact Or.inr ⟨by omega, h2, h3, h4, h6⟩
      · subst h1
        exact Or.inr ⟨by omega, h2, h3, h4, h6⟩
    · rintro (h | ⟨h1, h2, h3, h4, h6⟩)
      · exact Or.inl (Or.inl h)
      · by_cases e : p' = c
        · subst e
          exact Or.inr ⟨rfl, h2, h3, h4, h6⟩
        · exact Or.inl (Or.inr ⟨by omega, h2, h3, h4, h6⟩)
theorem c_widen (hG : GOK Γ) (ha : NrL w a) (hg : GrL w g) (hd : a + 2 < g ∨ g + 9 < a + 1) (hr : GrR M g G) (hw : WFG G) {Th : Nat → Prop} {X : XP} (ht : NrT M a G Th X) {kI : Int} {k : Nat} (ek : kI = k) (hk : k ≤ qn G)
    (h : ∀ M', NrT M' a G (fun v => Th v ∨ v = qV G k) (PX G X k (k + 1)) → frN M M' a → Q none w M') : wp Γ mX4_widen 0 [some (VR a), some (VR g), some (VI kI)] [] 0 0 w M Q := by
  subst ek
  have v1 := WFG_V hw k hk
  refine vc_go hG 60 (B := bX4_widen) rfl ?_
  refine And.intro hg.k ?_
  refine c_value hG hg hr hw rfl hk ?_
  refine c_isOddNumber hG (fun ho => ?_) (fun ho => absurd (show isOddN (qV G k) from ⟨by omega, by omega, by omega⟩) ho)
  refine And.intro (fun b => ?_) (fun b => absurd b (by decide))
  refine And.intro ha.k (Exists.intro _ (And.intro ha.r0 ?_))
  have e1 : ((qV G k : Nat) : Int) / 2 ^ ((1 : Int).toNat) = ((qV G k / 2 : Nat) : Int) := srN (qV G k) 1
  refine And.intro ⟨by omega, by decide, by decide⟩ ?_
  rw [e1]
  refine And.intro ha.k1 (Exists.intro (qV G k / 2) (And.intro rfl (And.intro (by rw [ha.l1]; omega) ?_)))
  have hf1 : frN M (upM M (a + 1) (qV G k / 2) (-2)) a := fun b b1 b2 => upM_ne b1
  refine l_widen hG ha hg hd hr hw hk h (k + 1) 0 _ (by omega) (fun i hi => ?_) hf1
  have hpx : ∀ p' q' s' f', PX G X k 0 p' q' s' f' ↔ X p' q' s' f' := fun p' q' s' f' => by
    unfold PX
    constructor
    · rintro (h | ⟨h1, -⟩)
      · exact h
      · omega
    · exact fun h => Or.inl h
  by_cases e : i = qV G k / 2
  · subst e
    exact Or.inl ⟨Or.inr (by omega), upM_eq⟩
  · have hne : ¬ (2 * i + 1 = qV G k) := by omega
    rw [upM_k e, upM_a (by omega)]
    have ht2 := ht.congr (X' := PX G X k 0) (fun v => Iff.rfl) (fun p' q' s' f' => (hpx p' q' s' f').symm)
    rcases ht2 i hi with h1 | ⟨h0, h1⟩
    · exact Or.inl ⟨Or.inl h1.1, h1.2⟩
    · exact Or.inr ⟨fun z => z.elim h0 hne, h1⟩
/-- the whole table: what is there, what is made by pairs -/
def ThG (G : GT) (b : Nat) : Nat → Prop := fun v => ∃ k, k < b ∧ qV G k = v
def XG (G : GT) (b : Nat) : XP := fun p q s f => p ≤ q ∧ q < b ∧ s ≤ 9 ∧ f ≤ 3 ∧ mayB G p s q f
abbrev NrF (M : MM) (a : Nat) (G : GT) : Prop := NrT M a G (ThG G (qn G + 1)) (XG G (qn G + 1))
theorem ThG_s {G : GT} {k v : Nat} : (ThG G k v ∨ v = qV G k) ↔ ThG G (k + 1) v := by
  unfold ThG
  constructor
  · rintro (⟨i, h1, h2⟩ | h)
    · exact ⟨i, by omega, h2⟩
    · exact ⟨k, by omega, h.symm⟩
  · rintro ⟨i, h1, h2⟩
    by_cases e : i = k
    · subst e; exact Or.inr h2.symm
    · exact Or.inl ⟨i, by omega, h2⟩
theorem XG_s {G : GT} {k p q s f : Nat} : PX G (XG G k) k (k + 1) p q s f ↔ XG G (k + 1) p q s f := by
  unfold PX XG
  constructor
  · rintro (⟨h1, h2, h3, h4, h5⟩ | ⟨h1, h2, h3, h4, h5⟩)
    · exact ⟨h1, by omega, h3, h4, h5⟩
    · subst h2
      exact ⟨by omega, by omega, h3, h4, h5⟩
  · rintro ⟨h1, h2, h3, h4, h5⟩
    by_cases e : q = k
    · subst e
      exact Or.inr ⟨by omega, rfl, h3, h4, h5⟩
    · exact Or.inl ⟨h1, by omega, h3, h4, h5⟩
theorem l_build2 (hG : GOK Γ) (ha : NrL w a) (hg : GrL w g) (hd : a + 2 < g ∨ g + 9 < a + 1) (hr : GrR M g G) (hw : WFG G) (h : ∀ M', NrF M' a G → frN M M' a → Q none w M') :
    ∀ (j k : Nat) (M1 : MM), k + j = qn G + 1 → NrT M1 a G (ThG G k) (XG G k) → frN M M1 a → wp Γ mX4_build 24 [some (VR a), some (VR g), some (VI k)] [] 0 0 w M1 Q := by
  have hn := hw.1
  intro j
  induction j with
  | zero =>
    intro k M1 hk ht hfr
    have e : k = qn G + 1 := by omega
    subst e
    have e1 := (hr.frn hfr hd).1
    refine vc_go hG 60 (B := bX4_build) rfl ?_
    refine And.intro hg.k ?_
    refine And.intro (fun b => h M1 ht hfr) (fun b => by omega)
  | succ j ih =>
    intro k M1 hk ht hfr
    have e1 := (hr.frn hfr hd).1
    refine vc_go hG 60 (B := bX4_build) rfl ?_
    refine And.intro hg.k ?_
    refine And.intro (fun b => by omega) (fun b => ?_)
    refine And.intro ha.k ?_
    refine c_widen hG ha hg hd (hr.frn hfr hd) hw ht rfl (by omega) (fun M' g1 g2 => ?_)
    refine And.intro (by omega) ?_
    exact ih (k + 1) M' (by omega) (g1.congr (fun v => ThG_s) (fun p q s f => XG_s)) (hfr.t g2)
theorem l_build1 (hG : GOK Γ) (ha : NrL w a) (hg : GrL w g) (hd : a + 2 < g ∨ g + 9 < a + 1) (hr : GrR M g G) (hw : WFG G) (h : ∀ M', NrF M' a G → frN M M' a → Q none w M') :
    ∀ (j k : Nat) (M1 : MM), k + j = 512 → (∀ i, i < k → M1 (a + 1) i = -1) → frN M M1 a → wp Γ mX4_build 2 [some (VR a), some (VR g), some (VI k)] [] 0 0 w M1 Q := by
  intro j
  induction j with
  | zero =>
    intro k M1 hk hi hfr
    have e : k = 512 := by omega
    subst e
    refine vc_go hG 60 (B := bX4_build) rfl ?_
    refine And.intro (fun b => ?_) (fun b => by omega)
    refine l_build2 hG ha hg hd hr hw h (qn G + 1) 0 M1 (by omega) (fun i hi2 => Or.inr ⟨?_, Or.inl ⟨hi i hi2, ?_⟩⟩) hfr
    · rintro ⟨k, h1, -⟩; omega
    · rintro p q s f ⟨-, h1, -⟩; omega
  | succ j ih =>
    intro k M1 hk hi hfr
    refine vc_go hG 60 (B := bX4_build) rfl ?_
    refine And.intro (fun b => by omega) (fun b => ?_)
    refine And.intro ha.k (Exists.intro _ (And.intro ha.r0 ?_))
    refine And.intro ha.k1 (Exists.intro k (And.intro rfl (And.intro (by rw [ha.l1]; omega) ?_)))
    refine And.intro (by omega) ?_
    refine ih (k + 1) _ (by omega) (fun i hi2 => ?_) (hfr.t (fun b b1 b2 => upM_ne b1))
    by_cases e : i = k
    · subst e; exact upM_eq
    · rw [upM_k e]; exact hi i (by omega)
theorem c_build (hG : GOK Γ) (ha : NrL w a) (hg : GrL w g) (hd : a + 2 < g ∨ g + 9 < a + 1) (hr : GrR M g G) (hw : WFG G) (h : ∀ M', NrF M' a G → frN M M' a → Q none w M') : wp Γ mX4_build 0 [some (VR a), some (VR g)] [] 0 0 w M Q := by
  refine vc_go hG 60 (B := bX4_build) rfl ?_
  exact l_build1 hG ha hg hd hr hw h 512 0 M rfl (fun i hi => by omega) (fun b _ _ => rfl)
theorem c_ncopy (hG : GOK Γ) {o : Nat} (ha : NrL w a) (ho : NrL w o) (hd : o + 2 < a ∨ a + 2 < o) (h : ∀ M', (∀ i, i < 512 → M' (a + 1) i = M (o + 1) i ∧ M' (a + 2) i = M (o + 2) i) → frN M M' a → Q none w M') : wp Γ mX4_copy 0 [some (VR a), some (VR o)] [] 0 0 w M Q := by
  refine vc_go hG 60 (B := bX4_copy) rfl ?_
  refine And.intro ho.k (Exists.intro _ (And.intro ho.r0 ?_))
  refine And.intro ha.k (Exists.intro _ (And.intro ha.r0 ?_))
  refine And.intro ⟨ho.k1, ha.k1⟩ (And.intro ⟨rfl, rfl, by decide, by rw [ho.l1]; decide, by rw [ha.l1]; decide⟩ ?_)
  refine And.intro ho.k (Exists.intro _ (And.intro ho.r1 ?_))
  refine And.intro ha.k (Exists.intro _ (And.intro ha.r1 ?_))
  refine And.intro ⟨ho.k2, ha.k2⟩ (And.intro ⟨rfl, rfl, by decide, by rw [ho.l2]; decide, by rw [ha.l2]; decide⟩ ?_)
  refine h _ (fun i hi => ⟨?_, ?_⟩) (fun b b1 b2 => by rw [cpM_ne b2, cpM_ne b1])
  · rw [cpM_ne (by omega)]
    unfold cpM
    rw [if_pos ⟨rfl, hi⟩]
  · unfold cpM
    rw [if_pos ⟨rfl, hi⟩, if_neg (by omega)]
theorem NrT.copy {M M' : MM} {a o : Nat} {G : GT} {Th : Nat → Prop} {X : XP} (h : NrT M o G Th X) (hc : ∀ i, i < 512 → M' (a + 1) i = M (o + 1) i ∧ M' (a + 2) i = M (o + 2) i) : NrT M' a G Th X := by
  intro i hi
  rw [(hc i hi).1, (hc i hi).2]
  exact h i hi
end Near
