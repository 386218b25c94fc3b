/-! ===== the model: least ===== -/
def MKc (p q x s f : Nat) : Prop := 1 ≤ cms p s q f ∧ cms p s q f ≤ 1023 ∧ odp (cms p s q f) = x
def MKn (p q c x : Nat) : Prop := ∃ s f, s ≤ 9 ∧ f ≤ 3 ∧ 4 * s + f < c ∧ MKc p q x s f
def MK (p q x : Nat) : Prop := ∃ s f, s ≤ 9 ∧ f ≤ 3 ∧ MKc p q x s f
theorem MKn_40 {p q x : Nat} : MKn p q 40 x ↔ MK p q x := by
  constructor
  · rintro ⟨s, f, h1, h2, h3, h4⟩
    exact ⟨s, f, h1, h2, h4⟩
  · rintro ⟨s, f, h1, h2, h4⟩
    exact ⟨s, f, h1, h2, by omega, h4⟩
theorem MKn_0 {p q x : Nat} : ¬ MKn p q 0 x := by
  rintro ⟨s, f, h1, h2, h3, h4⟩
  omega
theorem MKn_s {p q x s f : Nat} (hs : s ≤ 9) (hf : f ≤ 3) : MKn p q (4 * s + f + 1) x ↔ (MKn p q (4 * s + f) x ∨ MKc p q x s f) := by
  constructor
  · rintro ⟨s', f', h1, h2, h3, h4⟩
    by_cases c : 4 * s' + f' < 4 * s + f
    · exact Or.inl ⟨s', f', h1, h2, c, h4⟩
    · have e1 : s' = s := by omega
      have e2 : f' = f := by omega
      subst e1 e2
      exact Or.inr h4
  · rintro (⟨s', f', h1, h2, h3, h4⟩ | h)
    · exact ⟨s', f', h1, h2, by omega, h4⟩
    · exact ⟨s, f, hs, hf, by omega, h⟩
theorem MK_odd {p q x : Nat} (h : MK p q x) : x % 2 = 1 ∧ x ≤ 1023 := by
  obtain ⟨s, f, -, -, h1, h2, h3⟩ := h
  have b1 := odp_le (cms p s q f)
  have b3 := odp_odd (n := cms p s q f) (by omega) (by omega)
  omega
theorem MK_mir {p q x : Nat} (h : MK p q x) : MK q p x := by
  obtain ⟨s, f, h1, h2, h3⟩ := h
  refine ⟨s, (f + 2) % 4, h1, by omega, ?_⟩
  unfold MKc
  rw [cms_mir h2]
  exact h3
def mI (M M' : MM) (a : Nat) (mk : Int) (S : Nat → Prop) : Prop := ∀ x, x < 1024 → (S x → M' a x = mk) ∧ (¬ S x → M' a x = M a x)
theorem mI.or {M M1 M2 : MM} {a : Nat} {mk : Int} {S S' S2 : Nat → Prop} (h1 : mI M M1 a mk S) (h2 : mI M1 M2 a mk S') (hs : ∀ x, S2 x ↔ (S x ∨ S' x)) : mI M M2 a mk S2 := by
  intro x hx
  obtain ⟨a1, a2⟩ := h1 x hx
  obtain ⟨b1, b2⟩ := h2 x hx
  refine ⟨fun z => ?_, fun z => ?_⟩
  · by_cases c : S' x
    · exact b1 c
    · rw [b2 c]
      rcases (hs x).1 z with d | d
      · exact a1 d
      · exact absurd d c
  · rw [b2 (fun d => z ((hs x).2 (Or.inr d))), a2 (fun d => z ((hs x).2 (Or.inl d)))]
theorem mI.c {M M1 : MM} {a : Nat} {mk : Int} {S S2 : Nat → Prop} (h1 : mI M M1 a mk S) (hs : ∀ x, S2 x ↔ S x) : mI M M1 a mk S2 := fun x hx => ⟨fun z => (h1 x hx).1 ((hs x).1 z), fun z => (h1 x hx).2 (fun d => z ((hs x).2 d))⟩
def arL (L a : Nat) : Prop := (W0 L).1 a = 0 ∧ (W0 L).2.1 a = 1024
theorem arL_1 (L : Nat) : arL L 201 := ⟨rfl, rfl⟩
theorem arL_2 (L : Nat) : arL L 202 := ⟨rfl, rfl⟩
section Mod
variable {Γ : GG} {L : Nat} {M : MM} {Q : QT}
theorem mk13 (hG : GOK Γ) {a : Nat} (ha : arL L a) {p q s : Nat} {mk : Int} (hp : p ≤ 1023) (hq : q ≤ 1023) (hs : s ≤ 9)
    (h : ∀ M', mI M M' a mk (MKn p q (4 * s + 4)) → (∀ b, b ≠ a → M' b = M b) → wp Γ mX10_marks 3 [some (VR a), some (VI p), some (VI q), some (VI mk), some (VI ((s + 1 : Nat) : Int))] [] 0 0 (W0 L) M' Q) :
    ∀ (j f : Nat) (M1 : MM), f + j = 4 → mI M M1 a mk (MKn p q (4 * s + f)) → (∀ b, b ≠ a → M1 b = M b) → wp Γ mX10_marks 13 [some (VR a), some (VI p), some (VI q), some (VI mk), some (VI s), some (VI f)] [] 0 0 (W0 L) M1 Q := by
  intro j
  induction j with
  | zero =>
    intro f M1 hj hI hf
    have e : f = 4 := by omega
    subst e
    refine vc_go hG 60 (B := bX10_marks) rfl ?_
    refine And.intro (fun y => ?_) (fun y => by omega)
    refine And.intro (by omega) ?_
    exact wp_pre [some (VR a), some (VI p), some (VI q), some (VI mk), some (VI ((s + 1 : Nat) : Int))] [some (VI 4)] (h M1 hI hf)
  | succ j ih =>
    intro f M1 hj hI hf
    have f3 : f ≤ 3 := by omega
    refine vc_go hG 60 (B := bX10_marks) rfl ?_
    refine And.intro (fun y => by omega) (fun y => ?_)
    refine m_comes hG rfl rfl rfl rfl hp hs hq f3 ?_
    refine m_in hG (fun z => ?_) (fun z => ?_)
    · refine And.intro (fun y => absurd y (by decide)) (fun y => ?_)
      have ol := odp_le (cms p s q f)
      refine m_oddPart hG rfl (by omega) ?_
      refine And.intro ha.1 (Exists.intro (odp (cms p s q f)) (And.intro rfl (And.intro (by rw [ha.2]; omega) ?_)))
      refine And.intro (by omega) ?_
      refine wp_pre [some (VR a), some (VI p), some (VI q), some (VI mk), some (VI s), some (VI ((f + 1 : Nat) : Int))] [some (VI (cms p s q f : Nat))] ?_
      refine ih (f + 1) _ (by omega) (fun x hx => ⟨fun w => ?_, fun w => ?_⟩) (fun b hb => by rw [upM_ne hb]; exact hf b hb)
      · by_cases c : x = odp (cms p s q f)
        · subst c; rw [upM_eq]
        · rw [upM_k c]
          rcases (MKn_s hs f3).1 w with d | d
          · exact (hI x hx).1 d
          · exact absurd d.2.2.symm c
      · have c : x ≠ odp (cms p s q f) := fun e => w ((MKn_s hs f3).2 (Or.inr ⟨by omega, by omega, e.symm⟩))
        rw [upM_k c]
        exact (hI x hx).2 (fun d => w ((MKn_s hs f3).2 (Or.inl d)))
    · refine And.intro (fun y => ?_) (fun y => absurd rfl y)
      refine And.intro (by omega) ?_
      refine wp_pre [some (VR a), some (VI p), some (VI q), some (VI mk), some (VI s), some (VI ((f + 1 : Nat) : Int))] [some (VI (cms p s q f : Nat))] ?_
      refine ih (f + 1) M1 (by omega) (hI.c (fun x => ⟨fun w => ?_, fun w => (MKn_s hs f3).2 (Or.inl w)⟩)) hf
      rcases (MKn_s hs f3).1 w with d | d
      · exact d
      · exact absurd ⟨by have := d.1; omega, by have := d.2.1; omega⟩ z
theorem mk3 (hG : GOK Γ) {a : Nat} (ha : arL L a) {p q : Nat} {mk : Int} (hp : p ≤ 1023) (hq : q ≤ 1023) (h : ∀ M', mI M M' a mk (MK p q) → (∀ b, b ≠ a → M' b = M b) → Q none (W0 L) M') :
    ∀ (j s : Nat) (M1 : MM), s + j = 10 → mI M M1 a mk (MKn p q (4 * s)) → (∀ b, b ≠ a → M1 b = M b) → wp Γ mX10_marks 3 [some (VR a), some (VI p), some (VI q), some (VI mk), some (VI s)] [] 0 0 (W0 L) M1 Q := by
  intro j
  induction j with
  | zero =>
    intro s M1 hj hI hf
    have e : s = 10 := by omega
    subst e
    refine vc_go hG 60 (B := bX10_marks) rfl ?_
    exact And.intro (fun y => h M1 (hI.c (fun x => MKn_40.symm)) hf) (fun y => by omega)
  | succ j ih =>
    intro s M1 hj hI hf
    refine vc_go hG 60 (B := bX10_marks) rfl ?_
    refine And.intro (fun y => by omega) (fun y => ?_)
    exact mk13 (M := M) hG ha hp hq (by omega) (fun M2 h2 f2 => ih (s + 1) M2 (by omega) h2 f2) 4 0 M1 rfl hI hf
theorem m_marks (hG : GOK Γ) {a : Nat} (ha : arL L a) {pI qI mk : Int} {p q : Nat} (ep : pI = p) (eq : qI = q) (hp : p ≤ 1023) (hq : q ≤ 1023) (h : ∀ M', mI M M' a mk (MK p q) → (∀ b, b ≠ a → M' b = M b) → Q none (W0 L) M') : wp Γ mX10_marks 0 [some (VR a), some (VI pI), some (VI qI), some (VI mk)] [] 0 0 (W0 L) M Q := by
  subst ep eq
  refine vc_go hG 60 (B := bX10_marks) rfl ?_
  exact mk3 hG ha hp hq h 10 0 M rfl (fun x hx => ⟨fun z => absurd z MKn_0, fun _ => rfl⟩) (fun _ _ => rfl)
theorem im11 (hG : GOK Γ) {v p q s : Nat} (hp : p ≤ 1023) (hq : q ≤ 1023) (hs : s ≤ 9) (h1 : MK p q v → Q (some (VI 1)) (W0 L) M)
    (h : ¬ MKn p q (4 * s + 4) v → wp Γ mX10_isMade 2 [some (VI v), some (VI p), some (VI q), some (VI ((s + 1 : Nat) : Int))] [] 0 0 (W0 L) M Q) :
    ∀ (j f : Nat), f + j = 4 → ¬ MKn p q (4 * s + f) v → wp Γ mX10_isMade 11 [some (VI v), some (VI p), some (VI q), some (VI s), some (VI f)] [] 0 0 (W0 L) M Q := by
  intro j
  induction j with
  | zero =>
    intro f hj hn
    have e : f = 4 := by omega
    subst e
    refine vc_go hG 60 (B := bX10_isMade) rfl ?_
    refine And.intro (fun y => ?_) (fun y => by omega)
    refine And.intro (by omega) ?_
    exact wp_pre [some (VI v), some (VI p), some (VI q), some (VI ((s + 1 : Nat) : Int))] [some (VI 4)] (h hn)
  | succ j ih =>
    intro f hj hn
    have f3 : f ≤ 3 := by omega
    have go : ¬ MKc p q v s f → wp Γ mX10_isMade 11 [some (VI v), some (VI p), some (VI q), some (VI s), some (VI ((f + 1 : Nat) : Int)), some (VI (cms p s q f : Nat))] [] 0 0 (W0 L) M Q := fun hc => by
      refine wp_pre [some (VI v), some (VI p), some (VI q), some (VI s), some (VI ((f + 1 : Nat) : Int))] [some (VI (cms p s q f : Nat))] ?_
      refine ih (f + 1) (by omega) (fun w => ?_)
      rcases (MKn_s hs f3).1 w with d | d
      · exact hn d
      · exact hc d
    refine vc_go hG 60 (B := bX10_isMade) rfl ?_
    refine And.intro (fun y => by omega) (fun y => ?_)
    refine m_comes hG rfl rfl rfl rfl hp hs hq f3 ?_
    refine m_in hG (fun z => ?_) (fun z => ?_)
    · refine And.intro (fun y => absurd y (by decide)) (fun y => ?_)
      refine m_oddPart hG rfl (by omega) ?_
      refine And.intro (fun y2 => ?_) (fun y2 => ?_)
      · exact And.intro (by omega) (go (fun d => y2 (by rw [← d.2.2])))
      · exact And.intro (Or.inr rfl) (h1 ⟨s, f, hs, f3, by omega, by omega, Int.ofNat.inj y2⟩)
    · refine And.intro (fun y => ?_) (fun y => absurd rfl y)
      exact And.intro (by omega) (go (fun d => z ⟨by have := d.1; omega, by have := d.2.1; omega⟩))
theorem im2 (hG : GOK Γ) {v p q : Nat} (hp : p ≤ 1023) (hq : q ≤ 1023) (h1 : MK p q v → Q (some (VI 1)) (W0 L) M) (h0 : ¬ MK p q v → Q (some (VI 0)) (W0 L) M) :
    ∀ (j s : Nat), s + j = 10 → ¬ MKn p q (4 * s) v → wp Γ mX10_isMade 2 [some (VI v), some (VI p), some (VI q), some (VI s)] [] 0 0 (W0 L) M Q := by
  intro j
  induction j with
  | zero =>
    intro s hj hn
    have e : s = 10 := by omega
    subst e
    refine vc_go hG 60 (B := bX10_isMade) rfl ?_
    exact And.intro (fun y => And.intro (Or.inl rfl) (h0 (fun z => hn (MKn_40.2 z)))) (fun y => by omega)
  | succ j ih =>
    intro s hj hn
    refine vc_go hG 60 (B := bX10_isMade) rfl ?_
    refine And.intro (fun y => by omega) (fun y => ?_)
    exact im11 hG hp hq (by omega) h1 (fun h2 => ih (s + 1) (by omega) h2) 4 0 rfl hn
theorem m_isMade (hG : GOK Γ) {vI pI qI : Int} {v p q : Nat} (ev : vI = v) (ep : pI = p) (eq : qI = q) (hp : p ≤ 1023) (hq : q ≤ 1023) (h1 : MK p q v → Q (some (VI 1)) (W0 L) M) (h0 : ¬ MK p q v → Q (some (VI 0)) (W0 L) M) : wp Γ mX10_isMade 0 [some (VI vI), some (VI pI), some (VI qI)] [] 0 0 (W0 L) M Q := by
  subst ev ep eq
  refine vc_go hG 60 (B := bX10_isMade) rfl ?_
  exact im2 hG hp hq h1 h0 10 0 rfl MKn_0
/-- what one and b make -/
def mkAll (b x : Nat) : Prop := MK 1 1 x ∨ MK 1 b x ∨ MK b 1 x ∨ MK b b x
theorem m_marksAll (hG : GOK Γ) {a : Nat} (ha : arL L a) {bI mk : Int} {b : Nat} (eb : bI = b) (hb : b ≤ 1023) (h : ∀ M', mI M M' a mk (mkAll b) → (∀ c, c ≠ a → M' c = M c) → Q none (W0 L) M') : wp Γ mX10_marksAll 0 [some (VR a), some (VI bI), some (VI 1), some (VI mk)] [] 0 0 (W0 L) M Q := by
  refine vc_go hG 60 (B := bX10_marksAll) rfl ?_
  refine m_marks hG ha (p := 1) (q := 1) rfl rfl (by decide) (by decide) (fun M1 h1 f1 => ?_)
  refine m_marks hG ha (p := 1) rfl eb (by decide) hb (fun M2 h2 f2 => ?_)
  refine m_marks hG ha (q := 1) eb rfl hb (by decide) (fun M3 h3 f3 => ?_)
  refine m_marks hG ha eb eb hb hb (fun M4 h4 f4 => ?_)
  refine m_marks hG ha (p := 1) (q := 1) rfl rfl (by decide) (by decide) (fun M5 h5 f5 => ?_)
  refine m_marks hG ha (p := 1) (q := 1) rfl rfl (by decide) (by decide) (fun M6 h6 f6 => ?_)
  refine m_marks hG ha (q := 1) eb rfl hb (by decide) (fun M7 h7 f7 => ?_)
  refine m_marks hG ha (p := 1) rfl eb (by decide) hb (fun M8 h8 f8 => ?_)
  refine m_marks hG ha (p := 1) (q := 1) rfl rfl (by decide) (by decide) (fun M9 h9 f9 => ?_)
  refine h M9 ?_ (fun c hc => by rw [f9 c hc, f8 c hc, f7 c hc, f6 c hc, f5 c hc, f4 c hc, f3 c hc, f2 c hc, f1 c hc])
  have k2 := h1.or h2 (S2 := fun x => MK 1 1 x ∨ MK 1 b x) (fun x => Iff.rfl)
  have k3 := k2.or h3 (S2 := fun x => (MK 1 1 x ∨ MK 1 b x) ∨ MK b 1 x) (fun x => Iff.rfl)
  have k4 := k3.or h4 (S2 := mkAll b) (fun x => by show (MK 1 1 x ∨ MK 1 b x ∨ MK b 1 x ∨ MK b b x) ↔ _; rw [or_assoc, or_assoc])
  have k5 := k4.or h5 (S2 := mkAll b) (fun x => ⟨fun z => Or.inl z, fun z => z.elim id (fun w => Or.inl w)⟩)
  have k6 := k5.or h6 (S2 := mkAll b) (fun x => ⟨fun z => Or.inl z, fun z => z.elim id (fun w => Or.inl w)⟩)
  have k7 := k6.or h7 (S2 := mkAll b) (fun x => ⟨fun z => Or.inl z, fun z => z.elim id (fun w => Or.inr (Or.inr (Or.inl w)))⟩)
  have k8 := k7.or h8 (S2 := mkAll b) (fun x => ⟨fun z => Or.inl z, fun z => z.elim id (fun w => Or.inr (Or.inl w))⟩)
  exact k8.or h9 (fun x => ⟨fun z => Or.inl z, fun z => z.elim id (fun w => Or.inl w)⟩)
end Mod
