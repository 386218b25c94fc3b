/-! ===== the model: what is near ===== -/
def mcd (p q s f : Nat) : Nat := 1000 * p + 50 * q + 4 * s + f
def XM (V D : Nat → Nat) (lim m : Nat) : XP := fun p q s f => p < m ∧ q < m ∧ s ≤ 9 ∧ f ≤ 3 ∧ mayV V D lim p s q f
abbrev mkM (V : Nat → Nat) (p q s f : Nat) : Nat := odp (cms (V p) s (V q) f)
def FB (M : MM) (V D : Nat → Nat) (lim m B : Nat) : Prop := ∀ v, v < 1024 → (M 199 v = 0 ∧ ∀ p q s f, XM V D lim m p q s f → mcd p q s f < B → mkM V p q s f ≠ v) ∨ (∃ p q s f, XM V D lim m p q s f ∧ mcd p q s f < B ∧ mkM V p q s f = v ∧ M 199 v = ((mcd p q s f + 1 : Nat) : Int) ∧ ∀ p' q' s' f', XM V D lim m p' q' s' f' → mkM V p' q' s' f' = v → mcd p q s f ≤ mcd p' q' s' f')
theorem mcd_inj {m p q s f p' q' s' f' : Nat} (hm : m ≤ 14) (h1 : q < m ∧ s ≤ 9 ∧ f ≤ 3) (h2 : q' < m ∧ s' ≤ 9 ∧ f' ≤ 3) (h : mcd p q s f = mcd p' q' s' f') : p = p' ∧ q = q' ∧ s = s' ∧ f = f' := by
  unfold mcd at h
  have u1 : 4 * s + f ≤ 39 := by omega
  have u2 : 4 * s' + f' ≤ 39 := by omega
  have e1 : p = p' := by
    rcases Nat.lt_trichotomy p p' with c | c | c
    · omega
    · exact c
    · omega
  subst e1
  have e2 : q = q' := by
    rcases Nat.lt_trichotomy q q' with c | c | c
    · omega
    · exact c
    · omega
  subst e2
  have e3 : s = s' := by omega
  subst e3
  exact ⟨rfl, rfl, rfl, by omega⟩
/-- behind all of p, q stands nothing but what comes next -/
theorem mcd_q {m p q p' q' s' f' : Nat} (hm : m ≤ 14) (hq : q < m) (h2 : q' < m ∧ s' ≤ 9 ∧ f' ≤ 3) (h : mcd p' q' s' f' < mcd p (q + 1) 0 0) : mcd p' q' s' f' < mcd p q 10 0 := by
  unfold mcd at h ⊢
  rcases Nat.lt_trichotomy p' p with c | c | c
  · omega
  · subst c
    rcases Nat.lt_trichotomy q' q with c | c | c <;> omega
  · omega
theorem mcd_p {m p p' q' s' f' : Nat} (hm : m ≤ 14) (h2 : q' < m ∧ s' ≤ 9 ∧ f' ≤ 3) (h : mcd p' q' s' f' < mcd (p + 1) 0 0 0) : mcd p' q' s' f' < mcd p m 0 0 := by
  unfold mcd at h ⊢
  rcases Nat.lt_trichotomy p' p with c | c | c
  · omega
  · subst c
    omega
  · omega
theorem FB.w {M : MM} {V D : Nat → Nat} {lim m B B' : Nat} (h : FB M V D lim m B) (hb : B ≤ B') (hn : ∀ p q s f, XM V D lim m p q s f → mcd p q s f < B' → mcd p q s f < B) : FB M V D lim m B' := by
  intro v hv
  rcases h v hv with ⟨a1, a2⟩ | ⟨p, q, s, f, a1, a2, a3⟩
  · exact Or.inl ⟨a1, fun p q s f x1 x2 => a2 p q s f x1 (hn p q s f x1 x2)⟩
  · exact Or.inr ⟨p, q, s, f, a1, by omega, a3⟩
theorem FB.put {M : MM} {V D : Nat → Nat} {lim m p q s f : Nat} (hm : m ≤ 14) (h : FB M V D lim m (mcd p q s f)) (hx : XM V D lim m p q s f) {y : Int} (h0 : M 199 (mkM V p q s f) = 0 → y = ((mcd p q s f + 1 : Nat) : Int)) (h1 : M 199 (mkM V p q s f) ≠ 0 → y = M 199 (mkM V p q s f)) : FB (upM M 199 (mkM V p q s f) y) V D lim m (mcd p q s f + 1) := by
  intro v hv
  by_cases e : v = mkM V p q s f
  · subst e
    rw [upM_eq]
    rcases h _ hv with ⟨a1, a2⟩ | ⟨p', q', s', f', a1, a2, a3, a4, a5⟩
    · refine Or.inr ⟨p, q, s, f, hx, by omega, rfl, h0 a1, fun p' q' s' f' x1 x2 => ?_⟩
      by_cases c : mcd p' q' s' f' < mcd p q s f
      · exact absurd x2 (a2 p' q' s' f' x1 c)
      · omega
    · exact Or.inr ⟨p', q', s', f', a1, by omega, a3, (h1 (by omega)).trans a4, a5⟩
  · rw [upM_k e]
    rcases h _ hv with ⟨a1, a2⟩ | ⟨p', q', s', f', a1, a2, a3, a4, a5⟩
    · refine Or.inl ⟨a1, fun p' q' s' f' x1 x2 => ?_⟩
      by_cases c : mcd p' q' s' f' < mcd p q s f
      · exact a2 p' q' s' f' x1 c
      · obtain ⟨e1, e2, e3, e4⟩ := mcd_inj hm ⟨x1.2.1, x1.2.2.1, x1.2.2.2.1⟩ ⟨hx.2.1, hx.2.2.1, hx.2.2.2.1⟩ (show mcd p' q' s' f' = mcd p q s f by omega)
        subst e1 e2 e3 e4
        exact fun z => e z.symm
    · exact Or.inr ⟨p', q', s', f', a1, by omega, a3, a4, a5⟩
theorem FB.no {M : MM} {V D : Nat → Nat} {lim m p q s f : Nat} (hm : m ≤ 14) (h : FB M V D lim m (mcd p q s f)) (hb : q < m ∧ s ≤ 9 ∧ f ≤ 3) (hx : ¬ mayV V D lim p s q f) : FB M V D lim m (mcd p q s f + 1) := by
  refine h.w (by omega) (fun p' q' s' f' x1 x2 => ?_)
  by_cases c : mcd p' q' s' f' = mcd p q s f
  · obtain ⟨e1, e2, e3, e4⟩ := mcd_inj hm ⟨x1.2.1, x1.2.2.1, x1.2.2.2.1⟩ hb c
    subst e1 e2 e3 e4
    exact absurd x1.2.2.2.2 hx
  · omega
section Mod
variable {Γ : GG} {L : Nat} {M : MM} {Q : QT} {V D : Nat → Nat} {lim m : Nat}
theorem n55 (hG : GOK Γ) (hm : m ≤ 14) (hV : ∀ k, k < m → V k ≤ 1023) (hD : ∀ k, k < m → D k ≤ 13) {p q s : Nat} (hp : p < m) (hq : q < m) (hs : s ≤ 9) (ho : OdR M m V D)
    (h : ∀ M', FB M' V D lim m (mcd p q s 4) → (∀ a, a ≠ 199 → M' a = M a) → wp Γ mX10_nears 45 [some (VR 187), some (VI lim), some (VI p), some (VI q), some (VI ((s + 1 : Nat) : Int))] [] 0 0 (W0 L) M' Q) :
    ∀ (j f : Nat) (M1 : MM), f + j = 4 → FB M1 V D lim m (mcd p q s f) → (∀ a, a ≠ 199 → M1 a = M a) → wp Γ mX10_nears 55 [some (VR 187), some (VI lim), some (VI p), some (VI q), some (VI s), some (VI f)] [] 0 0 (W0 L) M1 Q := by
  intro j
  induction j with
  | zero =>
    intro f M1 hj hF hf
    have e : f = 4 := by omega
    subst e
    refine vc_go hG 60 (B := bX10_nears) rfl ?_
    refine And.intro (fun y => ?_) (fun y => by omega)
    refine And.intro (by omega) ?_
    exact wp_pre [some (VR 187), some (VI lim), some (VI p), some (VI q), some (VI ((s + 1 : Nat) : Int))] [some (VI 4)] (h M1 hF hf)
  | succ j ih =>
    intro f M1 hj hF hf
    have ho1 : OdR M1 m V D := ho.keep (by rw [hf 187 (by decide)]) (hf 197 (by decide)) (hf 198 (by decide))
    have o1 := (ho1.2 p hp).1
    have o2 := (ho1.2 q hq).1
    have f3 : f ≤ 3 := by omega
    refine vc_goS hG 60 [145] (B := bX10_nears) rfl ?_
    refine And.intro (fun y => by omega) (fun y => ?_)
    refine And.intro rfl ?_
    refine m_mayBe hG ho1 hV hD hm rfl rfl rfl rfl rfl hp hs hq f3 (fun mb => ?_) (fun mb => ?_)
    · refine And.intro (fun y => absurd y (by decide)) (fun y => ?_)
      have hx : XM V D lim m p q s f := ⟨hp, hq, hs, f3, mb⟩
      have hc := mb.2.1
      have hc1 := mb.1
      refine And.intro rfl (Exists.intro _ (And.intro rfl ?_))
      refine And.intro (Or.inl rfl) (Exists.intro (p) (And.intro (by omega) (And.intro (show p < 14 by omega) ?_)))
      refine And.intro rfl (Exists.intro _ (And.intro rfl ?_))
      refine And.intro (Or.inl rfl) (Exists.intro (q) (And.intro (by omega) (And.intro (show q < 14 by omega) ?_)))
      refine m_comes hG o1 rfl o2 rfl (hV p hp) hs (hV q hq) f3 ?_
      refine m_oddPart hG rfl (by omega) ?_
      have hl : mkM V p q s f ≤ 1023 := Nat.le_trans (odp_le _) hc
      have fin : ∀ y : Int, (M1 199 (mkM V p q s f) = 0 → y = ((mcd p q s f + 1 : Nat) : Int)) → (M1 199 (mkM V p q s f) ≠ 0 → y = M1 199 (mkM V p q s f)) → wp Γ mX10_nears 145 [some (VR 187), some (VI lim), some (VI p), some (VI q), some (VI s), some (VI f), some (VI (mkM V p q s f : Nat))] [VI y, VI (mkM V p q s f : Nat), VR 199] 0 0 (W0 L) M1 Q := by
        intro y y0 y1
        refine vc_go hG 60 (B := bX10_nears) rfl ?_
        refine And.intro rfl (Exists.intro (mkM V p q s f) (And.intro rfl (And.intro (show mkM V p q s f < 1024 by omega) ?_)))
        refine And.intro (by omega) ?_
        refine wp_pre [some (VR 187), some (VI lim), some (VI p), some (VI q), some (VI s), some (VI ((f + 1 : Nat) : Int))] [some (VI (mkM V p q s f : Nat))] ?_
        exact ih (f + 1) _ (by omega) (hF.put hm hx y0 y1) (fun a ha => by rw [upM_ne ha]; exact hf a ha)
      refine And.intro rfl (Exists.intro _ (And.intro rfl ?_))
      refine And.intro rfl (Exists.intro _ (And.intro rfl ?_))
      refine And.intro (Or.inl rfl) (Exists.intro (mkM V p q s f) (And.intro rfl (And.intro (show mkM V p q s f < 1024 by omega) ?_)))
      refine And.intro (fun y2 => ?_) (fun y2 => ?_)
      · refine And.intro rfl (Exists.intro _ (And.intro rfl ?_))
        refine And.intro (Or.inl rfl) (Exists.intro (mkM V p q s f) (And.intro rfl (And.intro (show mkM V p q s f < 1024 by omega) ?_)))
        exact fin _ (fun z => absurd z y2) (fun _ => rfl)
      · refine And.intro (by omega) ?_
        refine And.intro (by omega) ?_
        refine And.intro (by omega) ?_
        refine And.intro (by omega) ?_
        refine And.intro (by omega) ?_
        refine And.intro (by omega) ?_
        refine And.intro (by omega) ?_
        exact fin _ (fun _ => by unfold mcd; omega) (fun z => absurd y2 z)
    · refine And.intro (fun y => ?_) (fun y => absurd rfl y)
      refine And.intro (by omega) ?_
      exact ih (f + 1) M1 (by omega) (hF.no hm ⟨hq, hs, f3⟩ mb) hf
theorem n45 (hG : GOK Γ) (hm : m ≤ 14) (hV : ∀ k, k < m → V k ≤ 1023) (hD : ∀ k, k < m → D k ≤ 13) {p q : Nat} (hp : p < m) (hq : q < m) (ho : OdR M m V D)
    (h : ∀ M', FB M' V D lim m (mcd p q 10 0) → (∀ a, a ≠ 199 → M' a = M a) → wp Γ mX10_nears 34 [some (VR 187), some (VI lim), some (VI p), some (VI ((q + 1 : Nat) : Int))] [] 0 0 (W0 L) M' Q) :
    ∀ (j s : Nat) (M1 : MM), s + j = 10 → FB M1 V D lim m (mcd p q s 0) → (∀ a, a ≠ 199 → M1 a = M a) → wp Γ mX10_nears 45 [some (VR 187), some (VI lim), some (VI p), some (VI q), some (VI s)] [] 0 0 (W0 L) M1 Q := by
  intro j
  induction j with
  | zero =>
    intro s M1 hj hF hf
    have e : s = 10 := by omega
    subst e
    refine vc_go hG 60 (B := bX10_nears) rfl ?_
    refine And.intro (fun y => ?_) (fun y => by omega)
    refine And.intro (by omega) ?_
    exact wp_pre [some (VR 187), some (VI lim), some (VI p), some (VI ((q + 1 : Nat) : Int))] [some (VI 10)] (h M1 hF hf)
  | succ j ih =>
    intro s M1 hj hF hf
    refine vc_go hG 60 (B := bX10_nears) rfl ?_
    refine And.intro (fun y => by omega) (fun y => ?_)
    refine n55 hG hm hV hD hp hq (by omega) (ho.keep (by rw [hf 187 (by decide)]) (hf 197 (by decide)) (hf 198 (by decide))) (fun M2 F2 g2 => ?_) 4 0 M1 rfl hF (fun _ _ => rfl)
    exact ih (s + 1) M2 (by omega) (by rw [show mcd p q (s + 1) 0 = mcd p q s 4 by unfold mcd; omega]; exact F2) (fun a ha => by rw [g2 a ha]; exact hf a ha)
theorem n34 (hG : GOK Γ) (hm : m ≤ 14) (hV : ∀ k, k < m → V k ≤ 1023) (hD : ∀ k, k < m → D k ≤ 13) {p : Nat} (hp : p < m) (ho : OdR M m V D)
    (h : ∀ M', FB M' V D lim m (mcd p m 0 0) → (∀ a, a ≠ 199 → M' a = M a) → wp Γ mX10_nears 24 [some (VR 187), some (VI lim), some (VI ((p + 1 : Nat) : Int))] [] 0 0 (W0 L) M' Q) :
    ∀ (j q : Nat) (M1 : MM), q + j = m → FB M1 V D lim m (mcd p q 0 0) → (∀ a, a ≠ 199 → M1 a = M a) → wp Γ mX10_nears 34 [some (VR 187), some (VI lim), some (VI p), some (VI q)] [] 0 0 (W0 L) M1 Q := by
  intro j
  induction j with
  | zero =>
    intro q M1 hj hF hf
    have e : q = m := by omega
    subst e
    have e20 : M1 187 20 = q := by rw [hf 187 (by decide)]; exact ho.1
    refine vc_go hG 60 (B := bX10_nears) rfl ?_
    refine And.intro rfl ?_
    refine And.intro (fun y => ?_) (fun y => by omega)
    refine And.intro (by omega) ?_
    exact wp_pre [some (VR 187), some (VI lim), some (VI ((p + 1 : Nat) : Int))] [some (VI q)] (h M1 hF hf)
  | succ j ih =>
    intro q M1 hj hF hf
    have ho1 : OdR M1 m V D := ho.keep (by rw [hf 187 (by decide)]) (hf 197 (by decide)) (hf 198 (by decide))
    have e20 := ho1.1
    refine vc_go hG 60 (B := bX10_nears) rfl ?_
    refine And.intro rfl ?_
    refine And.intro (fun y => by omega) (fun y => ?_)
    refine n45 hG hm hV hD hp (by omega) ho1 (fun M2 F2 g2 => ?_) 10 0 M1 rfl hF (fun _ _ => rfl)
    refine ih (q + 1) M2 (by omega) (F2.w (by unfold mcd; omega) (fun p' q' s' f' x1 x2 => ?_)) (fun a ha => by rw [g2 a ha]; exact hf a ha)
    exact mcd_q hm (by omega) ⟨x1.2.1, x1.2.2.1, x1.2.2.2.1⟩ x2
theorem n24 (hG : GOK Γ) (hm : m ≤ 14) (hV : ∀ k, k < m → V k ≤ 1023) (hD : ∀ k, k < m → D k ≤ 13) (ho : OdR M m V D)
    (h : ∀ M', FB M' V D lim m (mcd m 0 0 0) → (∀ a, a ≠ 199 → M' a = M a) → wp Γ mX10_nears 172 [some (VR 187), some (VI lim), some (VI 0)] [] 0 0 (W0 L) M' Q) :
    ∀ (j p : Nat) (M1 : MM), p + j = m → FB M1 V D lim m (mcd p 0 0 0) → (∀ a, a ≠ 199 → M1 a = M a) → wp Γ mX10_nears 24 [some (VR 187), some (VI lim), some (VI p)] [] 0 0 (W0 L) M1 Q := by
  intro j
  induction j with
  | zero =>
    intro p M1 hj hF hf
    have e : p = m := by omega
    subst e
    have e20 : M1 187 20 = p := by rw [hf 187 (by decide)]; exact ho.1
    refine vc_go hG 60 (B := bX10_nears) rfl ?_
    refine And.intro rfl ?_
    refine And.intro (fun y => ?_) (fun y => by omega)
    exact h M1 hF hf
  | succ j ih =>
    intro p M1 hj hF hf
    have ho1 : OdR M1 m V D := ho.keep (by rw [hf 187 (by decide)]) (hf 197 (by decide)) (hf 198 (by decide))
    have e20 := ho1.1
    refine vc_go hG 60 (B := bX10_nears) rfl ?_
    refine And.intro rfl ?_
    refine And.intro (fun y => by omega) (fun y => ?_)
    refine n34 hG hm hV hD (by omega) ho1 (fun M2 F2 g2 => ?_) m 0 M1 (by omega) hF (fun _ _ => rfl)
    refine ih (p + 1) M2 (by omega) (F2.w (by unfold mcd; omega) (fun p' q' s' f' x1 x2 => ?_)) (fun a ha => by rw [g2 a ha]; exact hf a ha)
    exact mcd_p hm ⟨x1.2.1, x1.2.2.1, x1.2.2.2.1⟩ x2
/-- those that are there are not near -/
def FC (M : MM) (V D : Nat → Nat) (lim m b : Nat) : Prop := ∀ v, v < 1024 → (M 199 v = 0 ∧ ((∃ k, k < b ∧ V k = v) ∨ ∀ p q s f, XM V D lim m p q s f → mkM V p q s f ≠ v)) ∨ ((∀ k, k < b → V k ≠ v) ∧ ∃ p q s f, XM V D lim m p q s f ∧ mkM V p q s f = v ∧ M 199 v = ((mcd p q s f + 1 : Nat) : Int) ∧ ∀ p' q' s' f', XM V D lim m p' q' s' f' → mkM V p' q' s' f' = v → mcd p q s f ≤ mcd p' q' s' f')
theorem n172 (hG : GOK Γ) (hm : m ≤ 14) (hV : ∀ k, k < m → V k ≤ 1023) (ho : OdR M m V D) (h : ∀ M', FC M' V D lim m m → (∀ a, a ≠ 199 → M' a = M a) → Q none (W0 L) M') :
    ∀ (j k : Nat) (M1 : MM), k + j = m → FC M1 V D lim m k → (∀ a, a ≠ 199 → M1 a = M a) → wp Γ mX10_nears 172 [some (VR 187), some (VI lim), some (VI k)] [] 0 0 (W0 L) M1 Q := by
  intro j
  induction j with
  | zero =>
    intro k M1 hj hF hf
    have e : k = m := by omega
    subst e
    have e20 : M1 187 20 = k := by rw [hf 187 (by decide)]; exact ho.1
    refine vc_go hG 60 (B := bX10_nears) rfl ?_
    refine And.intro rfl ?_
    exact And.intro (fun y => h M1 hF hf) (fun y => by omega)
  | succ j ih =>
    intro k M1 hj hF hf
    have ho1 : OdR M1 m V D := ho.keep (by rw [hf 187 (by decide)]) (hf 197 (by decide)) (hf 198 (by decide))
    have e20 := ho1.1
    have ok := (ho1.2 k (by omega)).1
    have vk := hV k (by omega)
    refine vc_go hG 60 (B := bX10_nears) rfl ?_
    refine And.intro rfl ?_
    refine And.intro (fun y => by omega) (fun y => ?_)
    refine And.intro rfl (Exists.intro _ (And.intro rfl ?_))
    refine And.intro rfl (Exists.intro _ (And.intro rfl ?_))
    refine And.intro (Or.inl rfl) (Exists.intro (k) (And.intro (by omega) (And.intro (show k < 14 by omega) ?_)))
    refine And.intro rfl (Exists.intro (V k) (And.intro ok (And.intro (show V k < 1024 by omega) ?_)))
    refine And.intro (by omega) ?_
    refine ih (k + 1) _ (by omega) (fun v hv => ?_) (fun a ha => by rw [upM_ne ha]; exact hf a ha)
    by_cases e : v = V k
    · subst e
      rw [upM_eq]
      exact Or.inl ⟨rfl, Or.inl ⟨k, by omega, rfl⟩⟩
    · rw [upM_k e]
      rcases hF v hv with ⟨a1, ⟨i, i1, i2⟩ | a2⟩ | ⟨a1, a2⟩
      · exact Or.inl ⟨a1, Or.inl ⟨i, by omega, i2⟩⟩
      · exact Or.inl ⟨a1, Or.inr a2⟩
      · refine Or.inr ⟨fun i hi => ?_, a2⟩
        by_cases c : i = k
        · subst c; exact fun z => e z.symm
        · exact a1 i (by omega)
theorem n2 (hG : GOK Γ) {lI : Int} (h : ∀ M' : MM, (∀ v, v < 1024 → M' 199 v = 0) → (∀ a, a ≠ 199 → M' a = M a) → wp Γ mX10_nears 24 [some (VR 187), some (VI lI), some (VI 0)] [] 0 0 (W0 L) M' Q) : ∀ (j k : Nat) (M1 : MM), k + j = 1024 → (∀ v, v < k → M1 199 v = 0) → (∀ a, a ≠ 199 → M1 a = M a) → wp Γ mX10_nears 2 [some (VR 187), some (VI lI), some (VI k)] [] 0 0 (W0 L) M1 Q := by
  intro j
  induction j with
  | zero =>
    intro k M1 hj hz hf
    have e : k = 1024 := by omega
    subst e
    refine vc_go hG 60 (B := bX10_nears) rfl ?_
    exact And.intro (fun y => h M1 hz hf) (fun y => by omega)
  | succ j ih =>
    intro k M1 hj hz hf
    refine vc_go hG 60 (B := bX10_nears) rfl ?_
    refine And.intro (fun y => by omega) (fun y => ?_)
    refine And.intro rfl (Exists.intro _ (And.intro rfl ?_))
    refine And.intro rfl (Exists.intro (k) (And.intro (by omega) (And.intro (show k < 1024 by omega) ?_)))
    refine And.intro (by omega) ?_
    refine ih (k + 1) _ (by omega) (fun v hv => ?_) (fun a ha => by rw [upM_ne ha]; exact hf a ha)
    by_cases e : v = k
    · subst e; rw [upM_eq]
    · rw [upM_k e]; exact hz v (by omega)
theorem m_nears (hG : GOK Γ) (hm : m ≤ 14) (hV : ∀ k, k < m → V k ≤ 1023) (hD : ∀ k, k < m → D k ≤ 13) (ho : OdR M m V D) {lI : Int} (el : lI = lim) (h : ∀ M', FC M' V D lim m m → (∀ a, a ≠ 199 → M' a = M a) → Q none (W0 L) M') : wp Γ mX10_nears 0 [some (VR 187), some (VI lI)] [] 0 0 (W0 L) M Q := by
  subst el
  refine vc_go hG 60 (B := bX10_nears) rfl ?_
  refine n2 hG (fun M1 z1 f1 => ?_) 1024 0 M rfl (fun v hv => absurd hv (Nat.not_lt_zero v)) (fun _ _ => rfl)
  have k1 : ∀ {M' : MM}, (∀ a, a ≠ 199 → M' a = M a) → OdR M' m V D := fun hf => ho.keep (by rw [hf 187 (by decide)]) (hf 197 (by decide)) (hf 198 (by decide))
  refine n24 hG hm hV hD (k1 f1) (fun M2 F2 f2 => ?_) m 0 M1 (by omega) (fun v hv => Or.inl ⟨z1 v hv, fun p q s f _ x => absurd x (by unfold mcd; omega)⟩) (fun _ _ => rfl)
  have f3 : ∀ a, a ≠ 199 → M2 a = M a := fun a ha => by rw [f2 a ha]; exact f1 a ha
  refine n172 hG hm hV (k1 f3) (fun M3 F3 f4 => h M3 F3 (fun a ha => by rw [f4 a ha]; exact f3 a ha)) m 0 M2 (by omega) (fun v hv => ?_) (fun _ _ => rfl)
  rcases F2 v hv with ⟨a1, a2⟩ | ⟨p, q, s, f, a1, a2, a3, a4, a5⟩
  · refine Or.inl ⟨a1, Or.inr (fun p q s f x => a2 p q s f x ?_)⟩
    obtain ⟨b1, b2, b3, b4, -⟩ := x
    unfold mcd
    omega
  · exact Or.inr ⟨fun k hk => absurd hk (Nat.not_lt_zero k), p, q, s, f, a1, a3, a4, a5⟩
end Mod
