/-! ===== the model: two ===== -/
def BLk (V D : Nat → Nat) (lim last v k s f : Nat) : Prop := (mayV V D lim last s k f ∧ mkM V last k s f = v) ∨ (mayV V D lim k s last f ∧ mkM V k last s f = v)
def BL (V D : Nat → Nat) (lim last v : Nat) : Prop := ∃ k s f, k ≤ last ∧ s ≤ 9 ∧ f ≤ 3 ∧ BLk V D lim last v k s f
section Mod
variable {Γ : GG} {L : Nat} {M : MM} {Q : QT} {V D : Nat → Nat} {lim m v : Nat}
theorem b32 (hG : GOK Γ) (hm : m + 1 ≤ 14) (ho : OdR M (m + 1) V D) (hV : ∀ k, k < m + 1 → V k ≤ 1023) (hD : ∀ k, k < m + 1 → D k ≤ 13) {k s : Nat} (hk : k < m + 1) (hs : s ≤ 9) (h1 : ∀ f, f ≤ 3 → BLk V D lim m v k s f → Q (some (VI 1)) (W0 L) M)
    (h : (∀ f, f < 4 → ¬ BLk V D lim m v k s f) → wp Γ mX10_isByLast 22 [some (VR 187), some (VI v), some (VI lim), some (VI m), some (VI k), some (VI ((s + 1 : Nat) : Int))] [] 0 0 (W0 L) M Q) :
    ∀ (j f : Nat), f + j = 4 → (∀ f', f' < f → ¬ BLk V D lim m v k s f') → wp Γ mX10_isByLast 32 [some (VR 187), some (VI v), some (VI lim), some (VI m), some (VI k), some (VI s), some (VI f)] [] 0 0 (W0 L) M Q := by
  have o1 := (ho.2 m (by omega)).1
  have o2 := (ho.2 k hk).1
  intro j
  induction j with
  | zero =>
    intro f hj hn
    have e : f = 4 := by omega
    subst e
    refine vc_go hG 60 (B := bX10_isByLast) rfl ?_
    refine And.intro (fun y => ?_) (fun y => by omega)
    refine And.intro (by omega) ?_
    exact wp_pre [some (VR 187), some (VI v), some (VI lim), some (VI m), some (VI k), some (VI ((s + 1 : Nat) : Int))] [some (VI 4)] (h hn)
  | succ j ih =>
    intro f hj hn
    have f3 : f ≤ 3 := by omega
    have last : ∀ z z' : Int, ((z = 1 ∧ mayV V D lim m s k f ∧ mkM V m k s f = v) ∨ (z = 0 ∧ ¬ (mayV V D lim m s k f ∧ mkM V m k s f = v))) → ((z' = 1 ∧ mayV V D lim k s m f ∧ mkM V k m s f = v) ∨ (z' = 0 ∧ ¬ (mayV V D lim k s m f ∧ mkM V k m s f = v))) → wp Γ mX10_isByLast 136 [some (VR 187), some (VI v), some (VI lim), some (VI m), some (VI k), some (VI s), some (VI f), some (VI z), some (VI z')] [] 0 0 (W0 L) M Q := by
      intro z z' hz hz'
      refine vc_go hG 60 (B := bX10_isByLast) rfl ?_
      refine And.intro (fun y => And.intro (Or.inr rfl) ?_) (fun y => ?_)
      · rcases hz with ⟨a1, a2⟩ | ⟨a1, a2⟩
        · exact h1 f f3 (Or.inl a2)
        · omega
      · refine And.intro (fun y2 => ?_) (fun y2 => And.intro (Or.inr rfl) ?_)
        · refine And.intro (by omega) ?_
          refine wp_pre [some (VR 187), some (VI v), some (VI lim), some (VI m), some (VI k), some (VI s), some (VI ((f + 1 : Nat) : Int))] [some (VI z), some (VI z')] ?_
          refine ih (f + 1) (by omega) (fun f' hf' => ?_)
          by_cases c : f' = f
          · subst c
            intro q
            rcases q with q | q
            · rcases hz with ⟨a1, a2⟩ | ⟨a1, a2⟩
              · omega
              · exact a2 q
            · rcases hz' with ⟨a1, a2⟩ | ⟨a1, a2⟩
              · omega
              · exact a2 q
          · exact hn f' (by omega)
        · rcases hz' with ⟨a1, a2⟩ | ⟨a1, a2⟩
          · exact h1 f f3 (Or.inr a2)
          · omega
    have mid : ∀ z : Int, ((z = 1 ∧ mayV V D lim m s k f ∧ mkM V m k s f = v) ∨ (z = 0 ∧ ¬ (mayV V D lim m s k f ∧ mkM V m k s f = v))) → wp Γ mX10_isByLast 87 [some (VR 187), some (VI v), some (VI lim), some (VI m), some (VI k), some (VI s), some (VI f), some (VI z)] [] 0 0 (W0 L) M Q := by
      intro z hz
      refine vc_goS hG 60 [136] (B := bX10_isByLast) rfl ?_
      refine And.intro rfl ?_
      refine m_mayBe hG ho hV hD hm rfl rfl rfl rfl rfl hk hs (by omega) f3 (fun mb => ?_) (fun mb => ?_)
      · refine And.intro (fun y => absurd y (by decide)) (fun y => ?_)
        have hc := mb.2.1
        refine And.intro rfl (Exists.intro _ (And.intro rfl ?_))
        refine And.intro (Or.inl rfl) (Exists.intro (k) (And.intro (by omega) (And.intro (show k < 14 by omega) ?_)))
        refine And.intro rfl (Exists.intro _ (And.intro rfl ?_))
        refine And.intro (Or.inl rfl) (Exists.intro (m) (And.intro (by omega) (And.intro (show m < 14 by omega) ?_)))
        refine m_comes hG o2 rfl o1 rfl (hV k hk) hs (hV m (by omega)) f3 ?_
        refine m_oddPart hG rfl (by omega) ?_
        refine And.intro (fun y => ?_) (fun y => ?_)
        · exact last z 0 hz (Or.inr ⟨rfl, fun x => y (by rw [← x.2])⟩)
        · exact last z 1 hz (Or.inl ⟨rfl, mb, Int.ofNat.inj y⟩)
      · refine And.intro (fun y => ?_) (fun y => absurd rfl y)
        exact last z 0 hz (Or.inr ⟨rfl, fun x => mb x.1⟩)
    refine vc_goS hG 60 [87] (B := bX10_isByLast) rfl ?_
    refine And.intro (fun y => by omega) (fun y => ?_)
    refine And.intro rfl ?_
    refine m_mayBe hG ho hV hD hm rfl rfl rfl rfl rfl (by omega) hs hk f3 (fun mb => ?_) (fun mb => ?_)
    · refine And.intro (fun y => absurd y (by decide)) (fun y => ?_)
      have hc := mb.2.1
      refine And.intro rfl (Exists.intro _ (And.intro rfl ?_))
      refine And.intro (Or.inl rfl) (Exists.intro (m) (And.intro (by omega) (And.intro (show m < 14 by omega) ?_)))
      refine And.intro rfl (Exists.intro _ (And.intro rfl ?_))
      refine And.intro (Or.inl rfl) (Exists.intro (k) (And.intro (by omega) (And.intro (show k < 14 by omega) ?_)))
      refine m_comes hG o1 rfl o2 rfl (hV m (by omega)) hs (hV k hk) f3 ?_
      refine m_oddPart hG rfl (by omega) ?_
      refine And.intro (fun y => ?_) (fun y => ?_)
      · exact mid 0 (Or.inr ⟨rfl, fun x => y (by rw [← x.2])⟩)
      · exact mid 1 (Or.inl ⟨rfl, mb, Int.ofNat.inj y⟩)
    · refine And.intro (fun y => ?_) (fun y => absurd rfl y)
      exact mid 0 (Or.inr ⟨rfl, fun x => mb x.1⟩)
theorem b22 (hG : GOK Γ) (hm : m + 1 ≤ 14) (ho : OdR M (m + 1) V D) (hV : ∀ k, k < m + 1 → V k ≤ 1023) (hD : ∀ k, k < m + 1 → D k ≤ 13) {k : Nat} (hk : k < m + 1) (h1 : ∀ s f, s ≤ 9 → f ≤ 3 → BLk V D lim m v k s f → Q (some (VI 1)) (W0 L) M)
    (h : (∀ s f, s < 10 → f < 4 → ¬ BLk V D lim m v k s f) → wp Γ mX10_isByLast 10 [some (VR 187), some (VI v), some (VI lim), some (VI m), some (VI ((k + 1 : Nat) : Int))] [] 0 0 (W0 L) M Q) :
    ∀ (j s : Nat), s + j = 10 → (∀ s' f, s' < s → f < 4 → ¬ BLk V D lim m v k s' f) → wp Γ mX10_isByLast 22 [some (VR 187), some (VI v), some (VI lim), some (VI m), some (VI k), some (VI s)] [] 0 0 (W0 L) M Q := by
  intro j
  induction j with
  | zero =>
    intro s hj hn
    have e : s = 10 := by omega
    subst e
    refine vc_go hG 60 (B := bX10_isByLast) rfl ?_
    refine And.intro (fun y => ?_) (fun y => by omega)
    refine And.intro (by omega) ?_
    exact wp_pre [some (VR 187), some (VI v), some (VI lim), some (VI m), some (VI ((k + 1 : Nat) : Int))] [some (VI 10)] (h hn)
  | succ j ih =>
    intro s hj hn
    refine vc_go hG 60 (B := bX10_isByLast) rfl ?_
    refine And.intro (fun y => by omega) (fun y => ?_)
    refine b32 hG hm ho hV hD hk (by omega) (fun f hf => h1 s f (by omega) hf) (fun hn2 => ?_) 4 0 rfl (fun f' hf' => absurd hf' (Nat.not_lt_zero f'))
    refine ih (s + 1) (by omega) (fun s' f hs' hf => ?_)
    by_cases c : s' = s
    · subst c; exact hn2 f hf
    · exact hn s' f (by omega) hf
theorem b10 (hG : GOK Γ) (hm : m + 1 ≤ 14) (ho : OdR M (m + 1) V D) (hV : ∀ k, k < m + 1 → V k ≤ 1023) (hD : ∀ k, k < m + 1 → D k ≤ 13) (h1 : BL V D lim m v → Q (some (VI 1)) (W0 L) M) (h0 : ¬ BL V D lim m v → Q (some (VI 0)) (W0 L) M) :
    ∀ (j k : Nat), k + j = m + 1 → (∀ k' s f, k' < k → s < 10 → f < 4 → ¬ BLk V D lim m v k' s f) → wp Γ mX10_isByLast 10 [some (VR 187), some (VI v), some (VI lim), some (VI m), some (VI k)] [] 0 0 (W0 L) M Q := by
  have e20 := ho.1
  intro j
  induction j with
  | zero =>
    intro k hj hn
    refine vc_go hG 60 (B := bX10_isByLast) rfl ?_
    refine And.intro rfl ?_
    refine And.intro (fun y => And.intro (Or.inl rfl) (h0 (fun x => ?_))) (fun y => by omega)
    obtain ⟨k', s, f, x1, x2, x3, x4⟩ := x
    exact hn k' s f (by omega) (by omega) (by omega) x4
  | succ j ih =>
    intro k hj hn
    refine vc_go hG 60 (B := bX10_isByLast) rfl ?_
    refine And.intro rfl ?_
    refine And.intro (fun y => by omega) (fun y => ?_)
    refine b22 hG hm ho hV hD (by omega) (fun s f hs hf x => h1 ⟨k, s, f, by omega, hs, hf, x⟩) (fun hn2 => ?_) 10 0 rfl (fun s' f hs' => absurd hs' (Nat.not_lt_zero s'))
    refine ih (k + 1) (by omega) (fun k' s f hk' hs hf => ?_)
    by_cases c : k' = k
    · subst c; exact hn2 s f hs hf
    · exact hn k' s f (by omega) hs hf
theorem m_isByLast (hG : GOK Γ) (hm : m + 1 ≤ 14) (ho : OdR M (m + 1) V D) (hV : ∀ k, k < m + 1 → V k ≤ 1023) (hD : ∀ k, k < m + 1 → D k ≤ 13) {vI lI : Int} (ev : vI = v) (el : lI = lim) (h1 : BL V D lim m v → Q (some (VI 1)) (W0 L) M) (h0 : ¬ BL V D lim m v → Q (some (VI 0)) (W0 L) M) : wp Γ mX10_isByLast 0 [some (VR 187), some (VI vI), some (VI lI)] [] 0 0 (W0 L) M Q := by
  subst ev el
  have e20 := ho.1
  have e : M 187 20 - 1 = (m : Int) := by omega
  refine vc_go hG 60 (B := bX10_isByLast) rfl ?_
  refine And.intro rfl ?_
  refine And.intro (by omega) ?_
  rw [e]
  exact b10 hG hm ho hV hD h1 h0 (m + 1) 0 (by omega) (fun k' s f hk' => absurd hk' (Nat.not_lt_zero k'))
end Mod
/-- a number that is near, and with it v -/
def twM (G : GT) (v e : Nat) : Prop := isNr G e ∧ ∃ p q s f, byW G e p q s f ∧ BL (upN (qV G) (qn G + 1) e) (upN (qD G) (qn G + 1) (dpt G p q)) (qL G) (qn G + 1) v
/-- twoOf changes but what lies behind the odd numbers -/
def frW (M M' : MM) (m : Nat) : Prop := (∀ a, a ≠ 197 → a ≠ 198 → a ≠ 187 → M' a = M a) ∧ (∀ j, j ≠ 20 → M' 187 j = M 187 j) ∧ (∀ k, k ≠ m → M' 197 k = M 197 k ∧ M' 198 k = M 198 k) ∧ (OB M → OB M')
theorem frW.u {M M' : MM} {m : Nat} (h : frW M M' m) {x : Int} (hx : 0 ≤ x ∧ x ≤ 1023) : frW M (upM M' 197 m x) m := ⟨fun a a1 a2 a3 => by rw [upM_ne a1]; exact h.1 a a1 a2 a3, fun j hj => by rw [upM_a (by decide)]; exact h.2.1 j hj, fun k hk => by rw [upM_k hk, upM_a (by decide)]; exact h.2.2.1 k hk, fun z => (h.2.2.2 z).up hx⟩
theorem frW.u2 {M M' : MM} {m : Nat} (h : frW M M' m) {x : Int} (hx : 0 ≤ x ∧ x ≤ 13) : frW M (upM M' 198 m x) m := ⟨fun a a1 a2 a3 => by rw [upM_ne a2]; exact h.1 a a1 a2 a3, fun j hj => by rw [upM_a (by decide)]; exact h.2.1 j hj, fun k hk => by rw [upM_a (by decide), upM_k hk]; exact h.2.2.1 k hk, fun z => (h.2.2.2 z).up2 hx⟩
theorem frW.u3 {M M' : MM} {m : Nat} (h : frW M M' m) {x : Int} : frW M (upM M' 187 20 x) m := ⟨fun a a1 a2 a3 => by rw [upM_ne a3]; exact h.1 a a1 a2 a3, fun j hj => by rw [upM_k hj]; exact h.2.1 j hj, fun k hk => by rw [upM_a (by decide), upM_a (by decide)]; exact h.2.2.1 k hk, fun z => (h.2.2.2 z).up3 (by decide) (by decide)⟩
theorem frW_r (M : MM) (m : Nat) : frW M M m := ⟨fun _ _ _ _ => rfl, fun _ _ => rfl, fun _ _ => ⟨rfl, rfl⟩, fun z => z⟩
section Mod
variable {Γ : GG} {L : Nat} {M : MM} {Q : QT} {G : GT}
theorem l_twoOf (hG : GOK Γ) (hw : WFG G) (ho : OdR M (qn G + 1) (qV G) (qD G)) (ht : NF M G) {v : Nat} (h : ∀ r M', isLst (twM G v) r → OdR M' (qn G + 1) (qV G) (qD G) → NF M' G → frW M M' (qn G + 1) → Q (some (VI r)) (W0 L) M') :
    ∀ (j i : Nat) (r : Int) (M1 : MM), i + j = 512 → M1 187 20 = ((qn G + 2 : Nat) : Int) → frW M M1 (qn G + 1) → ((r = -9 ∧ ∀ e', e' < 2 * i + 1 → ¬ twM G v e') ∨ (∃ e0 : Nat, r = e0 ∧ twM G v e0 ∧ ∀ e', e' < e0 → ¬ twM G v e')) → wp Γ mX10_twoOf 36 [some (VR 187), some (VI (qL G)), some (VI v), some (VI r), some (VI ((2 * i + 1 : Nat) : Int))] [] 0 0 (W0 L) M1 Q := by
  have n12 := hw.1
  have fin : ∀ (r : Int) (e : Int) (M1 : MM), M1 187 20 = ((qn G + 2 : Nat) : Int) → frW M M1 (qn G + 1) → isLst (twM G v) r → wp Γ mX10_twoOf 132 [some (VR 187), some (VI (qL G)), some (VI v), some (VI r), some (VI e)] [] 0 0 (W0 L) M1 Q := by
    intro r e M1 e20 hf hr
    refine vc_go hG 60 (B := bX10_twoOf) rfl ?_
    refine And.intro rfl ?_
    refine And.intro (by omega) ?_
    refine And.intro rfl ?_
    refine h r _ hr ⟨by rw [upM_eq, e20]; omega, fun k hk => ?_⟩ (ht.keep (by rw [upM_ne (by decide)]; exact hf.1 199 (by decide) (by decide) (by decide))) hf.u3
    rw [upM_a (by decide), upM_a (by decide), (hf.2.2.1 k (by omega)).1, (hf.2.2.1 k (by omega)).2]
    exact ho.2 k hk
  intro j
  induction j with
  | zero =>
    intro i r M1 hj e20 hf hr
    refine vc_goS hG 60 [132] (B := bX10_twoOf) rfl ?_
    refine And.intro (fun y => ?_) (fun y => by omega)
    refine fin r _ M1 e20 hf ?_
    rcases hr with ⟨a1, a2⟩ | a1
    · refine Or.inl ⟨a1, fun e z => a2 e ?_ z⟩
      have := isNr_b z.1
      omega
    · exact Or.inr a1
  | succ j ih =>
    intro i r M1 hj e20 hf hr
    refine vc_goS hG 80 [132] (B := bX10_twoOf) rfl ?_
    refine And.intro (fun y => by omega) (fun y => ?_)
    rcases hr with ⟨a1, a2⟩ | ⟨e0, a1, a2⟩
    · refine And.intro (fun y => absurd a1 y) (fun y => ?_)
      have ht1 : NF M1 G := ht.keep (hf.1 199 (by decide) (by decide) (by decide))
      refine And.intro rfl (Exists.intro _ (And.intro rfl ?_))
      refine And.intro (Or.inl rfl) (Exists.intro (2 * i + 1) (And.intro (by omega) (And.intro (show 2 * i + 1 < 1024 by omega) ?_)))
      rcases ht1.nr (v := 2 * i + 1) (by omega) with ⟨b1, b2, p, q, s, f, b3, b4⟩ | ⟨b1, b2⟩
      · refine And.intro (fun y => by omega) (fun y => ?_)
        have bb := byW_b hw b3
        have d1 := WFG_D hw p bb.1
        have d2 := WFG_D hw q bb.2.1
        refine And.intro rfl (Exists.intro _ (And.intro rfl ?_))
        refine And.intro rfl ?_
        refine And.intro (by omega) ?_
        refine And.intro rfl (Exists.intro (qn G + 1) (And.intro (by omega) (And.intro (show qn G + 1 < 14 by omega) ?_)))
        have f2 : frW M (upM M1 197 (qn G + 1) ((2 * i + 1 : Nat) : Int)) (qn G + 1) := hf.u (by omega)
        have od2 : ∀ k, k < qn G + 1 → upM M1 197 (qn G + 1) ((2 * i + 1 : Nat) : Int) 197 k = qV G k ∧ upM M1 197 (qn G + 1) ((2 * i + 1 : Nat) : Int) 198 k = qD G k := fun k hk => by
          rw [(f2.2.2.1 k (by omega)).1, (f2.2.2.1 k (by omega)).2]
          exact ho.2 k hk
        have c4 : upM M1 197 (qn G + 1) ((2 * i + 1 : Nat) : Int) 199 (2 * i + 1) = ((mcd p q s f + 1 : Nat) : Int) := by rw [upM_a (by decide)]; exact b4
        have c20 : upM M1 197 (qn G + 1) ((2 * i + 1 : Nat) : Int) 187 20 = ((qn G + 2 : Nat) : Int) := by rw [upM_a (by decide)]; exact e20
        have c9 : upM M1 197 (qn G + 1) ((2 * i + 1 : Nat) : Int) 197 (qn G + 1) = ((2 * i + 1 : Nat) : Int) := upM_eq
        generalize upM M1 197 (qn G + 1) ((2 * i + 1 : Nat) : Int) = M2 at f2 od2 c4 c20 c9
        refine And.intro rfl (Exists.intro _ (And.intro rfl ?_))
        refine And.intro rfl ?_
        refine And.intro (by omega) ?_
        refine And.intro rfl (Exists.intro _ (And.intro rfl ?_))
        refine And.intro (Or.inl rfl) (Exists.intro (2 * i + 1) (And.intro (by omega) (And.intro (show 2 * i + 1 < 1024 by omega) ?_)))
        refine m_partOf hG c4 (by omega) (by omega) bb.2.2.1 bb.2.2.2.1 ?_
        refine And.intro rfl (Exists.intro _ (And.intro rfl ?_))
        refine And.intro (Or.inl rfl) (Exists.intro (2 * i + 1) (And.intro (by omega) (And.intro (show 2 * i + 1 < 1024 by omega) ?_)))
        refine m_partOf hG c4 (by omega) (by omega) bb.2.2.1 bb.2.2.2.1 ?_
        refine And.intro rfl ?_
        refine m_deeperB hG (m := qn G + 1) od2 (fun k hk => by have := WFG_D hw k (by omega); omega) rfl rfl (by omega) (by omega) (by omega) ?_
        refine And.intro rfl (Exists.intro (qn G + 1) (And.intro (by omega) (And.intro (show qn G + 1 < 14 by omega) ?_)))
        have dl : dpt G p q ≤ 13 := by
          show max (qD G p) (qD G q) + 1 ≤ 13
          omega
        have f3 : frW M (upM M2 198 (qn G + 1) ((dpt G p q : Nat) : Int)) (qn G + 1) := f2.u2 ⟨Int.natCast_nonneg _, Int.ofNat_le.mpr dl⟩
        have g20 : upM M2 198 (qn G + 1) ((dpt G p q : Nat) : Int) 187 20 = ((qn G + 2 : Nat) : Int) := by rw [upM_a (by decide)]; exact c20
        have od3 : OdR (upM M2 198 (qn G + 1) ((dpt G p q : Nat) : Int)) (qn G + 1 + 1) (upN (qV G) (qn G + 1) (2 * i + 1)) (upN (qD G) (qn G + 1) (dpt G p q)) := by
          refine ⟨g20, fun k hk => ?_⟩
          by_cases c : k = qn G + 1
          · subst c
            rw [upM_a (by decide), upM_eq, upN_eq, upN_eq]
            exact ⟨c9, rfl⟩
          · rw [upN_ne c, upN_ne c, upM_a (by decide), upM_k c]
            exact od2 k (by omega)
        refine And.intro rfl ?_
        refine m_isByLast hG (by omega) od3 (fun k hk => ?_) (fun k hk => ?_) rfl rfl (fun bl => ?_) (fun bl => ?_)
        · by_cases c : k = qn G + 1
          · subst c; rw [upN_eq]; omega
          · rw [upN_ne c]; exact (WFG_V hw k (by omega)).2.1
        · by_cases c : k = qn G + 1
          · subst c; rw [upN_eq]; show max (qD G p) (qD G q) + 1 ≤ 13; omega
          · rw [upN_ne c]; have := WFG_D hw k (by omega); omega
        · refine And.intro (fun y => absurd y (by decide)) (fun y => ?_)
          refine And.intro (by omega) ?_
          exact ih (i + 1) _ _ (by omega) g20 f3 (Or.inr ⟨2 * i + 1, rfl, ⟨b1, p, q, s, f, b3, bl⟩, a2⟩)
        · refine And.intro (fun y => ?_) (fun y => absurd rfl y)
          refine And.intro (by omega) ?_
          refine ih (i + 1) r _ (by omega) g20 f3 (Or.inl ⟨a1, fun e' he' x => ?_⟩)
          by_cases c1 : e' < 2 * i + 1
          · exact a2 e' c1 x
          · obtain ⟨x1, p', q', s', g', x2, x3⟩ := x
            have xo := isNr_b x1
            have ee : e' = 2 * i + 1 := by omega
            subst ee
            obtain ⟨u1, u2, u3, u4⟩ := byW_u hw b3 x2
            subst u1 u2 u3 u4
            exact bl x3
      · refine And.intro (fun y => ?_) (fun y => by omega)
        refine And.intro (by omega) ?_
        refine ih (i + 1) r M1 (by omega) e20 hf (Or.inl ⟨a1, fun e' he' x => ?_⟩)
        by_cases c1 : e' < 2 * i + 1
        · exact a2 e' c1 x
        · have xo := isNr_b x.1
          have ee : e' = 2 * i + 1 := by omega
          subst ee
          exact b1 x.1
    · refine And.intro (fun y => ?_) (fun y => by omega)
      exact fin r _ M1 e20 hf (Or.inr ⟨e0, a1, a2⟩)
theorem m_twoOf (hG : GOK Γ) (hw : WFG G) (ho : OdR M (qn G + 1) (qV G) (qD G)) (ht : NF M G) {lI vI : Int} {v : Nat} (el : lI = qL G) (ev : vI = v) (hv : v < 1024) (h : ∀ r M', isLst (fun e => (¬ isTh G v ∧ ¬ isNr G v) ∧ twM G v e) r → OdR M' (qn G + 1) (qV G) (qD G) → NF M' G → frW M M' (qn G + 1) → Q (some (VI r)) (W0 L) M') : wp Γ mX10_twoOf 0 [some (VR 187), some (VI lI), some (VI vI)] [] 0 0 (W0 L) M Q := by
  subst el ev
  have n12 := hw.1
  have e20 := ho.1
  refine vc_go hG 60 (B := bX10_twoOf) rfl ?_
  refine And.intro rfl ?_
  refine m_isOdds hG ho (by omega) rfl (fun q => ?_) (fun q => ?_)
  · refine And.intro (fun y => ?_) (fun y => absurd y (by decide))
    exact h _ M (Or.inl ⟨rfl, fun e z => z.1.1 q⟩) ho ht (frW_r M _)
  · refine And.intro (fun y => absurd rfl y) (fun y => ?_)
    refine And.intro rfl (Exists.intro _ (And.intro rfl ?_))
    refine And.intro (Or.inl rfl) (Exists.intro (v) (And.intro (by omega) (And.intro (show v < 1024 by omega) ?_)))
    rcases ht.nr hv with ⟨b1, b2, -⟩ | ⟨b1, b2⟩
    · refine And.intro (fun y => by omega) (fun y => ?_)
      exact h _ M (Or.inl ⟨rfl, fun e z => z.1.2 b1⟩) ho ht (frW_r M _)
    · refine And.intro (fun y => ?_) (fun y => by omega)
      have nt : ¬ isTh G v := fun ⟨k, k1, k2⟩ => q k k1 k2
      refine And.intro rfl ?_
      refine And.intro (by omega) ?_
      refine And.intro rfl ?_
      refine l_twoOf hG hw ho ht (fun r M' hr => h r M' ?_) 512 0 (-9) _ rfl (by rw [upM_eq, e20]; omega) (frW_r M _).u3 (Or.inl ⟨rfl, fun e' he' x => ?_⟩)
      · rcases hr with ⟨a1, a2⟩ | ⟨e0, a1, a2, a3⟩
        · exact Or.inl ⟨a1, fun e z => a2 e z.2⟩
        · exact Or.inr ⟨e0, a1, ⟨⟨nt, b1⟩, a2⟩, fun e' he' z => a3 e' he' z.2⟩
      · have := isNr_b x.1
        omega
end Mod
