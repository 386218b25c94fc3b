/-! ===== the model: the plan ===== -/
theorem nrP_s {G : GT} {k e : Nat} : nrP G (k + 1) e ↔ (nrP G k e ∨ (odp (qC G k) = e ∧ isNr G e)) := by
  constructor
  · rintro ⟨i, h1, h2, h3⟩
    by_cases c : i = k
    · subst c; exact Or.inr ⟨h2, h3⟩
    · exact Or.inl ⟨i, by omega, h2, h3⟩
  · rintro (⟨i, h1, h2, h3⟩ | ⟨h2, h3⟩)
    · exact ⟨i, by omega, h2, h3⟩
    · exact ⟨k, by omega, h2, h3⟩
theorem twP_s {G : GT} {k e : Nat} : twP G (k + 1) e ↔ (twP G k e ∨ (odp (qC G k) = e ∧ hasT G e)) := by
  constructor
  · rintro ⟨i, h1, h2, h3⟩
    by_cases c : i = k
    · subst c; exact Or.inr ⟨h2, h3⟩
    · exact Or.inl ⟨i, by omega, h2, h3⟩
  · rintro (⟨i, h1, h2, h3⟩ | ⟨h2, h3⟩)
    · exact ⟨i, by omega, h2, h3⟩
    · exact ⟨k, by omega, h2, h3⟩
def niN (G : GT) (k : Nat) (z : Int) : Prop := (z = -9 ∧ ∀ e, ¬ nrP G k e) ∨ (∃ e0 : Nat, z = e0 ∧ fst1 (nrP G k) e0)
def niT (G : GT) (k : Nat) (l z : Int) : Prop := (l = -9 ∧ z = -9 ∧ ∀ e, ¬ twP G k e) ∨ (∃ e0 : Nat, l = e0 ∧ fst1 (twP G k) e0 ∧ isTwo G e0 z ∧ z ≠ -9)
theorem niN.no {G : GT} {k : Nat} {z : Int} (h : niN G k z) (hn : ¬ isNr G (odp (qC G k)) ∨ (z ≠ -9 ∧ z ≤ (odp (qC G k) : Nat))) : niN G (k + 1) z := by
  rcases h with ⟨a1, a2⟩ | ⟨e0, a1, a2, a3⟩
  · refine Or.inl ⟨a1, fun e x => ?_⟩
    rcases nrP_s.1 x with x | ⟨x1, x2⟩
    · exact a2 e x
    · rcases hn with hn | hn
      · subst x1; exact hn x2
      · exact hn.1 a1
  · refine Or.inr ⟨e0, a1, nrP_s.2 (Or.inl a2), fun e' he x => ?_⟩
    rcases nrP_s.1 x with x | ⟨x1, x2⟩
    · exact a3 e' he x
    · rcases hn with hn | hn
      · subst x1; exact hn x2
      · omega
theorem niN.yes {G : GT} {k : Nat} {z : Int} (h : niN G k z) (hn : isNr G (odp (qC G k))) (hz : z = -9 ∨ (odp (qC G k) : Nat) < z) : niN G (k + 1) (odp (qC G k) : Nat) := by
  refine Or.inr ⟨_, rfl, nrP_s.2 (Or.inr ⟨rfl, hn⟩), fun e' he x => ?_⟩
  rcases nrP_s.1 x with x | ⟨x1, x2⟩
  · rcases h with ⟨a1, a2⟩ | ⟨e0, a1, a2, a3⟩
    · exact a2 e' x
    · exact a3 e' (by omega) x
  · omega
theorem niT.no {G : GT} {k : Nat} {l z : Int} (h : niT G k l z) (hn : ¬ hasT G (odp (qC G k)) ∨ (l ≠ -9 ∧ l ≤ (odp (qC G k) : Nat))) : niT G (k + 1) l z := by
  rcases h with ⟨a1, a0, a2⟩ | ⟨e0, a1, ⟨a2, a3⟩, a4⟩
  · refine Or.inl ⟨a1, a0, fun e x => ?_⟩
    rcases twP_s.1 x with x | ⟨x1, x2⟩
    · exact a2 e x
    · rcases hn with hn | hn
      · subst x1; exact hn x2
      · exact hn.1 a1
  · refine Or.inr ⟨e0, a1, ⟨twP_s.2 (Or.inl a2), fun e' he x => ?_⟩, a4⟩
    rcases twP_s.1 x with x | ⟨x1, x2⟩
    · exact a3 e' he x
    · rcases hn with hn | hn
      · subst x1; exact hn x2
      · omega
theorem niT.yes {G : GT} {k : Nat} {l z r : Int} (h : niT G k l z) (hr : isTwo G (odp (qC G k)) r) (hn : r ≠ -9) (hz : l = -9 ∨ (odp (qC G k) : Nat) < l) : niT G (k + 1) (odp (qC G k) : Nat) r := by
  refine Or.inr ⟨_, rfl, ⟨twP_s.2 (Or.inr ⟨rfl, (hasT_iff hr).2 hn⟩), fun e' he x => ?_⟩, hr, hn⟩
  rcases twP_s.1 x with x | ⟨x1, x2⟩
  · rcases h with ⟨a1, a0, a2⟩ | ⟨e0, a1, ⟨a2, a3⟩, a4⟩
    · exact a2 e' x
    · exact a3 e' (by omega) x
  · omega
section Mod
variable {Γ : GG} {L : Nat} {M : MM} {Q : QT} {S : ST} {G : GT}
theorem no73 (hG : GOK Γ) (hr : RwR M 191 G) (hw : WFG G) (hnn : ∀ e, ¬ nrP G (qm G) e) (h : ∀ x M', isCh G x → OdR M' (qn G + 1) (qV G) (qD G) → NF M' G → frN9 M M' → Q (some (VI x)) (W0 L) M') : ∀ (j k : Nat) (l z : Int) (M1 : MM), k + j = qm G → niT G k l z → OdR M1 (qn G + 1) (qV G) (qD G) → NF M1 G → frN9 M M1 → wp Γ mX10_nextOf 73 [some (VR 187), some (VR 191), some (VI z), some (VI l), some (VI k)] [] 0 0 (W0 L) M1 Q := by
  have m6 := hw.2.1
  intro j
  induction j with
  | zero =>
    intro k l z M1 hj hi ho ht hf
    have e : k = qm G := by omega
    subst e
    have e0 : M1 191 49 = qm G := by rw [hf.1 191 (by decide) (by decide) (by decide) (by decide)]; exact hr.2.1
    refine vc_go hG 60 (B := bX10_nextOf) rfl ?_
    refine And.intro (Or.inl rfl) (Exists.intro (49) (And.intro (by omega) (And.intro (show 49 < 57 by omega) ?_)))
    refine And.intro (fun y => h z M1 (Or.inr ⟨hnn, ?_⟩) ho ht hf) (fun y => by omega)
    rcases hi with ⟨a1, a0, a2⟩ | ⟨e0, a1, a2, a3, a4⟩
    · exact Or.inr ⟨a2, a0⟩
    · exact Or.inl ⟨e0, a2, a3⟩
  | succ j ih =>
    intro k l z M1 hj hi ho ht hf
    have r1 : RwR M1 191 G := hr.keep (hf.1 191 (by decide) (by decide) (by decide) (by decide))
    have e0 := r1.2.1
    have e1 := r1.2.2.2.2 k (by omega)
    have cb := hw.2.2.2.2.2.2.1 k (by omega)
    have wc := wC hw (k := k) (by omega)
    -- the ends of the four roads
    have fin : ∀ (r : Int) (M2 : MM), OdR M2 (qn G + 1) (qV G) (qD G) → NF M2 G → frN9 M M2 → (r ≠ -9 → niT G (k + 1) (odp (qC G k) : Nat) r) → (r = -9 → niT G (k + 1) l z) → wp Γ mX10_nextOf 121 [some (VR 187), some (VR 191), some (VI z), some (VI l), some (VI k), some (VI (odp (qC G k) : Nat))] [VI r] 0 0 (W0 L) M2 Q := by
      intro r M2 ho2 ht2 hf2 h1 h2
      refine vc_go hG 60 (B := bX10_nextOf) rfl ?_
      refine And.intro (fun y => ?_) (fun y => ?_)
      · refine And.intro (fun y2 => ?_) (fun y2 => absurd y y2)
        refine And.intro (by omega) ?_
        exact wp_pre [some (VR 187), some (VR 191), some (VI z), some (VI l), some (VI ((k + 1 : Nat) : Int))] [some (VI (odp (qC G k) : Nat)), some (VI r)] (ih (k + 1) l z M2 (by omega) (h2 y) ho2 ht2 hf2)
      · refine And.intro (fun y2 => absurd y2 y) (fun y2 => ?_)
        refine And.intro (by omega) ?_
        exact wp_pre [some (VR 187), some (VR 191), some (VI r), some (VI (odp (qC G k) : Nat)), some (VI ((k + 1 : Nat) : Int))] [some (VI (odp (qC G k) : Nat)), some (VI r)] (ih (k + 1) _ r M2 (by omega) (h1 y) ho2 ht2 hf2)
    have call : (l = -9 ∨ (odp (qC G k) : Nat) < l) → wp Γ mX10_nextOf 106 [some (VR 187), some (VR 191), some (VI z), some (VI l), some (VI k), some (VI (odp (qC G k) : Nat))] [] 0 0 (W0 L) M1 Q := by
      intro hl
      refine vc_goS hG 60 [121] (B := bX10_nextOf) rfl ?_
      refine And.intro (Or.inl rfl) (Exists.intro (56) (And.intro (by omega) (And.intro (show 56 < 57 by omega) ?_)))
      refine And.intro rfl ?_
      refine m_two hG hw ho ht r1.2.2.1 rfl wc (fun r M2 z1 z2 z3 z4 => ?_)
      exact fin r M2 z2 z3 (hf.t z4) (fun hn => hi.yes z1 hn hl) (fun hn => hi.no (Or.inl (fun x => (hasT_iff z1).1 x hn)))
    refine vc_goS hG 60 [106, 121] (B := bX10_nextOf) rfl ?_
    refine And.intro (Or.inl rfl) (Exists.intro (49) (And.intro (by omega) (And.intro (show 49 < 57 by omega) ?_)))
    refine And.intro (fun y => by omega) (fun y => ?_)
    refine And.intro (by omega) ?_
    refine And.intro (Or.inl rfl) (Exists.intro (50 + k) (And.intro (by omega) (And.intro (show 50 + k < 57 by omega) ?_)))
    refine m_oddPart hG e1 (by omega) ?_
    refine And.intro (fun y2 => call (Or.inl y2)) (fun y2 => ?_)
    refine And.intro (fun y3 => ?_) (fun y3 => call (Or.inr y3))
    exact fin (-9) M1 ho ht hf (fun x => absurd rfl x) (fun _ => hi.no (Or.inr ⟨y2, y3⟩))
theorem no5 (hG : GOK Γ) (hr : RwR M 191 G) (hw : WFG G) (ho : OdR M (qn G + 1) (qV G) (qD G)) (ht : NF M G) (h : ∀ x M', isCh G x → OdR M' (qn G + 1) (qV G) (qD G) → NF M' G → frN9 M M' → Q (some (VI x)) (W0 L) M') : ∀ (j k : Nat) (z : Int), k + j = qm G → niN G k z → wp Γ mX10_nextOf 5 [some (VR 187), some (VR 191), some (VI z), some (VI k)] [] 0 0 (W0 L) M Q := by
  have m6 := hw.2.1
  have e0 := hr.2.1
  have fr : frN9 M M := ⟨fun _ _ _ _ _ => rfl, fun _ _ => rfl, fun z => z⟩
  intro j
  induction j with
  | zero =>
    intro k z hj hi
    have e : k = qm G := by omega
    subst e
    refine vc_go hG 60 (B := bX10_nextOf) rfl ?_
    refine And.intro (Or.inl rfl) (Exists.intro (49) (And.intro (by omega) (And.intro (show 49 < 57 by omega) ?_)))
    refine And.intro (fun y => ?_) (fun y => by omega)
    refine And.intro (fun y2 => ?_) (fun y2 => ?_)
    · rcases hi with ⟨a1, a2⟩ | ⟨e0, a1, a2⟩
      · have key := no73 hG hr hw a2 h (qm G) 0 (-9) (-9) M (by omega) (Or.inl ⟨rfl, rfl, fun e ⟨i, i1, _⟩ => by omega⟩) ho ht fr
        rw [a1]
        exact key
      · omega
    · rcases hi with ⟨a1, a2⟩ | ⟨e0, a1, a2⟩
      · exact absurd a1 y2
      · exact h z M (Or.inl ⟨e0, a2, a1⟩) ho ht fr
  | succ j ih =>
    intro k z hj hi
    have e1 := hr.2.2.2.2 k (by omega)
    have cb := hw.2.2.2.2.2.2.1 k (by omega)
    have wc := wC hw (k := k) (by omega)
    have fin : ∀ z' : Int, niN G (k + 1) z' → wp Γ mX10_nextOf 53 [some (VR 187), some (VR 191), some (VI z'), some (VI k), some (VI (odp (qC G k) : Nat))] [] 0 0 (W0 L) M Q := by
      intro z' hz'
      refine vc_go hG 60 (B := bX10_nextOf) rfl ?_
      refine And.intro (by omega) ?_
      exact wp_pre [some (VR 187), some (VR 191), some (VI z'), some (VI ((k + 1 : Nat) : Int))] [some (VI (odp (qC G k) : Nat))] (ih (k + 1) z' (by omega) hz')
    refine vc_goS hG 60 [53] (B := bX10_nextOf) rfl ?_
    refine And.intro (Or.inl rfl) (Exists.intro (49) (And.intro (by omega) (And.intro (show 49 < 57 by omega) ?_)))
    refine And.intro (fun y => by omega) (fun y => ?_)
    refine And.intro (by omega) ?_
    refine And.intro (Or.inl rfl) (Exists.intro (50 + k) (And.intro (by omega) (And.intro (show 50 + k < 57 by omega) ?_)))
    refine m_oddPart hG e1 (by omega) ?_
    refine And.intro rfl (Exists.intro _ (And.intro rfl ?_))
    refine And.intro (Or.inl rfl) (Exists.intro (odp (qC G k)) (And.intro (by omega) (And.intro (show odp (qC G k) < 1024 by omega) ?_)))
    rcases ht.nr (v := odp (qC G k)) (by omega) with ⟨b1, b2, -⟩ | ⟨b1, b2⟩
    · refine And.intro (fun y => by omega) (fun y => ?_)
      refine And.intro (fun y2 => fin _ (hi.yes b1 (Or.inl y2))) (fun y2 => ?_)
      exact And.intro (fun y3 => fin _ (hi.no (Or.inr ⟨y2, y3⟩))) (fun y3 => fin _ (hi.yes b1 (Or.inr y3)))
    · exact And.intro (fun y => fin _ (hi.no (Or.inl b1))) (fun y => by omega)
theorem m_nextOf (hG : GOK Γ) (hr : RwR M 191 G) (hw : WFG G) (ho : OdR M (qn G + 1) (qV G) (qD G)) (ht : NF M G) (h : ∀ x M', isCh G x → OdR M' (qn G + 1) (qV G) (qD G) → NF M' G → frN9 M M' → Q (some (VI x)) (W0 L) M') : wp Γ mX10_nextOf 0 [some (VR 187), some (VR 191)] [] 0 0 (W0 L) M Q := by
  refine vc_go hG 60 (B := bX10_nextOf) rfl ?_
  exact no5 hG hr hw ho ht h (qm G) 0 (-9) (by omega) (Or.inl ⟨rfl, fun e ⟨i, i1, _⟩ => by omega⟩)
end Mod
