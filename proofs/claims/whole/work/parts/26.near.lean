/-! ===== the class's Near: how the table is made ===== -/
theorem getL_app : ∀ (ls ex : LL) (i : Nat) (v : AV), getL ls i = some v → getL (ls ++ ex) i = some v
  | [], _, _, _, h => by cases h
  | x :: xs, ex, 0, v, h => h
  | x :: xs, ex, i + 1, v, h => getL_app xs ex i v h
/-- locals that are not needed any more -/
theorem wp_pre {Γ : GG} {μ pc : Nat} (ls ex : LL) {st : List AV} {cs sl : Nat} {w : Wd} {M : MM} {Q : QT} (h : wp Γ μ pc ls st cs sl w M Q) : wp Γ μ pc (ls ++ ex) st cs sl w M Q :=
  fun p e R s m args below meth c H locs lc Z C hH hL hSt hS hR => h p e R s m args below meth c H locs lc Z C hH ⟨hL.1, hL.2.1, fun i v hi => hL.2.2 i v (getL_app ls ex i v hi)⟩ hSt hS hR
def NrL (w : Wd) (a : Nat) : Prop := w.1 a = 8 ∧ w.2.2.1 a 0 = some (a + 1) ∧ w.2.2.1 a 1 = some (a + 2) ∧ w.1 (a + 1) = 0 ∧ w.2.1 (a + 1) = 512 ∧ w.1 (a + 2) = 0 ∧ w.2.1 (a + 2) = 512
theorem NrL.k {w : Wd} {a : Nat} (h : NrL w a) : w.1 a = 8 := h.1
theorem NrL.r0 {w : Wd} {a : Nat} (h : NrL w a) : w.2.2.1 a 0 = some (a + 1) := h.2.1
theorem NrL.r1 {w : Wd} {a : Nat} (h : NrL w a) : w.2.2.1 a 1 = some (a + 2) := h.2.2.1
theorem NrL.k1 {w : Wd} {a : Nat} (h : NrL w a) : w.1 (a + 1) = 0 := h.2.2.2.1
theorem NrL.l1 {w : Wd} {a : Nat} (h : NrL w a) : w.2.1 (a + 1) = 512 := h.2.2.2.2.1
theorem NrL.k2 {w : Wd} {a : Nat} (h : NrL w a) : w.1 (a + 2) = 0 := h.2.2.2.2.2.1
theorem NrL.l2 {w : Wd} {a : Nat} (h : NrL w a) : w.2.1 (a + 2) = 512 := h.2.2.2.2.2.2
abbrev XP : Type := Nat → Nat → Nat → Nat → Prop
/-- what the adder p, q, s, f makes -/
abbrev mkV (G : GT) (p q s f : Nat) : Nat := odp (cms (qV G p) s (qV G q) f)
abbrev dpt (G : GT) (p q : Nat) : Nat := max (qD G p) (qD G q) + 1
/-- the table of ways: there, far, or the first of the offered adders -/
def NrT (M : MM) (a : Nat) (G : GT) (Th : Nat → Prop) (X : XP) : Prop := ∀ i, i < 512 → (Th (2 * i + 1) ∧ M (a + 1) i = -2) ∨ (¬ Th (2 * i + 1) ∧ ((M (a + 1) i = -1 ∧ ∀ p q s f, X p q s f → mkV G p q s f ≠ 2 * i + 1) ∨
  ∃ p q s f, X p q s f ∧ mkV G p q s f = 2 * i + 1 ∧ M (a + 1) i = (cdw p q s f : Nat) ∧ M (a + 2) i = (dpt G p q : Nat) ∧ ∀ p' q' s' f', X p' q' s' f' → mkV G p' q' s' f' = 2 * i + 1 → cdw p q s f ≤ cdw p' q' s' f'))
theorem NrT.congr {M : MM} {a : Nat} {G : GT} {Th Th' : Nat → Prop} {X X' : XP} (h : NrT M a G Th X) (ht : ∀ v, Th v ↔ Th' v) (hx : ∀ p q s f, X p q s f ↔ X' p q s f) : NrT M a G Th' X' := by
  have e1 : Th = Th' := funext (fun v => propext (ht v))
  have e2 : X = X' := funext (fun p => funext (fun q => funext (fun s => funext (fun f => propext (hx p q s f)))))
  rw [← e1, ← e2]
  exact h
theorem NrT.keep {M M' : MM} {a : Nat} {G : GT} {Th : Nat → Prop} {X : XP} (h : NrT M a G Th X) (h1 : M' (a + 1) = M (a + 1)) (h2 : M' (a + 2) = M (a + 2)) : NrT M' a G Th X := by
  unfold NrT
  rw [h1, h2]
  exact h
/-- another graph with the same values and depths as far as the offers go -/
theorem NrT.graph {M : MM} {a : Nat} {G G' : GT} {Th : Nat → Prop} {X : XP} (h : NrT M a G Th X) (hv : ∀ p q s f, X p q s f → mkV G p q s f = mkV G' p q s f ∧ dpt G p q = dpt G' p q) : NrT M a G' Th X := by
  intro i hi
  rcases h i hi with h1 | ⟨h0, h1 | ⟨p, q, s, f, a1, a2, a3, a4, a5⟩⟩
  · exact Or.inl h1
  · exact Or.inr ⟨h0, Or.inl ⟨h1.1, fun p q s f hx => by rw [← (hv p q s f hx).1]; exact h1.2 p q s f hx⟩⟩
  · refine Or.inr ⟨h0, Or.inr ⟨p, q, s, f, a1, by rw [← (hv p q s f a1).1]; exact a2, a3, by rw [← (hv p q s f a1).2]; exact a4, fun p' q' s' f' hx e => a5 p' q' s' f' hx (by rw [(hv p' q' s' f' hx).1]; exact e)⟩⟩
/-- nothing but the two rows has changed -/
def frN (M M' : MM) (a : Nat) : Prop := ∀ b, b ≠ a + 1 → b ≠ a + 2 → M' b = M b
theorem frN.t {M M' M2 : MM} {a : Nat} (h1 : frN M M' a) (h2 : frN M' M2 a) : frN M M2 a := fun b b1 b2 => (h2 b b1 b2).trans (h1 b b1 b2)
section Near
variable {Γ : GG} {w : Wd} {M : MM} {Q : QT} {a g : Nat} {G : GT}
theorem c_offer (hG : GOK Γ) (ha : NrL w a) {Th : Nat → Prop} {X : XP} (ht : NrT M a G Th X) {vI cI dI : Int} {p q s f i : Nat} (hi : i < 512) (ev : vI = ((2 * i + 1 : Nat) : Int)) (ec : cI = (cdw p q s f : Nat)) (ed : dI = (dpt G p q : Nat)) (hv : mkV G p q s f = 2 * i + 1)
    (h : ∀ M', NrT M' a G Th (fun p' q' s' f' => X p' q' s' f' ∨ (p' = p ∧ q' = q ∧ s' = s ∧ f' = f)) → frN M M' a → Q none w M') : wp Γ mX4_offer 0 [some (VR a), some (VI vI), some (VI cI), some (VI dI)] [] 0 0 w M Q := by
  subst ev ec ed
  have e1 : ((2 * i + 1 : Nat) : Int) / 2 ^ ((1 : Int).toNat) = (i : Int) := by
    rw [show ((2 * i + 1 : Nat) : Int) / 2 ^ ((1 : Int).toNat) = (((2 * i + 1) / 2 : Nat) : Int) from srN (2 * i + 1) 1]
    omega
  have hold : M (a + 1) i ≠ -1 → ¬ ((cdw p q s f : Nat) : Int) < M (a + 1) i → Q none w M := by
    intro n1 n2
    refine h M (fun j hj => ?_) (fun b _ _ => rfl)
    rcases ht j hj with h1 | ⟨h0, h1 | ⟨p', q', s', f', a1, a2, a3, a4, a5⟩⟩
    · exact Or.inl h1
    · refine Or.inr ⟨h0, Or.inl ⟨h1.1, fun p2 q2 s2 f2 hx => ?_⟩⟩
      rcases hx with hx | ⟨rfl, rfl, rfl, rfl⟩
      · exact h1.2 p2 q2 s2 f2 hx
      · rw [hv]
        intro e
        have : i = j := by omega
        subst this
        exact n1 h1.1
    · refine Or.inr ⟨h0, Or.inr ⟨p', q', s', f', Or.inl a1, a2, a3, a4, fun p2 q2 s2 f2 hx e => ?_⟩⟩
      rcases hx with hx | ⟨rfl, rfl, rfl, rfl⟩
      · exact a5 p2 q2 s2 f2 hx e
      · rw [hv] at e
        have : i = j := by omega
        subst this
        rw [a3] at n2
        omega
  have hnew : (M (a + 1) i = -1 ∨ ((cdw p q s f : Nat) : Int) < M (a + 1) i) → Q none w (upM (upM M (a + 1) i (cdw p q s f : Nat)) (a + 2) i (dpt G p q : Nat)) := by
    intro n1
    refine h _ (fun j hj => ?_) (fun b b1 b2 => by rw [upM_ne b2, upM_ne b1])
    by_cases e : j = i
    · subst e
      rcases ht j hj with h1 | ⟨h0, h1⟩
      · rw [h1.2] at n1; omega
      · refine Or.inr ⟨h0, Or.inr ⟨p, q, s, f, Or.inr ⟨rfl, rfl, rfl, rfl⟩, hv, by rw [upM_a (by omega), upM_eq], by rw [upM_eq], fun p2 q2 s2 f2 hx e => ?_⟩⟩
        rcases hx with hx | ⟨rfl, rfl, rfl, rfl⟩
        · rcases h1 with h1 | ⟨p', q', s', f', a1, a2, a3, a4, a5⟩
          · exact absurd e (h1.2 p2 q2 s2 f2 hx)
          · have := a5 p2 q2 s2 f2 hx e
            rw [a3] at n1
            omega
        · exact Nat.le_refl _
    · rw [upM_a (by omega), upM_k e, upM_k e, upM_a (by omega)]
      rcases ht j hj with h1 | ⟨h0, h1 | ⟨p', q', s', f', a1, a2, a3, a4, a5⟩⟩
      · exact Or.inl h1
      · refine Or.inr ⟨h0, Or.inl ⟨h1.1, fun p2 q2 s2 f2 hx => ?_⟩⟩
        rcases hx with hx | ⟨rfl, rfl, rfl, rfl⟩
        · exact h1.2 p2 q2 s2 f2 hx
        · rw [hv]; omega
      · refine Or.inr ⟨h0, Or.inr ⟨p', q', s', f', Or.inl a1, a2, a3, a4, fun p2 q2 s2 f2 hx e => ?_⟩⟩
        rcases hx with hx | ⟨rfl, rfl, rfl, rfl⟩
        · exact a5 p2 q2 s2 f2 hx e
        · rw [hv] at e; omega
  refine vc_go hG 60 (B := bX4_offer) rfl ?_
  refine And.intro ⟨by omega, by decide, by decide⟩ ?_
  rw [e1]
  refine And.intro ha.k (Exists.intro _ (And.intro ha.r0 ?_))
  refine And.intro (Or.inl ha.k1) (Exists.intro i (And.intro rfl (And.intro (by rw [ha.l1]; exact hi) ?_)))
  refine And.intro (fun b => ?_) (fun b => ?_)
  · refine And.intro ha.k (Exists.intro _ (And.intro ha.r0 ?_))
    refine And.intro ha.k1 (Exists.intro i (And.intro rfl (And.intro (by rw [ha.l1]; exact hi) ?_)))
    refine And.intro ha.k (Exists.intro _ (And.intro ha.r1 ?_))
    refine And.intro ha.k2 (Exists.intro i (And.intro rfl (And.intro (by rw [ha.l2]; exact hi) ?_)))
    exact hnew (Or.inl b)
  · refine And.intro ha.k (Exists.intro _ (And.intro ha.r0 ?_))
    refine And.intro (Or.inl ha.k1) (Exists.intro i (And.intro rfl (And.intro (by rw [ha.l1]; exact hi) ?_)))
    refine And.intro (fun c => hold b (by omega)) (fun c => ?_)
    refine And.intro ha.k (Exists.intro _ (And.intro ha.r0 ?_))
    refine And.intro ha.k1 (Exists.intro i (And.intro rfl (And.intro (by rw [ha.l1]; exact hi) ?_)))
    refine And.intro ha.k (Exists.intro _ (And.intro ha.r1 ?_))
    refine And.intro ha.k2 (Exists.intro i (And.intro rfl (And.intro (by rw [ha.l2]; exact hi) ?_)))
    exact hnew (Or.inr c)
end Near
